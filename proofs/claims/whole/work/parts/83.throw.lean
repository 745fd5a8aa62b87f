/-! THE THROW of share -/
section VXE
variable {p : Program} {l : Launch} {e : Env} {R : Room} {s : State} {m : MethodId} {args : Array Value} {below : List Frame} {meth : Method} {c : Code} {H : Heap} {locs : List Loc} {cells slots : Nat} {Q : State → Prop}
variable {mc ms : Nat} {free : Addr → Prop} {A0 A1 : Nat → Prop} {H0 : Heap} {a : Array Value} {ls : Array Slot} {st0 rest : List Value}
variable {Qc : Array Value → State → Outcome → State → Prop} {XC : String → State → State → Prop}
theorem vxS {cc : ByteArray} {pc : Nat} (hexec : p.tables.exec = Jvm.exec) (hb : c.code = cc) (hl : l.stackTraces = false) {own cls text : String} {names : List String} {ik is ic mc ms sa : Nat} {A : Nat → Prop}
    (hown : s.vm.findClass own = some m.cls) (hcls : Bundle.fit cls = true) (hnames : ∀ n ∈ names, Bundle.fit n = true)
    (hk : (Cond.classLink own ik cls).before args s = true) (hini : (Cond.initialized cls).before args s = true) (hstr : vk_R own is text sa s) (hat : ∀ w ∈ vx_atS own ic cls names, w.before args s = true)
    (hgood : ∀ w ∈ Cond.classLink own ik cls :: Cond.initialized cls :: vx_atS own ic cls names, vx_ot w = true)
    (hU : vx_Zq Bundle.tN "UNASSIGNED_STACK" Bundle.steD A s s.heap) (hN : vx_Zq Bundle.tN "SUPPRESSED_SENTINEL" Bundle.listD A s s.heap) (hS : va_S A s.heap H locs) (hsize : ls.size = c.maxLocals)
    (d0 : decode cc pc = .ok (.new ik, 3)) (d3 : decode cc (pc + 3) = .ok (.dup, 1)) (d4 : decode cc (pc + 4) = .ok (.ldc is, 2)) (d6 : decode cc (pc + 6) = .ok (.invokespecial ic, 3)) (d9 : decode cc (pc + 9) = .ok (.athrow, 1))
    (hout : ∀ x ∈ c.exceptionTable.toList, covers x (pc + 9) = false)
    (hRframes : names.length + 3 < R.frames) (hRlocals : (rest.map fun v => v.category).sum + (13 * (names.length + 1) + 43) ≤ R.locals) (hRcells : cells + 1 ≤ R.cells) (hRslots : slots + 6 ≤ R.slots) (hlocks : meth.locks = false)
    (hx : ∀ t : State, s.vm.Alike t.vm → t.heap.size = H.size + 1 → (∀ q : Nat, q < H.size → t.heap[q]? = H[q]?) → XC cls s t)
    (hf : ∀ z ∈ locs, free z.base) (hc : cells + 1 ≤ mc) (hs : slots + 6 ≤ ms) :
    W p l e R s m args below meth c H locs cells slots (vx_MQ below Qc XC args s mc ms free) (F0 m pc ls rest) := by
  intro T hT X
  have htr : e.platform.stackTraces = false := (show e.platform.stackTraces = l.stackTraces by rw [X.admits.platform]).trans hl
  have Y := vx_rebase X (R' := { frames := R.frames, locals := R.locals, cells := 1, slots := 6 }) (Nat.le_refl _) (Nat.le_refl _) hRcells hRslots
  obtain ⟨s', hA⟩ : ∃ z, z = (T.setVm s.vm).setFrames (.invoking m args :: below) := ⟨_, rfl⟩
  rw [← hA] at Y
  have hvm : s'.vm = s.vm := by rw [hA]; rfl
  have hhp : s'.heap = H := by rw [hA]; exact hT
  have hW0 : s.WarmedH s'.vm := by rw [hvm]; exact State.WarmedH.refl s
  have hat' : ∀ w ∈ vx_atS own ic cls names, w.before args s' = true := fun w hw => vx_ot_at hW0 hvm.symm (hgood w (List.mem_cons_of_mem _ (List.mem_cons_of_mem _ hw))) (hat w hw)
  have hk' : (Cond.classLink own ik cls).before args s' = true := vx_ot_at hW0 hvm.symm (hgood _ List.mem_cons_self) hk
  have hini' : (Cond.initialized cls).before args s' = true := vx_ot_at hW0 hvm.symm (hgood _ (List.mem_cons_of_mem _ List.mem_cons_self)) hini
  have hU' : vx_Zq Bundle.tN "UNASSIGNED_STACK" Bundle.steD A s' s'.heap := by rw [hhp]; exact vx_Zq.moved hW0.alike (hU.kept hS.2.1)
  have hN' : vx_Zq Bundle.tN "SUPPRESSED_SENTINEL" Bundle.listD A s' s'.heap := by rw [hhp]; exact vx_Zq.moved hW0.alike (hN.kept hS.2.1)
  have h : ∀ w ∈ Bundle.ownAtoms own ic cls names, w.before args s' = true := vx_own hat' (vx_isRefq hU'.1) (vx_isRefq hN'.1) hU'.2.word hN'.2.word
  have hown' : s'.vm.findClass own = some m.cls := by rw [hvm]; exact hown
  have hins : (Cond.instantiable cls 6).before args s' = true := h _ (by simp [Bundle.ownAtoms])
  obtain ⟨vm₁, cX, kX, hfX, hkX, -, -, X₁, st1⟩ := Y.newCold hexec (own := own) (C := cls) (index := ik) (n := 6) hown' hk' hins hini'
    (g := F0 m pc ls rest) rfl (by rw [hb]; exact d0) (Nat.le_refl _) (Nat.le_refl _)
  generalize hT1 : (T.setVm vm₁).pushCell { cls := cX, slots := kX.instanceTypes.map defaultValue, vm := .none } = T1 at X₁ st1
  have hcat : (Value.ref T.heap.size).category = 1 := rfl
  have hcellA : T1.heap[T.heap.size]? = some (freshCell cX kX) := by rw [← hT1]; exact State.heap_pushCell_size _ _
  have d3' : decode c.code (pc + 3) = .ok (.dup, 1) := by rw [hb]; exact d3
  have d4' : decode c.code (pc + 4) = .ok (.ldc is, 2) := by rw [hb]; exact d4
  have hstr' : vk_R own is text sa s' := vk_R.warm hW0 hstr
  obtain ⟨U, hsteps, hrun, hend, hW, hsame, ce, hce, hO⟩ := X₁.ctorThrowS hexec htr (own := own) (cls := cls) (names := names) (ic := ic) hown' hcls hnames h (fun x hx => nomatch hx) hfX hkX hcellA (by rw [hhp, hT]; exact Nat.le_refl _) (msg := .ref sa) rfl
    (g := { method := m, pc := pc + 6, locals := ls, stack := .ref sa :: .ref T.heap.size :: .ref T.heap.size :: rest, locked := none }) rfl hsize rfl rfl (rest := rest) rfl
    (by rw [hb]; exact d6) (by rw [hb]; exact d9) hout hRframes (by simp only [List.map_cons, List.sum_cons, hcat]; omega) hlocks
  obtain ⟨f1, f2⟩ := vx_frame hsame
  have f3 : U.heap.size ≤ s'.heap.size + (0 + 1) := hsame.2.2.1
  have f4 : T.heap.size < U.heap.size := (Array.getElem?_eq_some_iff.mp hce).1
  rw [hhp] at f1 f2 f3
  rw [hT] at f4
  have hWs : s.WarmedH U.vm := State.WarmedH.trans hW0 hW
  have hcl : s.vm.findClass cls = some ce.cls := by
    have h9 := hO.cls
    rw [hvm] at h9
    exact h9
  have hall : s.sameButNew ({ U with vm := s.vm } : State) locs mc ms := by
    subst hA
    obtain ⟨e1, e2⟩ := hsame
    rw [State.setFrames_setFrames] at e1
    have h2 : (T.setVm s.vm).sameButNew ({ U with vm := s.vm } : State) [] (0 + 1) (0 + 6) := ⟨e1, e2⟩
    have h3 := X.same.trans h2
    rw [List.append_nil] at h3
    exact h3.mono hc hs
  refine ⟨U, ?_, .threw T.heap.size, hrun, hend, Or.inr ⟨T.heap.size, rfl, cls, ce, locs, hx U hWs.alike (by omega) (fun q hq => f2 q hq (fun z hz => nomatch hz)), hce, hO.vm, hcl, hWs, hall, hf⟩⟩
  refine st1 _ ?_
  show Steps p.tables e below (T1.setTop { method := m, pc := pc + 3, locals := ls, stack := .ref T.heap.size :: rest, locked := none }) _
  jvm_step X₁.here [X₁.here.top, hexec, d3', Value.category]
  exact X₁.ldcString hexec (own := own) (text := text) (index := is) (a := sa) hown' hstr'.1 hstr'.2
    (g := { method := m, pc := pc + 4, locals := ls, stack := .ref T.heap.size :: .ref T.heap.size :: rest, locked := none }) rfl d4' _ hsteps
end VXE
/-- what of the start a throw needs -/
abbrev aeN : String := "java/lang/ArithmeticException"
def KX (base : Nat) (U : State) : Prop :=
  (∃ sa, vk_R RX5 125 "neither entry has marks" sa U) ∧ va_Nw (.declares ⟨"java/lang/RuntimeException", "<init>", "(Ljava/lang/String;)V"⟩) U ∧ va_Nw (.declares ⟨"java/lang/Exception", "<init>", "(Ljava/lang/String;)V"⟩) U ∧ va_Nw (.declares ⟨"java/lang/Throwable", "<init>", "(Ljava/lang/String;)V"⟩) U ∧ va_Nw (.castable aeN aeN) U ∧
  vx_Zq Bundle.tN "UNASSIGNED_STACK" Bundle.steD (fun q => base ≤ q) U U.heap ∧ vx_Zq Bundle.tN "SUPPRESSED_SENTINEL" Bundle.listD (fun q => base ≤ q) U U.heap
theorem KX.warm {base : Nat} {s U : State} (h : KX base s) (hW : s.WarmedH U.vm) (hk : ∀ a : Nat, a < s.heap.size → ¬ base ≤ a → U.heap[a]? = s.heap[a]?) : KX base U := by
  obtain ⟨⟨sa, h1⟩, h2, h3, h4, h5, h6, h7⟩ := h
  exact ⟨⟨sa, vk_R.warm hW h1⟩, va_Nw.warmD hW h2, va_Nw.warmD hW h3, va_Nw.warmD hW h4, va_Nw.warmC hW h5, (vx_Zq.moved hW.alike h6).kept hk, (vx_Zq.moved hW.alike h7).kept hk⟩
theorem KX.blind {base : Nat} {U : State} {g : JFrame} {mk : MethodId} {a : Array Value} (h : KX base U) : KX base (U.calling g mk a) := by
  obtain ⟨⟨sa, h1⟩, h2, h3, h4, h5, h6, h7⟩ := h
  have al : U.vm.Alike (U.calling g mk a).vm := Vm.Alike.refl U.vm
  exact ⟨⟨sa, vk_R.same rfl h1⟩, va_Nw.same rfl rfl h2, va_Nw.same rfl rfl h3, va_Nw.same rfl rfl h4, va_Nw.same rfl rfl h5, h6.moved al, h7.moved al⟩
theorem hw_blindX {D : va_G} {G : GC} {base : Nat} {E : PE} {σ : PS} {av : List Value} : FrameBlind (va_Pc av (fun U => Rp D G base σ U.heap ∧ Kn D G base E U ∧ KX base U)) := fun _ _ _ _ q => ⟨q.1, q.2.1, q.2.2.1.blind, q.2.2.2.blind⟩
theorem hw_preX {D : va_G} {G : GC} {base : Nat} {E : PE} {s : State} {σ0 σ : PS} {H : Heap} {locs : List Loc} {cells slots : Nat} (hKn : Kn D G base E s) (hKX : KX base s) (hD : Dy D G base E s.heap σ0 σ H locs cells slots) (U : State) (hU : U.heap = H) (hW : s.WarmedH U.vm) : Rp D G base σ U.heap ∧ Kn D G base E U ∧ KX base U :=
  ⟨(hw_pre hKn hD U hU hW).1, (hw_pre hKn hD U hU hW).2, hKX.warm hW (fun a h1 h2 => by rw [hU]; exact hD.2.1.2.1 a h1 h2)⟩
theorem Rp.pT {D : va_G} {G : GC} {base : Nat} {σ : PS} {H H1 : Heap} (h : Rp D G base σ H) (z : H1.size = H.size + 1) (oq : ∀ q : Nat, q < H.size → H1[q]? = H[q]?) : Rp D G base (pT σ) H1 := by
  obtain ⟨h1, h2, h3⟩ := h
  refine ⟨by show H1.size = sN σ + 1; omega, Nat.le_succ_of_le h2, fun b k hb => ?_⟩
  obtain ⟨g1, g2⟩ := h3 b k hb
  exact ⟨g1, g2.kept (oq b g2.lt) dEq.rf⟩
/-- THE CONTRACT of a method that throws an ArithmeticException -/
abbrev XT (D : va_G) (G : GC) (base : Nat) (τ : PS) : String → State → State → Prop := fun cl st t => cl = aeN ∧ Rp D G base (pT τ) t.heap ∧ va_F (fun q => base ≤ q) st t
def CtT (l : Launch) (D : va_G) (G : GC) (base : Nat) (E : PE) (y : MethodName) (ws : List Cond) (fr lo : Nat) (av : List Value) (σ τ : PS) : Prop :=
  vx_Met l y ws ({ frames := fr, cells := 1, slots := 6, locals := lo } : Room) (va_Pc av (fun U => Rp D G base σ U.heap ∧ Kn D G base E U ∧ KX base U)) (fun _ _ _ _ => False) (XT D G base τ) 1 6 (fun q => base ≤ q)
theorem CtT.of {l : Launch} {D : va_G} {G : GC} {base : Nat} {E : PE} {y : MethodName} {ws ws' : List Cond} {fr lo : Nat} {av : List Value} {σ τ : PS} {cc : ByteArray} {maxL : Nat} {ret : Option FieldType} {own : String} (cs : List Nat) (hy : plainName y.cls = true) (hw : ws = Cond.code y cc maxL ret :: ws') (hown : y.cls = own) (hE : E.2.1 = sN σ + 1 ∧ E.2.2.1 = sS σ + 6) (hcs : av.map (fun v => v.category) = cs) (hle : (cs.map (fun c => if c = 2 then 2 else 1)).sum ≤ maxL)
    (body : ∀ (p : Program) (e : Env) (s : State) (m : MethodId) (below : List Frame) (meth : Method) (c : Code) (R : Room) (Q : State → Prop) (ls : Array Slot) (H : Heap) (locs : List Loc) (cells slots : Nat), CallFix p m c cc maxL s av.toArray ws own → Kn D G base E s → KX base s → (R.cells = E.2.1 - sN σ ∧ R.slots = E.2.2.1 - sS σ) → R.frames = fr → R.locals = lo → meth.locks = false → meth.sig.returnType = ret → meth.name = y.name → (∀ x ∈ c.exceptionTable.toList, False) → Q = vx_MQ below (fun _ _ _ _ => False) (XT D G base τ) av.toArray s 1 6 (fun q => base ≤ q) → Dy D G base E s.heap σ σ H locs cells slots → lv_has ls maxL (lvA 0 av cs) → W p l e R s m av.toArray below meth c H locs cells slots Q (F0 m 0 ls [])) : CtT l D G base E y ws fr lo av σ τ := by
  refine vx_ofW (cc := cc) (maxL := maxL) (ret := ret) hy hw ?_
  intro p e s m args below meth c s₁ B hml hnt hv
  obtain ⟨rfl, hRp, hKn, hKX⟩ := hv
  have hts := atoms_spec (ws := ws) B.pre
  have hownC : s.vm.findClass own = some m.cls := by rw [← hown]; exact findClass_of_methodNamed B.named
  have hl := lv_entry av (n := maxL) (by rw [lg_len av cs hcs]; exact hle)
  rw [lvA_eq av cs 0 hcs] at hl
  rw [lg_entry_eq]
  exact body p e s m below meth c _ _ _ _ _ _ _ ⟨B.exec, B.bytes, hml, hownC, hts⟩ hKn hKX ⟨by rw [hE.1]; show 1 = _; omega, by rw [hE.2]; show 6 = _; omega⟩ rfl rfl B.notSynchronized B.returns (name_of_methodNamed B.named B.method).1 hnt rfl ⟨hRp, va_S.rf, rfl, rfl, by omega, by omega⟩ hl
set_option maxHeartbeats 4000000 in
set_option maxRecDepth 100000 in
theorem t_X5_share (l : Launch) (hlt : l.stackTraces = false) (D : va_G) (G : GC) (base : Nat) (E : PE) {a0 : Nat} {p1 : Int32} {p2 : Int32} {σ0 τ : PS} (hF : f_X5_shareT E (some a0) p1 p2 σ0 = some ((), τ)) (hsm : sN τ = sN σ0 ∧ sS τ = sS σ0) (hE : E.2.1 = sN σ0 + 1 ∧ E.2.2.1 = sS σ0 + 6) : CtT l D G base E yX5_share wsX5_share 7 90 ([.ref a0, .int (p1), .int (p2)] : List Value) σ0 τ := by
  obtain ⟨hf, hmo⟩ := oM_of hF
  refine CtT.of (own := RX5) [1, 1, 1] (by decide) rfl rfl hE (ct_R (ct_I (ct_I ct_0))) (by decide) ?_
  intro p e s m below meth c R Q ls H locs cells slots S hKn hKX hRm hfr hlo hlk hret hnm hnt hQ hD hl
  have hx := S.1
  have hb := S.2.1
  have hts := S.2.2.2.2
  obtain ⟨⟨sa, kx1⟩, kx2, kx3, kx4, kx5, kx6, kx7⟩ := hKX
  have hk123 := hts (.classLink RX5 123 aeN) (by decide +kernel)
  have hini := hts (.initialized aeN) (by decide +kernel)
  have hat : ∀ w ∈ vx_atS RX5 127 aeN ["java/lang/RuntimeException", "java/lang/Exception"], w.before _ s = true := vx_hat (B := [.declares ⟨"java/lang/RuntimeException", "<init>", "(Ljava/lang/String;)V"⟩, .declares ⟨"java/lang/Exception", "<init>", "(Ljava/lang/String;)V"⟩, .declares ⟨"java/lang/Throwable", "<init>", "(Ljava/lang/String;)V"⟩, .castable aeN aeN]) (fun w hw => hts w (List.mem_cons_of_mem _ (List.mem_append_right _ hw))) (by decide +kernel) (vx_c (va_Nw.use rfl kx2) (vx_c (va_Nw.use rfl kx3) (vx_c (va_Nw.use rfl kx4) (vx_c (va_Nw.use rfl kx5) vx_n))))
  have hgood : ∀ w ∈ Cond.classLink RX5 123 aeN :: Cond.initialized aeN :: vx_atS RX5 127 aeN ["java/lang/RuntimeException", "java/lang/Exception"], vx_ot w = true := by decide +kernel
  have inX5 : ∀ w ∈ u_ws RX5 TX5 8, w ∈ wsX5_share := by decide +kernel
  have wd0 := hts (.fieldLink RX5 10 "SolidGroups" "entries" "Ljava/util/ArrayList;") (by decide +kernel)
  have wd1 := hts (.classLink RX5 55 "SolidGroups$Entry") (by decide +kernel)
  have hB16 : ∀ (σ : PS) (H : Heap) (locs : List Loc) (cells slots : Nat) (ls : Array Slot), Dy D G base E s.heap σ0 σ H locs cells slots → lv_has ls 7 [] → f_X5_shareT_B16 E σ = some ((), τ) → W p l e R s m ([.ref a0, .int (p1), .int (p2)] : List Value).toArray below meth c H locs cells slots Q (F0 m 16 ls []) := by
    intro σ H locs cells slots ls hD hl hf
    unfold f_X5_shareT_B16 at hf
    refine lv_iconst (v := (-1)) hx hb dX5_share_16 (by decide) ?_
    cases hf
  have hl : lv_has ls 7 [(0, va_rf (some a0)), (1, .int (p1)), (2, .int (p2))] := hl
  unfold g_X5_shareT at hf
  refine hw_aload_n (r := (some a0)) hx hb dX5_share_0 rfl (lv_at hl 0 rfl) ?_
  refine lv_iload_n hx hb dX5_share_1 rfl (lv_at hl 1 rfl) ?_
  obtain ⟨b3, hv, hf⟩ := ob_s hf
  obtain ⟨e9, hk9⟩ := oK_of hv
  cases e9
  obtain ⟨r1, s2, hv, hf⟩ := ob_p hf
  refine hw_V (b := a0) (ci := 6) (T := TX5) (N := 8) (As := [.int (p1)]) (rest := []) S hKn hRm hD (c_X5_isEntry l D G base E hv) (mo_X5_isEntry hv) hk9 rfl (by decide) gX5_share_X5_isEntry rfl 1 (by decide +kernel) ⟨by rw [hfr]; decide, by rw [hlo]; decide⟩ rfl hl.1 (Nat.le_trans cs_0 (by decide)) rfl dX5_share_2 (fun H locs cells slots hD => ?_)
  refine W.eq (g2 := F0 m 5 ls [.int (r1)]) rfl ?_
  refine lv_if_eq (tgt := 16) hx hb dX5_share_5 (by decide) (fun hc => ?_) (fun hc => ?_)
  · rw [if_pos hc] at hf
    exact hB16 _ _ _ _ _ _ hD (lv_sub hl [] rfl) hf
  · rw [if_neg hc] at hf
    refine hw_aload_n (r := (some a0)) hx hb dX5_share_8 rfl (lv_at hl 0 rfl) ?_
    refine lv_iload_n hx hb dX5_share_9 rfl (lv_at hl 2 rfl) ?_
    obtain ⟨b6, hv, hf⟩ := ob_s hf
    obtain ⟨e9, hk9⟩ := oK_of hv
    cases e9
    obtain ⟨r4, s5, hv, hf⟩ := ob_p hf
    refine hw_V (b := a0) (ci := 6) (T := TX5) (N := 8) (As := [.int (p2)]) (rest := []) S hKn hRm hD (c_X5_isEntry l D G base E hv) (mo_X5_isEntry hv) hk9 rfl (by decide) gX5_share_X5_isEntry rfl 1 (by decide +kernel) ⟨by rw [hfr]; decide, by rw [hlo]; decide⟩ rfl hl.1 (Nat.le_trans cs_0 (by decide)) rfl dX5_share_10 (fun H locs cells slots hD => ?_)
    refine W.eq (g2 := F0 m 13 ls [.int (r4)]) rfl ?_
    refine lv_if_ne (tgt := 18) hx hb dX5_share_13 (by decide) (fun hc => ?_) (fun hc => ?_)
    · rw [if_neg hc] at hf
      refine hw_aload_n (r := (some a0)) hx hb dX5_share_18 rfl (lv_at hl 0 rfl) ?_
      obtain ⟨x7, hv, hf⟩ := ob_s hf
      refine hw_gr (C := RX5) (T := TX5) (N := 8) (ref := "SolidGroups") S hKn hD hv rfl (by decide) (by decide) rfl inX5 wd0 (fun _ h9 => h9) dX5_share_19 ?_
      refine lv_iload_n hx hb dX5_share_22 rfl (lv_at hl 1 rfl) ?_
      obtain ⟨b10, hv, hf⟩ := ob_s hf
      obtain ⟨e9, hk9⟩ := oK_of hv
      cases e9
      obtain ⟨r8, s9, hv, hf⟩ := ob_p hf
      refine hw_V (b := b10) (ci := 0) (T := TJx4a65c) (N := 3) (As := [.int (p1)]) (rest := []) S hKn hRm hD (c_Jx4a65c_get_915e3 l D G base E hv) (mo_Jx4a65c_get_915e3 hv) hk9 rfl (by decide) gX5_share_Jx4a65c_get_915e3 rfl 1 (by decide +kernel) ⟨by rw [hfr]; decide, by rw [hlo]; decide⟩ rfl hl.1 (Nat.le_trans cs_0 (by decide)) rfl dX5_share_23 (fun H locs cells slots hD => ?_)
      refine W.eq (g2 := F0 m 26 ls [va_rf (r8)]) rfl ?_
      obtain ⟨u11, hv, hf⟩ := ob_s hf
      refine hw_ca (C := RX1) (T := TX1) (N := 6) S hKn hD hv rfl (by decide) wd1 dX5_share_26 ?_
      refine hs_astore_n (i := 3) (lv' := [(3, va_rf (r8)), (0, va_rf ((some a0))), (1, .int (p1)), (2, .int (p2))]) hx hb dX5_share_29 rfl hl (by decide) (st_okR (st_okI (st_okI st_ok0))) rfl (fun ls hl => ?_)
      refine hw_aload_n (r := (some a0)) hx hb dX5_share_30 rfl (lv_at hl 1 rfl) ?_
      obtain ⟨x12, hv, hf⟩ := ob_s hf
      refine hw_gr (C := RX5) (T := TX5) (N := 8) (ref := "SolidGroups") S hKn hD hv rfl (by decide) (by decide) rfl inX5 wd0 (fun _ h9 => h9) dX5_share_31 ?_
      refine lv_iload_n hx hb dX5_share_34 rfl (lv_at hl 3 rfl) ?_
      obtain ⟨b15, hv, hf⟩ := ob_s hf
      obtain ⟨e9, hk9⟩ := oK_of hv
      cases e9
      obtain ⟨r13, s14, hv, hf⟩ := ob_p hf
      refine hw_V (b := b15) (ci := 0) (T := TJx4a65c) (N := 3) (As := [.int (p2)]) (rest := []) S hKn hRm hD (c_Jx4a65c_get_915e3 l D G base E hv) (mo_Jx4a65c_get_915e3 hv) hk9 rfl (by decide) gX5_share_Jx4a65c_get_915e3 rfl 1 (by decide +kernel) ⟨by rw [hfr]; decide, by rw [hlo]; decide⟩ rfl hl.1 (Nat.le_trans cs_0 (by decide)) rfl dX5_share_35 (fun H locs cells slots hD => ?_)
      refine W.eq (g2 := F0 m 38 ls [va_rf (r13)]) rfl ?_
      obtain ⟨u16, hv, hf⟩ := ob_s hf
      refine hw_ca (C := RX1) (T := TX1) (N := 6) S hKn hD hv rfl (by decide) wd1 dX5_share_38 ?_
      refine hs_astore (i := 4) (lv' := [(4, va_rf (r13)), (3, va_rf (r8)), (0, va_rf ((some a0))), (1, .int (p1)), (2, .int (p2))]) hx hb dX5_share_41 hl (by decide) (st_okR (st_okR (st_okI (st_okI st_ok0)))) rfl (fun ls hl => ?_)
      refine hw_aload_n (r := r8) hx hb dX5_share_43 rfl (lv_at hl 1 rfl) ?_
      refine hw_aload (r := r13) hx hb dX5_share_44 (lv_at hl 0 rfl) ?_
      obtain ⟨r17, s18, hv, hf⟩ := ob_p hf
      refine hw_S (As := [va_rf (r8), va_rf (r13)]) (rest := []) S hKn hRm hD (c_X5_commonMarks l D G base E hv) (mo_X5_commonMarks hv) gX5_share_X5_commonMarks rfl 2 (by decide +kernel) ⟨by rw [hfr]; decide, by rw [hlo]; decide⟩ rfl hl.1 (Nat.le_trans cs_0 (by decide)) rfl dX5_share_46 (fun H locs cells slots hD => ?_)
      refine W.eq (g2 := F0 m 49 ls [.int (r17)]) rfl ?_
      refine hs_istore (i := 5) (lv' := [(5, .int (r17)), (4, va_rf (r13)), (3, va_rf (r8)), (0, va_rf ((some a0))), (1, .int (p1)), (2, .int (p2))]) hx hb dX5_share_49 hl (by decide) (st_okR (st_okR (st_okR (st_okI (st_okI st_ok0))))) rfl (fun ls hl => ?_)
      refine hw_aload_n (r := r8) hx hb dX5_share_51 rfl (lv_at hl 2 rfl) ?_
      obtain ⟨b21, hv, hf⟩ := ob_s hf
      obtain ⟨e9, hk9⟩ := oK_of hv
      cases e9
      obtain ⟨r19, s20, hv, hf⟩ := ob_p hf
      refine hw_V (b := b21) (ci := 2) (T := TX1) (N := 6) (As := []) (rest := []) S hKn hRm hD (c_X1_markCount l D G base E hv) (mo_X1_markCount hv) hk9 rfl (by decide) gX5_share_X1_markCount rfl 0 (by decide +kernel) ⟨by rw [hfr]; decide, by rw [hlo]; decide⟩ rfl hl.1 (Nat.le_trans cs_0 (by decide)) rfl dX5_share_52 (fun H locs cells slots hD => ?_)
      refine W.eq (g2 := F0 m 55 ls [.int (r19)]) rfl ?_
      refine hw_aload (r := r13) hx hb dX5_share_55 (lv_at hl 1 rfl) ?_
      obtain ⟨b24, hv, hf⟩ := ob_s hf
      obtain ⟨e9, hk9⟩ := oK_of hv
      cases e9
      obtain ⟨r22, s23, hv, hf⟩ := ob_p hf
      refine hw_V (b := b24) (ci := 2) (T := TX1) (N := 6) (As := []) (rest := [.int (r19)]) S hKn hRm hD (c_X1_markCount l D G base E hv) (mo_X1_markCount hv) hk9 rfl (by decide) gX5_share_X1_markCount rfl 0 (by decide +kernel) ⟨by rw [hfr]; decide, by rw [hlo]; decide⟩ rfl hl.1 (Nat.le_trans (cs_I cs_0) (by decide)) rfl dX5_share_57 (fun H locs cells slots hD => ?_)
      refine W.eq (g2 := F0 m 60 ls [.int (r22), .int (r19)]) rfl ?_
      refine lv_iadd hx hb dX5_share_60 ?_
      refine lv_iload hx hb dX5_share_61 (lv_at hl 0 rfl) ?_
      refine lv_isub hx hb dX5_share_63 ?_
      refine hs_istore (i := 6) (lv' := [(6, .int ((r19 + r22) - r17)), (5, .int (r17)), (4, va_rf ((some b24))), (3, va_rf ((some b21))), (0, va_rf ((some a0))), (1, .int (p1)), (2, .int (p2))]) hx hb dX5_share_64 hl (by decide) (st_okI (st_okR (st_okR (st_okR (st_okI (st_okI st_ok0)))))) rfl (fun ls hl => ?_)
      refine lv_iload hx hb dX5_share_66 (lv_at hl 0 rfl) ?_
      refine lv_if_gt (tgt := 81) hx hb dX5_share_68 (by decide) (fun hc => ?_) (fun hc => ?_)
      · rw [if_pos hc] at hf
        refine lv_bipush (v := (100)) hx hb dX5_share_81 (by decide) ?_
        refine lv_iload hx hb dX5_share_83 (lv_at hl 1 rfl) ?_
        refine lv_imul hx hb dX5_share_85 ?_
        refine lv_iload hx hb dX5_share_86 (lv_at hl 0 rfl) ?_
        obtain ⟨x25, hv, hf⟩ := ob_s hf
        refine hs_idiv hx hb hv dX5_share_88 ?_
        cases hf
      · rw [if_neg hc] at hf
        obtain ⟨-, e2⟩ := ret_eq hf
        rw [hQ]
        have e3 : cells = 0 := by have := hD.2.2.1; rw [e2] at this; omega
        have e4 : slots = 0 := by have := hD.2.2.2.1; rw [e2] at this; omega
        refine vxS hx hb hlt (own := RX5) (cls := aeN) (text := "neither entry has marks") (names := ["java/lang/RuntimeException", "java/lang/Exception"]) (ik := 123) (is := 125) (ic := 127) (A := fun q => base ≤ q) S.2.2.2.1 (by decide +kernel) (by decide +kernel) hk123 hini kx1 hat hgood kx6 kx7 hD.2.1 (hl.1.trans S.2.2.1.symm) dX5_share_71 dX5_share_74 dX5_share_75 dX5_share_77 dX5_share_80 (fun x hx => (hnt x hx).elim) (by rw [hfr]; decide) (by rw [hlo]; decide) (by rw [hRm.1, hE.1, e3]; omega) (by rw [hRm.2, hE.2, e4]; omega) hlk (fun t _ z oq => ⟨rfl, ?_, ?_⟩) (fun z hz => hD.2.1.2.2 z hz) (by omega) (by omega)
        · rw [← e2]; exact hD.1.pT z oq
        · exact ⟨Nat.le_trans hD.2.1.1 (by omega), fun q q1 q2 => by rw [oq q (Nat.lt_of_lt_of_le q1 hD.2.1.1)]; exact hD.2.1.2.1 q q1 q2⟩
    · rw [if_pos hc] at hf
      exact hB16 _ _ _ _ _ _ hD (lv_sub hl [] rfl) hf
