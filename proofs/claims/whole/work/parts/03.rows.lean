/-! THE PURE STATE AND THE MACHINE'S HEAP -/
def cIsR (ci k : Nat) : Bool := match ci with
  | 0 => k == 1
  | 1 => true
  | 2 => k == 2 || k == 3
  | 3 => k == 0 || k == 1
  | 4 => k == 0
  | 5 => k == 0 || k == 1 || k == 2
  | 6 => decide (k < 6)
  | _ => !(k == 0 || k == 4 || k == 5 || k == 9 || k == 10 || k == 17 || k == 19 || k == 22)
def fV (σ : PS) (ci a k : Nat) : Value := if cIsR ci k = true then va_rf (sR σ ci k a) else .int (sI σ ci k a)
abbrev GC : Type := ClassId × ClassId × ClassId
def Cl (D : va_G) (G : GC) (σ : PS) (H : Heap) (a k : Nat) : Prop :=
  if k = 100 then H[a]? = some (arrV G.1 (sL σ a) (fun j => .int (sA σ a j)))
  else if k = 101 then H[a]? = some (arrV G.2.1 (sL σ a) (fun j => .long (sJ σ a j)))
  else if k = 102 then H[a]? = some (arrV G.2.2 (sL σ a) (fun j => va_rf (sQ σ a j)))
  else ∃ r : vw_C, vwCl[k]? = some r ∧ t_OB a (D.1 k) r.2.2 (D.2 k) H (fV σ k a)
def dEq (σ τ : PS) (b : Nat) : Prop := sL τ b = sL σ b ∧ (∀ c j, sI τ c j b = sI σ c j b) ∧ (∀ c j, sR τ c j b = sR σ c j b) ∧ (∀ j, sA τ b j = sA σ b j) ∧ (∀ j, sQ τ b j = sQ σ b j) ∧ ∀ j, sJ τ b j = sJ σ b j
theorem dEq.fV {σ τ : PS} {b : Nat} (h : dEq σ τ b) (k : Nat) : fV τ k b = fV σ k b := by
  funext j
  obtain ⟨-, h1, h2, -⟩ := h
  unfold Jvm.Pilot.@@N@@.fV
  rw [h1, h2]
theorem Cl.kept {D : va_G} {G : GC} {σ τ : PS} {H H1 : Heap} {b k : Nat} (h : Cl D G σ H b k) (hH : H1[b]? = H[b]?) (hd : dEq σ τ b) : Cl D G τ H1 b k := by
  have hf := hd.fV k
  obtain ⟨d1, d2, d3, d4, d5, d6⟩ := hd
  unfold Cl at h ⊢
  rw [hH, d1, funext d4, funext d5, funext d6]
  split
  · next e => rw [if_pos e] at h; exact h
  · next e1 =>
    rw [if_neg e1] at h
    split
    · next e => rw [if_pos e] at h; exact h
    · next e2 =>
      rw [if_neg e2] at h
      split
      · next e => rw [if_pos e] at h; exact h
      · next e3 =>
        rw [if_neg e3] at h
        obtain ⟨r, h1, h2⟩ := h
        rw [hf]
        exact ⟨r, h1, h2.kept hH⟩
theorem Cl.obj {D : va_G} {G : GC} {σ : PS} {H : Heap} {a k : Nat} (h : Cl D G σ H a k) (hk : k < 100) : ∃ r : vw_C, vwCl[k]? = some r ∧ t_OB a (D.1 k) r.2.2 (D.2 k) H (fV σ k a) := by
  unfold Cl at h
  rw [if_neg (by omega), if_neg (by omega), if_neg (by omega)] at h
  exact h
theorem Cl.of {D : va_G} {G : GC} {σ : PS} {H : Heap} {a k : Nat} (hk : k < 100) {r : vw_C} (h1 : vwCl[k]? = some r) (h2 : t_OB a (D.1 k) r.2.2 (D.2 k) H (fV σ k a)) : Cl D G σ H a k := by
  unfold Cl
  rw [if_neg (by omega), if_neg (by omega), if_neg (by omega)]
  exact ⟨r, h1, h2⟩
theorem Cl.ints {D : va_G} {G : GC} {σ : PS} {H : Heap} {a : Nat} : Cl D G σ H a 100 ↔ H[a]? = some (arrV G.1 (sL σ a) (fun j => .int (sA σ a j))) := by
  unfold Cl
  rw [if_pos rfl]
theorem Cl.longs {D : va_G} {G : GC} {σ : PS} {H : Heap} {a : Nat} : Cl D G σ H a 101 ↔ H[a]? = some (arrV G.2.1 (sL σ a) (fun j => .long (sJ σ a j))) := by
  unfold Cl
  rw [if_neg (by omega), if_pos rfl]
theorem Cl.refs {D : va_G} {G : GC} {σ : PS} {H : Heap} {a : Nat} : Cl D G σ H a 102 ↔ H[a]? = some (arrV G.2.2 (sL σ a) (fun j => va_rf (sQ σ a j))) := by
  unfold Cl
  rw [if_neg (by omega), if_neg (by omega), if_pos rfl]
theorem Cl.lt {D : va_G} {G : GC} {σ : PS} {H : Heap} {a k : Nat} (h : Cl D G σ H a k) : a < H.size := by
  unfold Cl at h
  split at h
  · exact (Array.getElem?_eq_some_iff.mp h).1
  · split at h
    · exact (Array.getElem?_eq_some_iff.mp h).1
    · split at h
      · exact (Array.getElem?_eq_some_iff.mp h).1
      · obtain ⟨r, -, cell, q1, -⟩ := h
        exact (Array.getElem?_eq_some_iff.mp q1).1
def Rp (D : va_G) (G : GC) (base : Nat) (σ : PS) (H : Heap) : Prop := H.size = sN σ ∧ base ≤ sN σ ∧ ∀ a k, sK σ a = some k → base ≤ a ∧ Cl D G σ H a k
theorem Rp.put {D : va_G} {G : GC} {base : Nat} {σ τ : PS} {H H1 : Heap} (h : Rp D G base σ H) {a : Nat} (hn : sN τ = sN σ) (hk : sK τ = sK σ) (z : H1.size = H.size) (oq : ∀ q : Nat, q ≠ a → H1[q]? = H[q]?) (hd : ∀ b, b ≠ a → dEq σ τ b) {kd : Nat} (hka : sK σ a = some kd) (ha : Cl D G τ H1 a kd) : Rp D G base τ H1 := by
  obtain ⟨h1, h2, h3⟩ := h
  refine ⟨by rw [z, hn, h1], by rw [hn]; exact h2, fun b k hb => ?_⟩
  rw [hk] at hb
  obtain ⟨g1, g2⟩ := h3 b k hb
  refine ⟨g1, ?_⟩
  by_cases e : b = a
  · subst e
    cases hka.symm.trans hb
    exact ha
  · exact g2.kept (oq b e) (hd b e)
theorem Rp.new {D : va_G} {G : GC} {base : Nat} {σ : PS} {H H1 : Heap} (h : Rp D G base σ H) (kd n : Nat) (z : H1.size = sN σ + 1) (oq : ∀ q : Nat, q < sN σ → H1[q]? = H[q]?) (ha : Cl D G (pN kd n σ) H1 (sN σ) kd) : Rp D G base (pN kd n σ) H1 := by
  obtain ⟨h1, h2, h3⟩ := h
  refine ⟨z, Nat.le_succ_of_le h2, fun b k hb => ?_⟩
  by_cases e : b = sN σ
  · subst e
    have hb' : (if sN σ = sN σ then some kd else sK σ (sN σ)) = some k := hb
    rw [if_pos rfl] at hb'
    cases hb'
    exact ⟨h2, ha⟩
  · have hb' : (if b = sN σ then some kd else sK σ b) = some k := hb
    rw [if_neg e] at hb'
    obtain ⟨g1, g2⟩ := h3 b k hb'
    have hl := g2.lt
    refine ⟨g1, g2.kept (oq b (by omega)) ⟨?_, ?_, ?_, ?_, ?_, ?_⟩⟩
    · show (if b = sN σ then n else sL σ b) = _; rw [if_neg e]
    · intro c j; show (if b = sN σ then 0 else sI σ c j b) = _; rw [if_neg e]
    · intro c j; show (if b = sN σ then none else sR σ c j b) = _; rw [if_neg e]
    · intro j; show (if b = sN σ then 0 else sA σ b j) = _; rw [if_neg e]
    · intro j; show (if b = sN σ then none else sQ σ b j) = _; rw [if_neg e]
    · intro j; show (if b = sN σ then 0 else sJ σ b j) = _; rw [if_neg e]
/-- what of the tables and of the old heap every method needs -/
abbrev tysK (G : GC) : List (ClassId × FieldType) := [(G.1, .int), (G.2.1, .long), (G.2.2, .object "java/lang/Object")]
def nestK : List Cond := [.methodLinkNest RX5 236 yX2_init RX5, .methodLinkNest RX5 27 yX0_init RX5, .methodLinkNest RX5 34 yX3_init RX5, .methodLinkNest RX0 42 yX5_apart RX5, .methodLinkNest RX2 20 yX4_init RX5]
def Kn (D : va_G) (G : GC) (base : Nat) (E : PE) (U : State) : Prop :=
  va_K D vwCl (tysK G) U ∧ va_Z "java/util/ArrayList" "DEFAULTCAPACITY_EMPTY_ELEMENTDATA" "[Ljava/lang/Object;" (.ref E.2.2.2.1) (fun q => base ≤ q) U U.heap ∧ va_T (.object "java/lang/Object") E.2.2.2.1 0 (fun _ => .null) (fun q => base ≤ q) U U.heap ∧ va_Mi "[Ljava/lang/Object;" E.2.2.2.2 U ∧ va_Dc U ∧ (va_Nw (.methodLinkNest RX5 236 yX2_init RX5) U ∧ va_Nw (.methodLinkNest RX5 27 yX0_init RX5) U ∧ va_Nw (.methodLinkNest RX5 34 yX3_init RX5) U ∧ va_Nw (.methodLinkNest RX0 42 yX5_apart RX5) U ∧ va_Nw (.methodLinkNest RX2 20 yX4_init RX5) U) ∧ (va_Nw (.castable RX1 "java/lang/Object") U ∧ va_Nw (.castable RX2 "java/lang/Object") U) ∧ va_AO "java/lang/Object" U
theorem Kn.warm {D : va_G} {G : GC} {base : Nat} {E : PE} {s U : State} (h : Kn D G base E s) (hW : s.WarmedH U.vm) (hk : ∀ a : Nat, a < s.heap.size → ¬ base ≤ a → U.heap[a]? = s.heap[a]?) : Kn D G base E U := by
  obtain ⟨h1, h2, h3, h4, h5, ⟨n1, n2, n3, n4, n5⟩, ⟨c1, c2⟩, h8⟩ := h
  exact ⟨va_K.moved hW.alike h1, (h2.moved hW.alike).kept hk, (h3.moved hW.alike).kept hk, h4.moved hW.alike, h5.moved hW.alike, ⟨va_Nw.warmM hW n1, va_Nw.warmM hW n2, va_Nw.warmM hW n3, va_Nw.warmM hW n4, va_Nw.warmM hW n5⟩, ⟨va_Nw.warmC hW c1, va_Nw.warmC hW c2⟩, h8.moved hW.alike⟩
theorem Kn.blind {D : va_G} {G : GC} {base : Nat} {E : PE} {U : State} {g : JFrame} {mk : MethodId} {a : Array Value} (h : Kn D G base E U) : Kn D G base E (U.calling g mk a) := by
  obtain ⟨h1, h2, h3, h4, h5, ⟨n1, n2, n3, n4, n5⟩, ⟨c1, c2⟩, h8⟩ := h
  have al : U.vm.Alike (U.calling g mk a).vm := Vm.Alike.refl U.vm
  exact ⟨va_K.moved al h1, h2.moved al, h3.moved al, h4.moved al, h5.moved al, ⟨va_Nw.same rfl rfl n1, va_Nw.same rfl rfl n2, va_Nw.same rfl rfl n3, va_Nw.same rfl rfl n4, va_Nw.same rfl rfl n5⟩, ⟨va_Nw.same rfl rfl c1, va_Nw.same rfl rfl c2⟩, h8.moved al⟩
/-- A METHOD's CONTRACT: it runs as the pure function does -/
def Ct (l : Launch) (D : va_G) (G : GC) (base : Nat) (E : PE) (y : MethodName) (ws : List Cond) (fr lo : Nat) (av : List Value) (σ : PS) (ov : Option Value) (τ : PS) : Prop :=
  Met l y ws ({ frames := fr, cells := E.2.1 - sN σ, slots := E.2.2.1 - sS σ, locals := lo } : Room) (va_Pc av (fun U => Rp D G base σ U.heap ∧ Kn D G base E U)) (fun _ st oc t => oc = .returned ov ∧ Rp D G base τ t.heap ∧ va_F (fun q => base ≤ q) st t) (sN τ - sN σ) (sS τ - sS σ) (fun q => base ≤ q)
/-- where a walk stands: the heap holds σ, what was there below base is there, the book -/
def Dy (D : va_G) (G : GC) (base : Nat) (E : PE) (H0 : Heap) (σ0 σ : PS) (H : Heap) (locs : List Loc) (cells slots : Nat) : Prop :=
  Rp D G base σ H ∧ va_S (fun q => base ≤ q) H0 H locs ∧ sN σ0 + cells = sN σ ∧ sS σ0 + slots = sS σ ∧ sN σ ≤ E.2.1 ∧ sS σ ≤ E.2.2.1
theorem hw_blind {D : va_G} {G : GC} {base : Nat} {E : PE} {σ : PS} {av : List Value} : FrameBlind (va_Pc av (fun U => Rp D G base σ U.heap ∧ Kn D G base E U)) := fun _ _ _ _ q => ⟨q.1, q.2.1, q.2.2.blind⟩
theorem hw_pre {D : va_G} {G : GC} {base : Nat} {E : PE} {s : State} {σ0 σ : PS} {H : Heap} {locs : List Loc} {cells slots : Nat} (hKn : Kn D G base E s) (hD : Dy D G base E s.heap σ0 σ H locs cells slots) (U : State) (hU : U.heap = H) (hW : s.WarmedH U.vm) : Rp D G base σ U.heap ∧ Kn D G base E U :=
  ⟨by rw [hU]; exact hD.1, hKn.warm hW (fun a h1 h2 => by rw [hU]; exact hD.2.1.2.1 a h1 h2)⟩
section HW
variable {p : Program} {l : Launch} {e : Env} {R : Room} {s : State} {m : MethodId} {args : Array Value} {below : List Frame} {meth : Method} {c : Code} {H : Heap} {locs : List Loc} {cells slots : Nat} {Q : State → Prop}
variable {cc : ByteArray} {pc : Nat} {ls : Array Slot} {rest : List Value} {D : va_G} {G : GC} {base : Nat} {E : PE} {σ σ0 τ : PS}
theorem Dy.put (hD : Dy D G base E s.heap σ0 σ H locs cells slots) {H1 : Heap} {a k : Nat} (hn : sN τ = sN σ) (hs : sS τ = sS σ) (hR : Rp D G base τ H1) (z : H1.size = H.size) (oq : ∀ q : Nat, q ≠ a → H1[q]? = H[q]?) (ha : base ≤ a) : Dy D G base E s.heap σ0 τ H1 (locs ++ [⟨a, k⟩]) cells slots := by
  obtain ⟨h1, h2, h3, h4, h5, h6⟩ := hD
  exact ⟨hR, h2.put z oq ha, by rw [hn]; exact h3, by rw [hs]; exact h4, by rw [hn]; exact h5, by rw [hs]; exact h6⟩
/-- a back with more room given than used -/
theorem hw_back {y : MethodName} {ws : List Cond} {rm : Room} {Pc : Array Value → State → Prop} {Qc : Array Value → State → Outcome → State → Prop} {mc ms W9 len : Nat} {free : Addr → Prop} {bytes : ByteArray} {maxL : Nat} {ret : Option FieldType}
    (hM : Met l y ws rm Pc Qc mc ms free) (hblind : FrameBlind Pc)
    (hframes : rm.frames + 1 ≤ R.frames) (hlocals : W9 + (maxL + 11) + rm.locals ≤ R.locals)
    (hws : ∀ w ∈ ws, ∀ a' U, s.WarmedH U.vm → w.before a' U = true) (hcode : Cond.code y bytes maxL ret ∈ ws) (hinit : ∀ a' U, s.WarmedH U.vm → (Cond.initialized y.cls).before a' U = true) :
    Back l R p e below s args y len W9 (PreOf R rm.cells rm.slots Pc) (PostOf Qc mc ms free) := by
  refine Back.of_free (S := headSpec ws rm) (P := Pc) (K := fun _ _ _ _ _ => True) (Q := fun a st o t => Qc a st o t ∧ ∃ L, FrameEnd st o t L mc ms ∧ ∀ q ∈ L, free q.base) (bytes := bytes) (maxL := maxL) (ret := ret)
    (E := fun a st o t L k n => k = mc ∧ n = ms ∧ ∀ q ∈ L, free q.base) hM hframes hlocals ?_ ?_ (fun _ _ _ _ _ _ _ _ _ => trivial) ?_ ?_
  · intro m meth c A a X hp
    exact ⟨atoms_intro fun w hw => hws w hw _ _ X.warmed, hws _ hcode _ _ X.warmed, hinit _ _ X.warmed, hp.1, hp.2.1⟩
  · intro m meth c A a g mk X hp
    exact hblind _ _ _ _ hp.2.2
  · intro a st o t ⟨hq, L, hF, hL⟩
    exact ⟨L, mc, ms, hF, rfl, rfl, hL⟩
  · intro m meth c A a g mk v t L k n X hp hq hF ⟨e1, e2, hL⟩
    subst e1; subst e2
    exact ⟨g, mk, t, L, rfl, rfl, hq.1, rfl, hL, rfl, rfl⟩
variable {y : MethodName} {bytes : ByteArray} {maxL nL mc ms n index : Nat} {ret : Option FieldType} {ws : List Cond} {rm : Room} {Pc : Array Value → State → Prop} {Qc : Array Value → State → Outcome → State → Prop} {free : Addr → Prop} {Ts : List Cond} {own C host : String} {b : Addr} {As : List Value} {g : JFrame}
theorem hw_callBack (cb : CallB R s args own index y bytes maxL ret ws rm rm.cells rm.slots n) (hM : Met l y ws rm Pc Qc mc ms free) (hbl : FrameBlind Pc) : Back l R p e below s args y 3 8 (PreOf R rm.cells rm.slots Pc) (PostOf Qc mc ms free) := by
  obtain ⟨-, -, hfr, hlo, hws, hcw, -, hini, -⟩ := cb
  exact hw_back (bytes := bytes) (maxL := maxL) (ret := ret) hM hbl hfr hlo hws hcw (fun a' U hW => word_at hW (Or.inl (by first | rfl | simp [Cond.onTables, Cond.keeps, Cond.steady])) hini)
theorem hw_runV (S : CallFix p m c cc nL s args Ts own) (hM : Met l y ws rm Pc Qc mc ms free) (cw : CallW R s args own C index y bytes maxL ret ws rm rm.cells rm.slots n) (hp : PreV s H C b Pc As)
    (hg : g.method = m) (hn : As.length = n) (hsize : g.locals.size = nL) (hstack : g.stack = As.reverse ++ .ref b :: rest) (hW : 2 * g.monitorRoom + (rest.map fun v => v.category).sum ≤ 8) (hdg : decode cc g.pc = .ok (.invokevirtual index, 3)) (hf : cells + rm.cells ≤ R.cells ∧ slots + rm.slots ≤ R.slots) :
    va_Run p l e R s m args below meth c H locs cells slots mc ms g rest (Qc (Value.ref b :: As).toArray) free := by
  have hK : Back l R p e below s args y 3 8 (PreOf R rm.cells rm.slots Pc) (PostOf Qc mc ms free) := hw_callBack cw.1 hM hp.1
  obtain ⟨⟨-, -, -, -, -, -, hcode, -, hy, hlen, hl⟩, hin, hse⟩ := cw
  obtain ⟨hx, hb, hml, ho, -⟩ := S
  obtain ⟨-, ⟨cellB, hcB, hoB, hclB⟩, hPc⟩ := hp
  intro T hT X
  obtain ⟨v, vm₁, ⟨U', l2, c2, s2⟩, hW₁, X', ⟨g', mk, t, L, e1, e2, hq, h1, hL, h2, h3⟩, st⟩ := callV X hx (C := C) (bytes := bytes) (maxL := maxL) (ret := ret) ho hl hin hse hcode hy hK (by rw [hT]; exact hcB) hoB hclB hg (hsize.trans hml.symm) (argsL := As) (rest := rest) (fun sig h => hn.trans (hlen sig h)) hstack hW (by rw [hb]; exact hdg)
    (fun vm₁ hW₁ => ⟨hf.1, hf.2, hPc (T.setVm vm₁) hT hW₁⟩)
  dsimp only [Pt.U, Pt.locs, Pt.cells, Pt.slots] at X' e1 e2 h1 h2 h3 st
  subst h1; subst h2; subst h3
  exact ⟨v, (T.setVm vm₁).calling g' mk (Value.ref b :: As).toArray, t, U', L, hT, X', hL, e1, e2, hq, st⟩
theorem hw_runS (S : CallFix p m c cc nL s args Ts own) (hM : Met l y ws rm Pc Qc mc ms free) (cw : CallB R s args own index y bytes maxL ret ws rm rm.cells rm.slots n ∧ (Cond.static y).before args s = true) (hp : PreS s H Pc As)
    (hg : g.method = m) (hn : As.length = n) (hsize : g.locals.size = nL) (hstack : g.stack = As.reverse ++ rest) (hW : 2 * g.monitorRoom + (rest.map fun v => v.category).sum ≤ 8) (hdg : decode cc g.pc = .ok (.invokestatic index, 3)) (hf : cells + rm.cells ≤ R.cells ∧ slots + rm.slots ≤ R.slots) :
    va_Run p l e R s m args below meth c H locs cells slots mc ms g rest (Qc As.toArray) free := by
  have hK : Back l R p e below s args y 3 8 (PreOf R rm.cells rm.slots Pc) (PostOf Qc mc ms free) := hw_callBack cw.1 hM hp.1
  obtain ⟨⟨-, -, -, -, -, -, hcode, hini, hy, hlen, hl⟩, hstt⟩ := cw
  obtain ⟨hx, hb, hml, ho, -⟩ := S
  intro T hT X
  obtain ⟨v, vm₁, ⟨U', l2, c2, s2⟩, hW₁, X', ⟨g', mk, t, L, e1, e2, hq, h1, hL, h2, h3⟩, st⟩ := callS X hx (bytes := bytes) (maxL := maxL) (ret := ret) ho hl hstt hini hcode hy hK hg (hsize.trans hml.symm) (argsL := As) (rest := rest) (fun sig h => hn.trans (hlen sig h)) hstack hW (by rw [hb]; exact hdg)
    (fun vm₁ hW₁ => ⟨hf.1, hf.2, hp.2 (T.setVm vm₁) hT hW₁⟩)
  dsimp only [Pt.U, Pt.locs, Pt.cells, Pt.slots] at X' e1 e2 h1 h2 h3 st
  subst h1; subst h2; subst h3
  exact ⟨v, (T.setVm vm₁).calling g' mk As.toArray, t, U', L, hT, X', hL, e1, e2, hq, st⟩
theorem hw_runI (S : CallFix p m c cc nL s args Ts own) (hM : Met l y ws rm Pc Qc mc ms free) (cw : CallB R s args own index y bytes maxL none ws rm rm.cells rm.slots n ∧ y.name = "<init>" ∧ (Cond.instanceMethod y).before args s = true) (hp : PreS s H Pc (.ref b :: As))
    (hg : g.method = m) (hn : As.length = n) (hsize : g.locals.size = nL) (hstack : g.stack = As.reverse ++ .ref b :: rest) (hW : 2 * g.monitorRoom + (rest.map fun v => v.category).sum ≤ 8) (hdg : decode cc g.pc = .ok (.invokespecial index, 3)) (hf : cells + rm.cells ≤ R.cells ∧ slots + rm.slots ≤ R.slots) :
    va_Run p l e R s m args below meth c H locs cells slots mc ms g rest (Qc (Value.ref b :: As).toArray) free := by
  have hK : Back l R p e below s args y 3 8 (PreOf R rm.cells rm.slots Pc) (PostOf Qc mc ms free) := hw_callBack cw.1 hM hp.1
  obtain ⟨⟨-, -, -, -, -, -, hcode, -, hy, hlen, hl⟩, hy1, hin⟩ := cw
  obtain ⟨hx, hb, hml, ho, -⟩ := S
  intro T hT X
  obtain ⟨v, vm₁, ⟨U', l2, c2, s2⟩, hW₁, X', ⟨g', mk, t, L, e1, e2, hq, h1, hL, h2, h3⟩, st⟩ := callI X hx (bytes := bytes) (maxL := maxL) ho hy1 hl hin hcode hy hK hg (hsize.trans hml.symm) (a := b) (argsL := As) (rest := rest) (fun sig h => hn.trans (hlen sig h)) hstack hW (by rw [hb]; exact hdg)
    (fun vm₁ hW₁ => ⟨hf.1, hf.2, hp.2 (T.setVm vm₁) hT hW₁⟩)
  dsimp only [Pt.U, Pt.locs, Pt.cells, Pt.slots] at X' e1 e2 h1 h2 h3 st
  subst h1; subst h2; subst h3
  exact ⟨v, (T.setVm vm₁).calling g' mk (Value.ref b :: As).toArray, t, U', L, hT, X', hL, e1, e2, hq, st⟩
theorem hw_backN (cw : va_CN R s args own index y host bytes maxL ret ws rm rm.cells rm.slots n) (hM : Met l y ws rm Pc Qc mc ms free) (hbl : FrameBlind Pc) : Back l R p e below s args y 3 8 (PreOf R rm.cells rm.slots Pc) (PostOf Qc mc ms free) := by
  obtain ⟨⟨-, -, hfr, hlo, hws, hcw⟩, -, hini, -⟩ := cw
  exact hw_back (bytes := bytes) (maxL := maxL) (ret := ret) hM hbl hfr hlo hws hcw (fun a' U hW => word_at hW (Or.inl (by first | rfl | simp [Cond.onTables, Cond.keeps, Cond.steady])) hini)
theorem hw_runSN (S : CallFix p m c cc nL s args Ts own) (hM : Met l y ws rm Pc Qc mc ms free) (cw : va_CN R s args own index y host bytes maxL ret ws rm rm.cells rm.slots n ∧ (Cond.static y).before args s = true) (hp : PreS s H Pc As)
    (hg : g.method = m) (hn : As.length = n) (hsize : g.locals.size = nL) (hstack : g.stack = As.reverse ++ rest) (hW : 2 * g.monitorRoom + (rest.map fun v => v.category).sum ≤ 8) (hdg : decode cc g.pc = .ok (.invokestatic index, 3)) (hf : cells + rm.cells ≤ R.cells ∧ slots + rm.slots ≤ R.slots) :
    va_Run p l e R s m args below meth c H locs cells slots mc ms g rest (Qc As.toArray) free := by
  have hK : Back l R p e below s args y 3 8 (PreOf R rm.cells rm.slots Pc) (PostOf Qc mc ms free) := hw_backN cw.1 hM hp.1
  obtain ⟨⟨-, hcode, hini, hy, hlen, hl⟩, hx1⟩ := cw
  obtain ⟨hx, hb, hml, ho, -⟩ := S
  have hPc := hp.2
  intro T hT X
  obtain ⟨v, vm₁, ⟨U', l2, c2, s2⟩, hW₁, X', ⟨g', mk, t, L, e1, e2, hq, h1, hL, h2, h3⟩, st⟩ := va_callSN X hx (bytes := bytes) (maxL := maxL) (ret := ret) ho hl hx1 hini hcode hy hK hg (hsize.trans hml.symm) (argsL := As) (rest := rest) (fun sig h => hn.trans (hlen sig h)) hstack hW (by rw [hb]; exact hdg)
    (fun vm₁ hW₁ => ⟨hf.1, hf.2, hPc (T.setVm vm₁) hT hW₁⟩)
  dsimp only [Pt.U, Pt.locs, Pt.cells, Pt.slots] at X' e1 e2 h1 h2 h3 st
  subst h1; subst h2; subst h3
  exact ⟨v, (T.setVm vm₁).calling g' mk As.toArray, t, U', L, hT, X', hL, e1, e2, hq, st⟩
theorem hw_runIN (S : CallFix p m c cc nL s args Ts own) (hM : Met l y ws rm Pc Qc mc ms free) (cw : va_CN R s args own index y host bytes maxL none ws rm rm.cells rm.slots n ∧ y.name = "<init>" ∧ (Cond.instanceMethod y).before args s = true) (hp : PreS s H Pc (.ref b :: As))
    (hg : g.method = m) (hn : As.length = n) (hsize : g.locals.size = nL) (hstack : g.stack = As.reverse ++ .ref b :: rest) (hW : 2 * g.monitorRoom + (rest.map fun v => v.category).sum ≤ 8) (hdg : decode cc g.pc = .ok (.invokespecial index, 3)) (hf : cells + rm.cells ≤ R.cells ∧ slots + rm.slots ≤ R.slots) :
    va_Run p l e R s m args below meth c H locs cells slots mc ms g rest (Qc (Value.ref b :: As).toArray) free := by
  have hK : Back l R p e below s args y 3 8 (PreOf R rm.cells rm.slots Pc) (PostOf Qc mc ms free) := hw_backN cw.1 hM hp.1
  obtain ⟨⟨-, hcode, hini, hy, hlen, hl⟩, hx1, hx2⟩ := cw
  obtain ⟨hx, hb, hml, ho, -⟩ := S
  have hPc := hp.2
  intro T hT X
  obtain ⟨v, vm₁, ⟨U', l2, c2, s2⟩, hW₁, X', ⟨g', mk, t, L, e1, e2, hq, h1, hL, h2, h3⟩, st⟩ := va_callIN X hx (bytes := bytes) (maxL := maxL) ho hx1 hl hx2 hcode hy hK hg (hsize.trans hml.symm) (a := b) (argsL := As) (rest := rest) (fun sig h => hn.trans (hlen sig h)) hstack hW (by rw [hb]; exact hdg)
    (fun vm₁ hW₁ => ⟨hf.1, hf.2, hPc (T.setVm vm₁) hT hW₁⟩)
  dsimp only [Pt.U, Pt.locs, Pt.cells, Pt.slots] at X' e1 e2 h1 h2 h3 st
  subst h1; subst h2; subst h3
  exact ⟨v, (T.setVm vm₁).calling g' mk (Value.ref b :: As).toArray, t, U', L, hT, X', hL, e1, e2, hq, st⟩
/-- behind a call -/
theorem hw_go {ov : Option Value} {st0 : List Value} (hr : va_Run p l e R s m args below meth c H locs cells slots (sN τ - sN σ) (sS τ - sS σ) (F0 m pc ls st0) rest (fun st oc t => oc = .returned ov ∧ Rp D G base τ t.heap ∧ va_F (fun q => base ≤ q) st t) (fun q => base ≤ q)) (hD : Dy D G base E s.heap σ0 σ H locs cells slots) (hmo : sN σ ≤ sN τ ∧ sS σ ≤ sS τ ∧ sN τ ≤ E.2.1 ∧ sS τ ≤ E.2.2.1)
    (kk : ∀ (H1 : Heap) (locs1 : List Loc) (cells1 slots1 : Nat), Dy D G base E s.heap σ0 τ H1 locs1 cells1 slots1 → W p l e R s m args below meth c H1 locs1 cells1 slots1 Q (F0 m (pc + 3) ls (ov.toList ++ rest))) : W p l e R s m args below meth c H locs cells slots Q (F0 m pc ls st0) := by
  intro T hT X
  obtain ⟨v, st₀, t, T', L, h0, X', hL, e1, e2, ⟨hv, hR, hz, hk⟩, st⟩ := hr T hT X
  cases hv
  rw [h0] at hz hk
  obtain ⟨d1, d2, d3, d4, d5, d6⟩ := hD
  obtain ⟨t2, a1, b1⟩ := kk T'.heap (locs ++ L) _ _ ⟨by rw [e1]; exact hR, ⟨Nat.le_trans d2.1 (by rw [e1]; exact hz), fun q h1 h2 => by rw [e1, hk q (Nat.lt_of_lt_of_le h1 d2.1) h2]; exact d2.2.1 q h1 h2, fun q hq => by
      rcases List.mem_append.mp hq with h | h
      · exact d2.2.2 q h
      · exact hL q h⟩, by omega, by omega, hmo.2.2.1, hmo.2.2.2⟩ T' rfl X'
  exact ⟨t2, st t2 a1, b1⟩
theorem hw_room (hRm : R.cells = E.2.1 - sN σ0 ∧ R.slots = E.2.2.1 - sS σ0) (hD : Dy D G base E s.heap σ0 σ H locs cells slots) : cells + (E.2.1 - sN σ) ≤ R.cells ∧ slots + (E.2.2.1 - sS σ) ≤ R.slots := by
  obtain ⟨-, -, d3, d4, d5, d6⟩ := hD
  rw [hRm.1, hRm.2]
  omega
theorem hw_rc (hKn : Kn D G base E s) (hD : Dy D G base E s.heap σ0 σ H locs cells slots) {ci a N : Nat} {T : u_T} (hrk : sK σ a = some ci) (hci : vwCl[ci]? = some (C, T, N)) (hlt : ci < 100) : ∃ cell : Cell, H[a]? = some cell ∧ cell.vm.isStatics = false ∧ s.vm.findClass C = some cell.cls := by
  obtain ⟨r, h1, cell, q1, q2, q3, -⟩ := (hD.1.2.2 a ci hrk).2.obj hlt
  exact ⟨cell, q1, by rw [q3]; rfl, by rw [q2]; exact (hKn.1.1 ci _ hci).2.1⟩
variable {fr lo ci N : Nat} {T : u_T} {ov : Option Value} {st0 : List Value} {ws' : List Cond}
theorem hw_V (S : CallFix p m c cc nL s args Ts own) (hKn : Kn D G base E s) (hRm : R.cells = E.2.1 - sN σ0 ∧ R.slots = E.2.2.1 - sS σ0) (hD : Dy D G base E s.heap σ0 σ H locs cells slots) (hM : Ct l D G base E y ws fr lo (.ref b :: As) σ ov τ) (hmo : sN σ ≤ sN τ ∧ sS σ ≤ sS τ ∧ sN τ ≤ E.2.1 ∧ sS τ ≤ E.2.2.1) (hrk : sK σ b = some ci) (hci : vwCl[ci]? = some (C, T, N)) (hlt : ci < 100)
    (hT : GoodIn Ts (wsV own index C y ws)) (hw : ws = Cond.code y bytes maxL ret :: ws') (n : Nat) (hd : y.cls = C ∧ y.cls ≠ "java/lang/invoke/MethodHandle" ∧ y.cls ≠ "java/lang/invoke/VarHandle" ∧ (parseMethodDescriptor y.desc).map (fun d => d.parameters.length) = some n) (hR : fr + 1 ≤ R.frames ∧ 8 + (maxL + 11) + lo ≤ R.locals)
    (hn : As.length = n) (hsize : ls.size = nL) (hW : (rest.map fun v => v.category).sum ≤ 8) (hst : st0 = As.reverse ++ .ref b :: rest) (hdg : decode cc pc = .ok (.invokevirtual index, 3))
    (kk : ∀ (H1 : Heap) (locs1 : List Loc) (cells1 slots1 : Nat), Dy D G base E s.heap σ0 τ H1 locs1 cells1 slots1 → W p l e R s m args below meth c H1 locs1 cells1 slots1 Q (F0 m (pc + 3) ls (ov.toList ++ rest))) : W p l e R s m args below meth c H locs cells slots Q (F0 m pc ls st0) := by
  subst hst
  refine hw_go (hw_runV (As := As) (b := b) (rest := rest) S hM (cwV n S.2.2.2.2 hT hw rfl rfl hd hR) ⟨hw_blind, hw_rc hKn hD hrk hci hlt, fun U hU hW => ⟨rfl, hw_pre hKn hD U hU hW⟩⟩ rfl hn hsize rfl (lv_room hW) hdg (hw_room hRm hD)) hD hmo kk
theorem hw_S (S : CallFix p m c cc nL s args Ts own) (hKn : Kn D G base E s) (hRm : R.cells = E.2.1 - sN σ0 ∧ R.slots = E.2.2.1 - sS σ0) (hD : Dy D G base E s.heap σ0 σ H locs cells slots) (hM : Ct l D G base E y ws fr lo As σ ov τ) (hmo : sN σ ≤ sN τ ∧ sS σ ≤ sS τ ∧ sN τ ≤ E.2.1 ∧ sS τ ≤ E.2.2.1)
    (hT : GoodIn Ts (va_wsS own index y ws)) (hw : ws = Cond.code y bytes maxL ret :: ws') (n : Nat) (hd : y.cls ≠ "java/lang/invoke/MethodHandle" ∧ y.cls ≠ "java/lang/invoke/VarHandle" ∧ (parseMethodDescriptor y.desc).map (fun d => d.parameters.length) = some n) (hR : fr + 1 ≤ R.frames ∧ 8 + (maxL + 11) + lo ≤ R.locals)
    (hn : As.length = n) (hsize : ls.size = nL) (hW : (rest.map fun v => v.category).sum ≤ 8) (hst : st0 = As.reverse ++ rest) (hdg : decode cc pc = .ok (.invokestatic index, 3))
    (kk : ∀ (H1 : Heap) (locs1 : List Loc) (cells1 slots1 : Nat), Dy D G base E s.heap σ0 τ H1 locs1 cells1 slots1 → W p l e R s m args below meth c H1 locs1 cells1 slots1 Q (F0 m (pc + 3) ls (ov.toList ++ rest))) : W p l e R s m args below meth c H locs cells slots Q (F0 m pc ls st0) := by
  subst hst
  refine hw_go (hw_runS (As := As) (rest := rest) S hM (va_cwS n S.2.2.2.2 hT hw rfl rfl hd hR) ⟨hw_blind, fun U hU hW => ⟨rfl, hw_pre hKn hD U hU hW⟩⟩ rfl hn hsize rfl (lv_room hW) hdg (hw_room hRm hD)) hD hmo kk
theorem hw_SN (S : CallFix p m c cc nL s args Ts own) (hKn : Kn D G base E s) (hRm : R.cells = E.2.1 - sN σ0 ∧ R.slots = E.2.2.1 - sS σ0) (hD : Dy D G base E s.heap σ0 σ H locs cells slots) (hM : Ct l D G base E y ws fr lo As σ ov τ) (hmo : sN σ ≤ sN τ ∧ sS σ ≤ sS τ ∧ sN τ ≤ E.2.1 ∧ sS τ ≤ E.2.2.1)
    (hl : va_Nw (.methodLinkNest own index y host) s) (hG : GoodIn Ts ws) (hw : ws = Cond.code y bytes maxL ret :: ws') (n : Nat) (hini : (Cond.initialized y.cls).before args s = true) (hstt : (Cond.static y).before args s = true) (hd : y.cls ≠ "java/lang/invoke/MethodHandle" ∧ y.cls ≠ "java/lang/invoke/VarHandle" ∧ (parseMethodDescriptor y.desc).map (fun d => d.parameters.length) = some n) (hR : fr + 1 ≤ R.frames ∧ 8 + (maxL + 11) + lo ≤ R.locals)
    (hn : As.length = n) (hsize : ls.size = nL) (hW : (rest.map fun v => v.category).sum ≤ 8) (hst : st0 = As.reverse ++ rest) (hdg : decode cc pc = .ok (.invokestatic index, 3))
    (kk : ∀ (H1 : Heap) (locs1 : List Loc) (cells1 slots1 : Nat), Dy D G base E s.heap σ0 τ H1 locs1 cells1 slots1 → W p l e R s m args below meth c H1 locs1 cells1 slots1 Q (F0 m (pc + 3) ls (ov.toList ++ rest))) : W p l e R s m args below meth c H locs cells slots Q (F0 m pc ls st0) := by
  subst hst
  refine hw_go (hw_runSN (As := As) (rest := rest) S hM ⟨va_cnB n S.2.2.2.2 hG hw rfl rfl hl hini hd hR, hstt⟩ ⟨hw_blind, fun U hU hW => ⟨rfl, hw_pre hKn hD U hU hW⟩⟩ rfl hn hsize rfl (lv_room hW) hdg (hw_room hRm hD)) hD hmo kk
theorem hw_I (S : CallFix p m c cc nL s args Ts own) (hKn : Kn D G base E s) (hRm : R.cells = E.2.1 - sN σ0 ∧ R.slots = E.2.2.1 - sS σ0) (hD : Dy D G base E s.heap σ0 σ H locs cells slots) (hM : Ct l D G base E y ws fr lo (.ref b :: As) σ ov τ) (hmo : sN σ ≤ sN τ ∧ sS σ ≤ sS τ ∧ sN τ ≤ E.2.1 ∧ sS τ ≤ E.2.2.1)
    (hG : GoodIn Ts ws) (hw : ws = Cond.code y bytes maxL none :: ws') (n : Nat) (hini : (Cond.initialized y.cls).before args s = true) (hl : (Cond.methodLink own index y).before args s = true) (hin : (Cond.instanceMethod y).before args s = true) (hy1 : y.name = "<init>") (hd : y.cls ≠ "java/lang/invoke/MethodHandle" ∧ y.cls ≠ "java/lang/invoke/VarHandle" ∧ (parseMethodDescriptor y.desc).map (fun d => d.parameters.length) = some n) (hR : fr + 1 ≤ R.frames ∧ 8 + (maxL + 11) + lo ≤ R.locals)
    (hn : As.length = n) (hsize : ls.size = nL) (hW : (rest.map fun v => v.category).sum ≤ 8) (hst : st0 = As.reverse ++ .ref b :: rest) (hdg : decode cc pc = .ok (.invokespecial index, 3))
    (kk : ∀ (H1 : Heap) (locs1 : List Loc) (cells1 slots1 : Nat), Dy D G base E s.heap σ0 τ H1 locs1 cells1 slots1 → W p l e R s m args below meth c H1 locs1 cells1 slots1 Q (F0 m (pc + 3) ls (ov.toList ++ rest))) : W p l e R s m args below meth c H locs cells slots Q (F0 m pc ls st0) := by
  subst hst
  refine hw_go (hw_runI (As := As) (b := b) (rest := rest) S hM (cwI n S.2.2.2.2 hG hw rfl rfl hini hl hin hy1 hd hR) ⟨hw_blind, fun U hU hW => ⟨rfl, hw_pre hKn hD U hU hW⟩⟩ rfl hn hsize rfl (lv_room hW) hdg (hw_room hRm hD)) hD hmo kk
theorem hw_IN (S : CallFix p m c cc nL s args Ts own) (hKn : Kn D G base E s) (hRm : R.cells = E.2.1 - sN σ0 ∧ R.slots = E.2.2.1 - sS σ0) (hD : Dy D G base E s.heap σ0 σ H locs cells slots) (hM : Ct l D G base E y ws fr lo (.ref b :: As) σ ov τ) (hmo : sN σ ≤ sN τ ∧ sS σ ≤ sS τ ∧ sN τ ≤ E.2.1 ∧ sS τ ≤ E.2.2.1)
    (hl : va_Nw (.methodLinkNest own index y host) s) (hG : GoodIn Ts ws) (hw : ws = Cond.code y bytes maxL none :: ws') (n : Nat) (hini : (Cond.initialized y.cls).before args s = true) (hin : (Cond.instanceMethod y).before args s = true) (hy1 : y.name = "<init>") (hd : y.cls ≠ "java/lang/invoke/MethodHandle" ∧ y.cls ≠ "java/lang/invoke/VarHandle" ∧ (parseMethodDescriptor y.desc).map (fun d => d.parameters.length) = some n) (hR : fr + 1 ≤ R.frames ∧ 8 + (maxL + 11) + lo ≤ R.locals)
    (hn : As.length = n) (hsize : ls.size = nL) (hW : (rest.map fun v => v.category).sum ≤ 8) (hst : st0 = As.reverse ++ .ref b :: rest) (hdg : decode cc pc = .ok (.invokespecial index, 3))
    (kk : ∀ (H1 : Heap) (locs1 : List Loc) (cells1 slots1 : Nat), Dy D G base E s.heap σ0 τ H1 locs1 cells1 slots1 → W p l e R s m args below meth c H1 locs1 cells1 slots1 Q (F0 m (pc + 3) ls (ov.toList ++ rest))) : W p l e R s m args below meth c H locs cells slots Q (F0 m pc ls st0) := by
  subst hst
  refine hw_go (hw_runIN (As := As) (b := b) (rest := rest) S hM ⟨va_cnB n S.2.2.2.2 hG hw rfl rfl hl hini hd hR, hy1, hin⟩ ⟨hw_blind, fun U hU hW => ⟨rfl, hw_pre hKn hD U hU hW⟩⟩ rfl hn hsize rfl (lv_room hW) hdg (hw_room hRm hD)) hD hmo kk
/-- fields -/
theorem fV_i {σ : PS} {ci a k : Nat} (h : cIsR ci k = false) : fV σ ci a k = .int (sI σ ci k a) := by
  unfold fV
  rw [h]
  rfl
theorem fV_r {σ : PS} {ci a k : Nat} (h : cIsR ci k = true) : fV σ ci a k = va_rf (sR σ ci k a) := by
  unfold fV
  rw [if_pos h]
variable {a k : Nat} {ref : String}
theorem hw_get (S : CallFix p m c cc nL s args Ts own) (hKn : Kn D G base E s) (hD : Dy D G base E s.heap σ0 σ H locs cells slots) (hrk : sK σ a = some ci) (hci : vwCl[ci]? = some (C, T, N)) (hlt : ci < 100) (hk : k < N) (hin : ∀ w ∈ u_ws C T N, w ∈ Ts) (hlink : (Cond.fieldLink own index ref (T k).2.1 (T k).2.2.1).before args s = true) (hsame : ∀ x, s.fieldFound? (T k).1 (T k).2.1 (T k).2.2.1 = some x → s.fieldFound? ref (T k).2.1 (T k).2.2.1 = some x)
    (hdg : decode cc pc = .ok (.getfield index, 3)) (kk : W p l e R s m args below meth c H locs cells slots Q (F0 m (pc + 3) ls (fV σ ci a k :: rest))) : W p l e R s m args below meth c H locs cells slots Q (F0 m pc ls (.ref a :: rest)) := by
  obtain ⟨r, h1, cell, q1, q2, q3, q4⟩ := (hD.1.2.2 a ci hrk).2.obj hlt
  cases h1.symm.trans hci
  obtain ⟨hx, hb, -, hown, hts⟩ := S
  obtain ⟨hS, hfc, kC, hkC, hkind⟩ := hKn.1.1 ci _ hci
  obtain ⟨cf, kf, fi, f, hi, hsl⟩ := hS k hk
  refine W.getf hx hb hown hlink (hsame _ hi) (u_facts hfc hkC (u_lays hts hin hk) hi).1 q1 (by rw [q3]; exact fun h => by cases h) (v := fV σ ci a k) ?_ rfl rfl hdg kk
  rw [hsl, q4 k hk]
theorem hw_gi {r : Option Nat} {x : Int32} (S : CallFix p m c cc nL s args Ts own) (hKn : Kn D G base E s) (hD : Dy D G base E s.heap σ0 σ H locs cells slots) (ho : oGi ci k r σ = some x) (hci : vwCl[ci]? = some (C, T, N)) (hlt : ci < 100) (hk : k < N) (hir : cIsR ci k = false) (hin : ∀ w ∈ u_ws C T N, w ∈ Ts) (hlink : (Cond.fieldLink own index ref (T k).2.1 (T k).2.2.1).before args s = true) (hsame : ∀ x, s.fieldFound? (T k).1 (T k).2.1 (T k).2.2.1 = some x → s.fieldFound? ref (T k).2.1 (T k).2.2.1 = some x)
    (hdg : decode cc pc = .ok (.getfield index, 3)) (kk : W p l e R s m args below meth c H locs cells slots Q (F0 m (pc + 3) ls (.int x :: rest))) : W p l e R s m args below meth c H locs cells slots Q (F0 m pc ls (va_rf r :: rest)) := by
  obtain ⟨a, rfl, hrk, rfl⟩ := oGi_of ho
  refine hw_get S hKn hD hrk hci hlt hk hin hlink hsame hdg ?_
  rw [fV_i hir]
  exact kk
theorem hw_gr {r x : Option Nat} (S : CallFix p m c cc nL s args Ts own) (hKn : Kn D G base E s) (hD : Dy D G base E s.heap σ0 σ H locs cells slots) (ho : oGr ci k r σ = some x) (hci : vwCl[ci]? = some (C, T, N)) (hlt : ci < 100) (hk : k < N) (hir : cIsR ci k = true) (hin : ∀ w ∈ u_ws C T N, w ∈ Ts) (hlink : (Cond.fieldLink own index ref (T k).2.1 (T k).2.2.1).before args s = true) (hsame : ∀ x, s.fieldFound? (T k).1 (T k).2.1 (T k).2.2.1 = some x → s.fieldFound? ref (T k).2.1 (T k).2.2.1 = some x)
    (hdg : decode cc pc = .ok (.getfield index, 3)) (kk : W p l e R s m args below meth c H locs cells slots Q (F0 m (pc + 3) ls (va_rf x :: rest))) : W p l e R s m args below meth c H locs cells slots Q (F0 m pc ls (va_rf r :: rest)) := by
  obtain ⟨a, rfl, hrk, rfl⟩ := oGr_of ho
  refine hw_get S hKn hD hrk hci hlt hk hin hlink hsame hdg ?_
  rw [fV_r hir]
  exact kk
theorem dEq_pI {ci k a b : Nat} {v : Int32} (h : b ≠ a) : dEq σ (pI ci k a v σ) b := by
  refine ⟨rfl, fun c j => ?_, fun _ _ => rfl, fun _ => rfl, fun _ => rfl, fun _ => rfl⟩
  show (if c = ci ∧ j = k ∧ b = a then v else sI σ c j b) = _
  rw [if_neg (fun z => h z.2.2)]
theorem dEq_pR {ci k a b : Nat} {v : Option Nat} (h : b ≠ a) : dEq σ (pR ci k a v σ) b := by
  refine ⟨rfl, fun _ _ => rfl, fun c j => ?_, fun _ => rfl, fun _ => rfl, fun _ => rfl⟩
  show (if c = ci ∧ j = k ∧ b = a then v else sR σ c j b) = _
  rw [if_neg (fun z => h z.2.2)]
theorem dEq_pA {a i b : Nat} {v : Int32} (h : b ≠ a) : dEq σ (pA a i v σ) b := by
  refine ⟨rfl, fun _ _ => rfl, fun _ _ => rfl, fun j => ?_, fun _ => rfl, fun _ => rfl⟩
  show (if b = a ∧ j = i then v else sA σ b j) = _
  rw [if_neg (fun z => h z.1)]
theorem dEq_pQ {a i b : Nat} {v : Option Nat} (h : b ≠ a) : dEq σ (pQ a i v σ) b := by
  refine ⟨rfl, fun _ _ => rfl, fun _ _ => rfl, fun _ => rfl, fun j => ?_, fun _ => rfl⟩
  show (if b = a ∧ j = i then v else sQ σ b j) = _
  rw [if_neg (fun z => h z.1)]
theorem dEq_pQs {a b : Nat} {f : Nat → Option Nat} (h : b ≠ a) : dEq σ (pQs a f σ) b := by
  refine ⟨rfl, fun _ _ => rfl, fun _ _ => rfl, fun _ => rfl, fun j => ?_, fun _ => rfl⟩
  show (if b = a then f j else sQ σ b j) = _
  rw [if_neg h]
theorem dEq_pJ {a i b : Nat} {v : Int64} (h : b ≠ a) : dEq σ (pJ a i v σ) b := by
  refine ⟨rfl, fun _ _ => rfl, fun _ _ => rfl, fun _ => rfl, fun _ => rfl, fun j => ?_⟩
  show (if b = a ∧ j = i then v else sJ σ b j) = _
  rw [if_neg (fun z => h z.1)]
theorem fV_pI {ci k a : Nat} {v : Int32} (h : cIsR ci k = false) (j : Nat) : updV (fV σ ci a) k (.int v) j = fV (pI ci k a v σ) ci a j := by
  unfold updV
  by_cases e : j = k
  · subst e
    rw [if_pos rfl, fV_i h]
    show _ = Value.int (if ci = ci ∧ j = j ∧ a = a then v else _)
    rw [if_pos ⟨rfl, rfl, rfl⟩]
  · rw [if_neg e]
    unfold fV
    show _ = if cIsR ci j = true then va_rf (sR σ ci j a) else Value.int (if ci = ci ∧ j = k ∧ a = a then v else sI σ ci j a)
    rw [if_neg (c := ci = ci ∧ j = k ∧ a = a) (fun z => e z.2.1)]
theorem fV_pR {ci k a : Nat} {v : Option Nat} (h : cIsR ci k = true) (j : Nat) : updV (fV σ ci a) k (va_rf v) j = fV (pR ci k a v σ) ci a j := by
  unfold updV
  by_cases e : j = k
  · subst e
    rw [if_pos rfl, fV_r h]
    show _ = va_rf (if ci = ci ∧ j = j ∧ a = a then v else _)
    rw [if_pos ⟨rfl, rfl, rfl⟩]
  · rw [if_neg e]
    unfold fV
    show _ = if cIsR ci j = true then va_rf (if ci = ci ∧ j = k ∧ a = a then v else sR σ ci j a) else Value.int (sI σ ci j a)
    rw [if_neg (c := ci = ci ∧ j = k ∧ a = a) (fun z => e z.2.1)]
/-- a store, of a field that isn't final -/
theorem hw_put {v : Value} (S : CallFix p m c cc nL s args Ts own) (hKn : Kn D G base E s) (hD : Dy D G base E s.heap σ0 σ H locs cells slots) (hrk : sK σ a = some ci) (hci : vwCl[ci]? = some (C, T, N)) (hlt : ci < 100) (hk : k < N) (hin : ∀ w ∈ u_ws C T N, w ∈ Ts) (ty0 : Nat → FieldType) (hty : ∀ k, k < N → parseFieldDescriptor (T k).2.2.1 = some (ty0 k)) (hnm : ∀ a, a < N → ∀ b, b < N → a ≠ b → (T a).2.1 ≠ (T b).2.1) (hlink : (Cond.fieldLink own index ref (T k).2.1 (T k).2.2.1).before args s = true) (hsame : ∀ x, s.fieldFound? (T k).1 (T k).2.1 (T k).2.2.1 = some x → s.fieldFound? ref (T k).2.1 (T k).2.2.1 = some x) (hfin : (T k).2.2.2 = false) (hn : narrow (ty0 k) v = v) (hfit : fits (ty0 k) v = true)
    (hN : sN τ = sN σ) (hSl : sS τ = sS σ) (hKk : sK τ = sK σ) (hde : ∀ b, b ≠ a → dEq σ τ b) (hfv : ∀ j, updV (fV σ ci a) k v j = fV τ ci a j)
    (hdg : decode cc pc = .ok (.putfield index, 3)) (kk : ∀ (H1 : Heap) (locs1 : List Loc), Dy D G base E s.heap σ0 τ H1 locs1 cells slots → W p l e R s m args below meth c H1 locs1 cells slots Q (F0 m (pc + 3) ls rest)) : W p l e R s m args below meth c H locs cells slots Q (F0 m pc ls (v :: .ref a :: rest)) := by
  obtain ⟨hba, hcl⟩ := hD.1.2.2 a ci hrk
  obtain ⟨r, h1, cell, q1, q2, q3, q4⟩ := hcl.obj hlt
  cases h1.symm.trans hci
  obtain ⟨hx, hb, -, hown, hts⟩ := S
  have hap := va_apart (own := own) hts hin ty0 hty hnm hKn.1 hci
  obtain ⟨hS, hfc, kC, hkC, hkind⟩ := hKn.1.1 ci _ hci
  obtain ⟨cf, kf, fi, f, hi, hsl⟩ := hS k hk
  have hlay := hts _ (hin _ (u_in_lay hk))
  unfold u_lay at hlay
  rw [if_neg (by rw [hfin]; decide)] at hlay
  have hst := (u_facts hfc hkC (u_lays hts hin hk) hi).1
  have h6 := u_store hfc hkC hkind hlay hi (hty k hk) hn hfit
  refine W.putK hx hb (f := f) ⟨hown, hlink, ⟨_, _, _, hsame _ hi⟩, hst⟩ (by rw [q2]; exact h6) q1 q3 (by rw [hsl]; exact k2_hasslot (q4 k hk)) rfl rfl hdg fun H' e1 e2 e3 => ?_
  rw [hsl] at e1 ⊢
  have hR : Rp D G base τ H' := hD.1.put hN hKk e2 e3 hde hrk (Cl.of hlt hci (t_OB.to (V := updV (fV σ ci a) k v) ⟨_, e1, q2, q3, t_set q4 hap hk v⟩ (fun j _ => hfv j)))
  exact kk H' _ (hD.put hN hSl hR e2 e3 hba)
theorem hw_putF {v : Value} (S : CallFix p m c cc nL s args Ts own) (hKn : Kn D G base E s) (hD : Dy D G base E s.heap σ0 σ H locs cells slots) (hrk : sK σ a = some ci) (hci : vwCl[ci]? = some (C, T, N)) (hlt : ci < 100) (hk : k < N) (hin : ∀ w ∈ u_ws C T N, w ∈ Ts) (ty0 : Nat → FieldType) (hty : ∀ k, k < N → parseFieldDescriptor (T k).2.2.1 = some (ty0 k)) (hnm : ∀ a, a < N → ∀ b, b < N → a ≠ b → (T a).2.1 ≠ (T b).2.1) (hlink : (Cond.fieldLink own index ref (T k).2.1 (T k).2.2.1).before args s = true) (hsame : ∀ x, s.fieldFound? (T k).1 (T k).2.1 (T k).2.2.1 = some x → s.fieldFound? ref (T k).2.1 (T k).2.2.1 = some x) (hfin : (T k).2.2.2 = true) (hin2 : meth.name = "<init>") (hdecl : (T k).1 = own) (hn : narrow (ty0 k) v = v) (hfit : fits (ty0 k) v = true)
    (hN : sN τ = sN σ) (hSl : sS τ = sS σ) (hKk : sK τ = sK σ) (hde : ∀ b, b ≠ a → dEq σ τ b) (hfv : ∀ j, updV (fV σ ci a) k v j = fV τ ci a j)
    (hdg : decode cc pc = .ok (.putfield index, 3)) (kk : ∀ (H1 : Heap) (locs1 : List Loc), Dy D G base E s.heap σ0 τ H1 locs1 cells slots → W p l e R s m args below meth c H1 locs1 cells slots Q (F0 m (pc + 3) ls rest)) : W p l e R s m args below meth c H locs cells slots Q (F0 m pc ls (v :: .ref a :: rest)) := by
  obtain ⟨hba, hcl⟩ := hD.1.2.2 a ci hrk
  obtain ⟨r, h1, cell, q1, q2, q3, q4⟩ := hcl.obj hlt
  cases h1.symm.trans hci
  obtain ⟨hx, hb, -, hown, hts⟩ := S
  have hap := va_apart (own := own) hts hin ty0 hty hnm hKn.1 hci
  obtain ⟨hS, hfc, kC, hkC, hkind⟩ := hKn.1.1 ci _ hci
  obtain ⟨cf, kf, fi, f, hi, hsl⟩ := hS k hk
  have hlay := hts _ (hin _ (u_in_lay hk))
  unfold u_lay at hlay
  rw [if_pos hfin] at hlay
  have hst := (u_facts hfc hkC (u_lays hts hin hk) hi).1
  have hcf : m.cls = cf := by
    obtain ⟨_, _, c', _, _, _, -, -, hf', -, -, -, hown2, -⟩ := Cond.laysFinal_spec hlay
    have e1 : c' = cf := by have := hi.symm.trans hf'; simp at this; exact this.1.symm
    rw [hdecl] at hown2
    rw [← e1]; exact Option.some.inj (hown.symm.trans hown2)
  have h6 := u_fits hfc hkC hkind (Or.inr hlay) hi (hty k hk) hn hfit
  refine W.putFinK hx hb hown hlink (hsame _ hi) hst hcf hin2 (by rw [q2]; exact h6) q1 q3 (by rw [hsl]; exact k2_hasslot (q4 k hk)) rfl rfl hdg fun H' e1 e2 e3 => ?_
  rw [hsl] at e1 ⊢
  have hR : Rp D G base τ H' := hD.1.put hN hKk e2 e3 hde hrk (Cl.of hlt hci (t_OB.to (V := updV (fV σ ci a) k v) ⟨_, e1, q2, q3, t_set q4 hap hk v⟩ (fun j _ => hfv j)))
  exact kk H' _ (hD.put hN hSl hR e2 e3 hba)
theorem hw_pi {r : Option Nat} {x : Int32} (S : CallFix p m c cc nL s args Ts own) (hKn : Kn D G base E s) (hD : Dy D G base E s.heap σ0 σ H locs cells slots) (ho : oPi ci k r x σ = some τ) (hci : vwCl[ci]? = some (C, T, N)) (hlt : ci < 100) (hk : k < N) (hir : cIsR ci k = false) (hin : ∀ w ∈ u_ws C T N, w ∈ Ts) (ty0 : Nat → FieldType) (hty : ∀ k, k < N → parseFieldDescriptor (T k).2.2.1 = some (ty0 k)) (hnm : ∀ a, a < N → ∀ b, b < N → a ≠ b → (T a).2.1 ≠ (T b).2.1) (hlink : (Cond.fieldLink own index ref (T k).2.1 (T k).2.2.1).before args s = true) (hsame : ∀ x, s.fieldFound? (T k).1 (T k).2.1 (T k).2.2.1 = some x → s.fieldFound? ref (T k).2.1 (T k).2.2.1 = some x) (hfin : (T k).2.2.2 = false) (hn : narrow (ty0 k) (.int x) = .int x) (hfit : fits (ty0 k) (.int x) = true)
    (hdg : decode cc pc = .ok (.putfield index, 3)) (kk : ∀ (H1 : Heap) (locs1 : List Loc), Dy D G base E s.heap σ0 τ H1 locs1 cells slots → W p l e R s m args below meth c H1 locs1 cells slots Q (F0 m (pc + 3) ls rest)) : W p l e R s m args below meth c H locs cells slots Q (F0 m pc ls (.int x :: va_rf r :: rest)) := by
  obtain ⟨a, rfl, hrk, rfl⟩ := oPi_of ho
  exact hw_put (τ := pI ci k a x σ) S hKn hD hrk hci hlt hk hin ty0 hty hnm hlink hsame hfin hn hfit rfl rfl rfl (fun b hb => dEq_pI hb) (fV_pI hir) hdg kk
theorem hw_pr {r x : Option Nat} (S : CallFix p m c cc nL s args Ts own) (hKn : Kn D G base E s) (hD : Dy D G base E s.heap σ0 σ H locs cells slots) (ho : oPr ci k r x σ = some τ) (hci : vwCl[ci]? = some (C, T, N)) (hlt : ci < 100) (hk : k < N) (hir : cIsR ci k = true) (hin : ∀ w ∈ u_ws C T N, w ∈ Ts) (ty0 : Nat → FieldType) (hty : ∀ k, k < N → parseFieldDescriptor (T k).2.2.1 = some (ty0 k)) (hnm : ∀ a, a < N → ∀ b, b < N → a ≠ b → (T a).2.1 ≠ (T b).2.1) (hlink : (Cond.fieldLink own index ref (T k).2.1 (T k).2.2.1).before args s = true) (hsame : ∀ x, s.fieldFound? (T k).1 (T k).2.1 (T k).2.2.1 = some x → s.fieldFound? ref (T k).2.1 (T k).2.2.1 = some x) (hfin : (T k).2.2.2 = false) (hn : narrow (ty0 k) (va_rf x) = va_rf x) (hfit : fits (ty0 k) (va_rf x) = true)
    (hdg : decode cc pc = .ok (.putfield index, 3)) (kk : ∀ (H1 : Heap) (locs1 : List Loc), Dy D G base E s.heap σ0 τ H1 locs1 cells slots → W p l e R s m args below meth c H1 locs1 cells slots Q (F0 m (pc + 3) ls rest)) : W p l e R s m args below meth c H locs cells slots Q (F0 m pc ls (va_rf x :: va_rf r :: rest)) := by
  obtain ⟨a, rfl, hrk, rfl⟩ := oPr_of ho
  exact hw_put (τ := pR ci k a x σ) S hKn hD hrk hci hlt hk hin ty0 hty hnm hlink hsame hfin hn hfit rfl rfl rfl (fun b hb => dEq_pR hb) (fV_pR hir) hdg kk
theorem hw_piF {r : Option Nat} {x : Int32} (S : CallFix p m c cc nL s args Ts own) (hKn : Kn D G base E s) (hD : Dy D G base E s.heap σ0 σ H locs cells slots) (ho : oPi ci k r x σ = some τ) (hci : vwCl[ci]? = some (C, T, N)) (hlt : ci < 100) (hk : k < N) (hir : cIsR ci k = false) (hin : ∀ w ∈ u_ws C T N, w ∈ Ts) (ty0 : Nat → FieldType) (hty : ∀ k, k < N → parseFieldDescriptor (T k).2.2.1 = some (ty0 k)) (hnm : ∀ a, a < N → ∀ b, b < N → a ≠ b → (T a).2.1 ≠ (T b).2.1) (hlink : (Cond.fieldLink own index ref (T k).2.1 (T k).2.2.1).before args s = true) (hsame : ∀ x, s.fieldFound? (T k).1 (T k).2.1 (T k).2.2.1 = some x → s.fieldFound? ref (T k).2.1 (T k).2.2.1 = some x) (hfin : (T k).2.2.2 = true) (hin2 : meth.name = "<init>") (hdecl : (T k).1 = own) (hn : narrow (ty0 k) (.int x) = .int x) (hfit : fits (ty0 k) (.int x) = true)
    (hdg : decode cc pc = .ok (.putfield index, 3)) (kk : ∀ (H1 : Heap) (locs1 : List Loc), Dy D G base E s.heap σ0 τ H1 locs1 cells slots → W p l e R s m args below meth c H1 locs1 cells slots Q (F0 m (pc + 3) ls rest)) : W p l e R s m args below meth c H locs cells slots Q (F0 m pc ls (.int x :: va_rf r :: rest)) := by
  obtain ⟨a, rfl, hrk, rfl⟩ := oPi_of ho
  exact hw_putF (τ := pI ci k a x σ) S hKn hD hrk hci hlt hk hin ty0 hty hnm hlink hsame hfin hin2 hdecl hn hfit rfl rfl rfl (fun b hb => dEq_pI hb) (fV_pI hir) hdg kk
theorem hw_prF {r x : Option Nat} (S : CallFix p m c cc nL s args Ts own) (hKn : Kn D G base E s) (hD : Dy D G base E s.heap σ0 σ H locs cells slots) (ho : oPr ci k r x σ = some τ) (hci : vwCl[ci]? = some (C, T, N)) (hlt : ci < 100) (hk : k < N) (hir : cIsR ci k = true) (hin : ∀ w ∈ u_ws C T N, w ∈ Ts) (ty0 : Nat → FieldType) (hty : ∀ k, k < N → parseFieldDescriptor (T k).2.2.1 = some (ty0 k)) (hnm : ∀ a, a < N → ∀ b, b < N → a ≠ b → (T a).2.1 ≠ (T b).2.1) (hlink : (Cond.fieldLink own index ref (T k).2.1 (T k).2.2.1).before args s = true) (hsame : ∀ x, s.fieldFound? (T k).1 (T k).2.1 (T k).2.2.1 = some x → s.fieldFound? ref (T k).2.1 (T k).2.2.1 = some x) (hfin : (T k).2.2.2 = true) (hin2 : meth.name = "<init>") (hdecl : (T k).1 = own) (hn : narrow (ty0 k) (va_rf x) = va_rf x) (hfit : fits (ty0 k) (va_rf x) = true)
    (hdg : decode cc pc = .ok (.putfield index, 3)) (kk : ∀ (H1 : Heap) (locs1 : List Loc), Dy D G base E s.heap σ0 τ H1 locs1 cells slots → W p l e R s m args below meth c H1 locs1 cells slots Q (F0 m (pc + 3) ls rest)) : W p l e R s m args below meth c H locs cells slots Q (F0 m pc ls (va_rf x :: va_rf r :: rest)) := by
  obtain ⟨a, rfl, hrk, rfl⟩ := oPr_of ho
  exact hw_putF (τ := pR ci k a x σ) S hKn hD hrk hci hlt hk hin ty0 hty hnm hlink hsame hfin hin2 hdecl hn hfit rfl rfl rfl (fun b hb => dEq_pR hb) (fV_pR hir) hdg kk
/-- arrays -/
theorem hw_al {r : Option Nat} {i x : Int32} (S : CallFix p m c cc nL s args Ts own) (hKn : Kn D G base E s) (hD : Dy D G base E s.heap σ0 σ H locs cells slots) (ho : oAl r i σ = some x) (hdg : decode cc pc = .ok (.iaload, 1)) (kk : W p l e R s m args below meth c H locs cells slots Q (F0 m (pc + 1) ls (.int x :: rest))) : W p l e R s m args below meth c H locs cells slots Q (F0 m pc ls (.int i :: va_rf r :: rest)) := by
  obtain ⟨a, rfl, hrk, hin, rfl⟩ := oAl_of ho
  have hP : va_P D vwCl [(a, .inl (G.1, sL σ a, .inl (sA σ a)))] H := fun k q hq => by
    have hk : k = 0 := by have := (List.getElem?_eq_some_iff.mp hq).1; simp at this; omega
    subst hk
    cases hq
    exact Cl.ints.mp (hD.1.2.2 a 100 hrk).2
  exact va_iald S.1 S.2.1 hKn.1 hP 0 0 rfl rfl hin hdg kk
theorem hw_jl {r : Option Nat} {i : Int32} {x : Int64} (S : CallFix p m c cc nL s args Ts own) (hKn : Kn D G base E s) (hD : Dy D G base E s.heap σ0 σ H locs cells slots) (ho : oJl r i σ = some x) (hdg : decode cc pc = .ok (.laload, 1)) (kk : W p l e R s m args below meth c H locs cells slots Q (F0 m (pc + 1) ls (.long x :: rest))) : W p l e R s m args below meth c H locs cells slots Q (F0 m pc ls (.int i :: va_rf r :: rest)) := by
  obtain ⟨a, rfl, hrk, hin, rfl⟩ := oJl_of ho
  have hP : va_P D vwCl [(a, .inl (G.2.1, sL σ a, .inr (.inl (sJ σ a))))] H := fun k q hq => by
    have hk : k = 0 := by have := (List.getElem?_eq_some_iff.mp hq).1; simp at this; omega
    subst hk
    cases hq
    exact Cl.longs.mp (hD.1.2.2 a 101 hrk).2
  exact va_lald S.1 S.2.1 hKn.1 hP 0 1 rfl rfl hin hdg kk
theorem hw_ql {r x : Option Nat} {i : Int32} (S : CallFix p m c cc nL s args Ts own) (hKn : Kn D G base E s) (hD : Dy D G base E s.heap σ0 σ H locs cells slots) (ho : oQl r i σ = some x) (hdg : decode cc pc = .ok (.aaload, 1)) (kk : W p l e R s m args below meth c H locs cells slots Q (F0 m (pc + 1) ls (va_rf x :: rest))) : W p l e R s m args below meth c H locs cells slots Q (F0 m pc ls (.int i :: va_rf r :: rest)) := by
  obtain ⟨a, rfl, hrk, hin, rfl⟩ := oQl_of ho
  have hP : va_P D vwCl [(a, .inl (G.2.2, sL σ a, .inr (.inr (.inr (.inr (sQ σ a))))))] H := fun k q hq => by
    have hk : k = 0 := by have := (List.getElem?_eq_some_iff.mp hq).1; simp at this; omega
    subst hk
    cases hq
    exact Cl.refs.mp (hD.1.2.2 a 102 hrk).2
  exact va_aldq S.1 S.2.1 hKn.1 hP 0 2 rfl rfl hin hdg kk
theorem hw_as {r : Option Nat} {i x : Int32} (S : CallFix p m c cc nL s args Ts own) (hKn : Kn D G base E s) (hD : Dy D G base E s.heap σ0 σ H locs cells slots) (ho : oAs r i x σ = some τ) (hdg : decode cc pc = .ok (.iastore, 1)) (kk : ∀ (H1 : Heap) (locs1 : List Loc), Dy D G base E s.heap σ0 τ H1 locs1 cells slots → W p l e R s m args below meth c H1 locs1 cells slots Q (F0 m (pc + 1) ls rest)) : W p l e R s m args below meth c H locs cells slots Q (F0 m pc ls (.int x :: .int i :: va_rf r :: rest)) := by
  obtain ⟨a, rfl, hrk, hin, rfl⟩ := oAs_of ho
  obtain ⟨hba, hcl⟩ := hD.1.2.2 a 100 hrk
  refine W.iast S.1 S.2.1 (Cl.ints.mp hcl) ((hKn.1.2 0 _ rfl).1 (sL σ a) (fun j => .int (sA σ a j))) (fun q => by cases q) (by rw [arrV_size]; exact hin) rfl rfl hdg fun H1 e z oq => ?_
  refine kk H1 _ (hD.put rfl rfl (hD.1.put rfl rfl z oq (fun b hb => dEq_pA hb) hrk (Cl.ints.mpr ?_)) z oq hba)
  rw [e, arrV_store]
  congr 2
  funext q
  show updV _ _ _ q = Value.int (if a = a ∧ q = i.toNatClampNeg then x else sA σ a q)
  by_cases hq : q = i.toNatClampNeg
  · rw [if_pos ⟨rfl, hq⟩]; simp [updV, hq]
  · rw [if_neg (fun z => hq z.2)]; simp [updV, hq]
theorem hw_js {r : Option Nat} {i : Int32} {x : Int64} (S : CallFix p m c cc nL s args Ts own) (hKn : Kn D G base E s) (hD : Dy D G base E s.heap σ0 σ H locs cells slots) (ho : oJs r i x σ = some τ) (hdg : decode cc pc = .ok (.lastore, 1)) (kk : ∀ (H1 : Heap) (locs1 : List Loc), Dy D G base E s.heap σ0 τ H1 locs1 cells slots → W p l e R s m args below meth c H1 locs1 cells slots Q (F0 m (pc + 1) ls rest)) : W p l e R s m args below meth c H locs cells slots Q (F0 m pc ls (.long x :: .int i :: va_rf r :: rest)) := by
  obtain ⟨a, rfl, hrk, hin, rfl⟩ := oJs_of ho
  obtain ⟨hba, hcl⟩ := hD.1.2.2 a 101 hrk
  refine W.last S.1 S.2.1 (Cl.longs.mp hcl) ((hKn.1.2 1 _ rfl).1 (sL σ a) (fun j => .long (sJ σ a j))) (fun q => by cases q) (by rw [arrV_size]; exact hin) rfl rfl hdg fun H1 e z oq => ?_
  refine kk H1 _ (hD.put rfl rfl (hD.1.put rfl rfl z oq (fun b hb => dEq_pJ hb) hrk (Cl.longs.mpr ?_)) z oq hba)
  rw [e, arrV_store]
  congr 2
  funext q
  show updV _ _ _ q = Value.long (if a = a ∧ q = i.toNatClampNeg then x else sJ σ a q)
  by_cases hq : q = i.toNatClampNeg
  · rw [if_pos ⟨rfl, hq⟩]; simp [updV, hq]
  · rw [if_neg (fun z => hq z.2)]; simp [updV, hq]
theorem hw_any (hKn : Kn D G base E s) (hD : Dy D G base E s.heap σ0 σ H locs cells slots) {b k : Nat} (hk : sK σ b = some k) (h23 : k = 2 ∨ k = 3) : va_Any "java/lang/Object" s H b := by
  have asg : ∀ {Cn : String}, va_Nw (.castable Cn "java/lang/Object") s → ∀ comp c0 : ClassId, s.vm.findClass "java/lang/Object" = some comp → s.vm.findClass Cn = some c0 → s.vm.assignable c0 comp = true := fun hca comp c0 h1 h2 => vb_asgC hca comp c0 h1 h2
  rcases h23 with rfl | rfl
  · obtain ⟨cell, h1, h2, h3⟩ := hw_rc (C := RX1) (T := TX1) (N := 6) hKn hD hk rfl (by decide)
    obtain ⟨kC, hkC, -⟩ := Vm.findClass_spec h3
    exact ⟨cell, h1, h2, ⟨kC, hkC⟩, fun comp h => asg hKn.2.2.2.2.2.2.1.1 comp _ h h3⟩
  · obtain ⟨cell, h1, h2, h3⟩ := hw_rc (C := RX2) (T := TX2) (N := 4) hKn hD hk rfl (by decide)
    obtain ⟨kC, hkC, -⟩ := Vm.findClass_spec h3
    exact ⟨cell, h1, h2, ⟨kC, hkC⟩, fun comp h => asg hKn.2.2.2.2.2.2.1.2 comp _ h h3⟩
theorem hw_qs {r x : Option Nat} {i : Int32} (S : CallFix p m c cc nL s args Ts own) (hKn : Kn D G base E s) (hD : Dy D G base E s.heap σ0 σ H locs cells slots) (ho : oQs r i x σ = some τ) (hdg : decode cc pc = .ok (.aastore, 1)) (kk : ∀ (H1 : Heap) (locs1 : List Loc), Dy D G base E s.heap σ0 τ H1 locs1 cells slots → W p l e R s m args below meth c H1 locs1 cells slots Q (F0 m (pc + 1) ls rest)) : W p l e R s m args below meth c H locs cells slots Q (F0 m pc ls (va_rf x :: .int i :: va_rf r :: rest)) := by
  obtain ⟨a, rfl, hrk, hin, his, rfl⟩ := oQs_of ho
  obtain ⟨hba, hcl⟩ := hD.1.2.2 a 102 hrk
  have hlt : i.toNatClampNeg < sL σ a := Nat.not_le.mp fun q => hin (Or.inr q)
  have h0 : ¬ i < 0 := fun q => hin (Or.inl q)
  have fin : ∀ H1 : Heap, H1[a]? = some ((arrV G.2.2 (sL σ a) (fun j => va_rf (sQ σ a j))).setSlot i.toNatClampNeg (va_rf x)) → H1.size = H.size → (∀ q, q ≠ a → H1[q]? = H[q]?) → Dy D G base E s.heap σ0 (pQ a i.toNatClampNeg x σ) H1 (locs ++ [⟨a, i.toNatClampNeg⟩]) cells slots := by
    intro H1 e z oq
    refine hD.put rfl rfl (hD.1.put rfl rfl z oq (fun b hb => dEq_pQ hb) hrk (Cl.refs.mpr ?_)) z oq hba
    rw [e, arrV_store]
    congr 2
    funext q
    show updV _ _ _ q = va_rf (if a = a ∧ q = i.toNatClampNeg then x else sQ σ a q)
    by_cases hq : q = i.toNatClampNeg
    · rw [if_pos ⟨rfl, hq⟩]; simp [updV, hq]
    · rw [if_neg (fun z => hq z.2)]; simp [updV, hq]
  rcases oIs_of his with rfl | ⟨b, k, rfl, hk, h23⟩
  · exact va_WaastN (C := "java/lang/Object") S.1 S.2.1 (Cl.refs.mp hcl) ((hKn.1.2 2 _ rfl).1 (sL σ a) (fun j => va_rf (sQ σ a j))) (fun h => by cases h) (by rw [arrV_size]; exact hin) rfl rfl hdg fun H1 e z oq => kk H1 _ (fin H1 e z oq)
  · obtain ⟨cellV, g1, g3, ⟨kC, hkC⟩, hasg⟩ := hw_any hKn hD hk h23
    obtain ⟨kA, comp, k1, k2, k3, -⟩ := (hKn.1.2 2 _ rfl).2
    obtain ⟨kE, hkE, -⟩ := Vm.findClass_spec k3
    exact W.aast S.1 S.2.1 (Cl.refs.mp hcl) (fun q h => by cases h) (fun h => by cases h) k1 k2 rfl hkE ⟨h0, by rw [arrV_size]; exact hlt⟩ g1 (fun q h => by rw [h] at g3; cases g3) hkC (hasg _ k3) rfl rfl hdg fun H1 e z oq => kk H1 _ (fin H1 e z oq)
theorem oLn_of {E : PE} {r : Option Nat} {x : Int32} {σ : PS} (h : oLn E r σ = some x) : ∃ a, r = some a ∧ ((a = E.2.2.2.1 ∧ x = 0) ∨ ∃ k, sK σ a = some k ∧ (k = 100 ∨ k = 101 ∨ k = 102) ∧ x = Int32.ofNat (sL σ a)) := by
  cases r with
  | none => cases h
  | some a =>
    refine ⟨a, rfl, ?_⟩
    simp only [oLn] at h
    split at h
    · next e => cases h; exact Or.inl ⟨e, rfl⟩
    · cases hk : sK σ a with
      | none => rw [hk] at h; cases h
      | some k =>
        rw [hk] at h
        simp only at h
        split at h
        · next e => cases h; exact Or.inr ⟨k, rfl, e, rfl⟩
        · cases h
theorem hw_ln {r : Option Nat} {x : Int32} (S : CallFix p m c cc nL s args Ts own) (hKn : Kn D G base E s) (hD : Dy D G base E s.heap σ0 σ H locs cells slots) (ho : oLn E r σ = some x) (hdg : decode cc pc = .ok (.arraylength, 1)) (kk : W p l e R s m args below meth c H locs cells slots Q (F0 m (pc + 1) ls (.int x :: rest))) : W p l e R s m args below meth c H locs cells slots Q (F0 m pc ls (va_rf r :: rest)) := by
  obtain ⟨a, rfl, ⟨rfl, rfl⟩ | ⟨k, hk, h3, rfl⟩⟩ := oLn_of ho
  · obtain ⟨cell, h1, h2, h3, h4, h5, h6, h7⟩ := hKn.2.2.1
    exact W.alen (n := 0) S.1 S.2.1 (by rw [hD.2.1.2.1 _ (Array.getElem?_eq_some_iff.mp h1).1 h7]; exact h1) h2 (by rw [h5]; rfl) rfl rfl hdg kk
  · have hcl := (hD.1.2.2 a k hk).2
    rcases h3 with rfl | rfl | rfl
    · exact W.alen (n := Int32.ofNat (sL σ a)) S.1 S.2.1 (Cl.ints.mp hcl) ((hKn.1.2 0 _ rfl).1 (sL σ a) (fun j => .int (sA σ a j))) (by rw [arrV_size] <;> rfl) rfl rfl hdg kk
    · exact W.alen (n := Int32.ofNat (sL σ a)) S.1 S.2.1 (Cl.longs.mp hcl) ((hKn.1.2 1 _ rfl).1 (sL σ a) (fun j => .long (sJ σ a j))) (by rw [arrV_size] <;> rfl) rfl rfl hdg kk
    · exact W.alen (n := Int32.ofNat (sL σ a)) S.1 S.2.1 (Cl.refs.mp hcl) ((hKn.1.2 2 _ rfl).1 (sL σ a) (fun j => va_rf (sQ σ a j))) (by rw [arrV_size] <;> rfl) rfl rfl hdg kk
/-- new cells -/
theorem Dy.new (hD : Dy D G base E s.heap σ0 σ H locs cells slots) {H1 : Heap} {kd n : Nat} (h1 : sN σ + 1 ≤ E.2.1) (h2 : sS σ + n ≤ E.2.2.1) (hR : Rp D G base (pN kd n σ) H1) (z : H1.size = sN σ + 1) (oq : ∀ q : Nat, q < sN σ → H1[q]? = H[q]?) : Dy D G base E s.heap σ0 (pN kd n σ) H1 locs (cells + 1) (slots + n) := by
  obtain ⟨d1, d2, d3, d4, d5, d6⟩ := hD
  have hs := d1.1
  refine ⟨hR, ⟨by have := d2.1; omega, fun q h3 h4 => by have := d2.1; rw [oq q (by omega)]; exact d2.2.1 q h3 h4, d2.2.2⟩, ?_, ?_, h1, h2⟩
  · show sN σ0 + (cells + 1) = sN σ + 1; omega
  · show sS σ0 + (slots + n) = sS σ + n; omega
theorem hw_nw {r : Option Nat} (S : CallFix p m c cc nL s args Ts own) (hKn : Kn D G base E s) (hRm : R.cells = E.2.1 - sN σ0 ∧ R.slots = E.2.2.1 - sS σ0) (hD : Dy D G base E s.heap σ0 σ H locs cells slots) (ho : oNw E ci N σ = some (r, τ)) (hci : vwCl[ci]? = some (C, T, N)) (hlt : ci < 100) (hin : ∀ w ∈ u_ws C T N, w ∈ Ts) (ty0 : Nat → FieldType) (hty : ∀ k, k < N → parseFieldDescriptor (T k).2.2.1 = some (ty0 k)) (hcl : (Cond.classLink own index C).before args s = true) (hinst : (Cond.instantiable C N).before args s = true) (hini : (Cond.initialized C).before args s = true) (hdf : ∀ j, j < N → defaultValue (ty0 j) = if cIsR ci j = true then .null else .int 0) (hdg : decode cc pc = .ok (.new index, 3))
    (kk : ∀ H1 : Heap, Dy D G base E s.heap σ0 τ H1 locs (cells + 1) (slots + N) → W p l e R s m args below meth c H1 locs (cells + 1) (slots + N) Q (F0 m (pc + 3) ls (va_rf r :: rest))) : W p l e R s m args below meth c H locs cells slots Q (F0 m pc ls rest) := by
  obtain ⟨rfl, rfl, g1, g2⟩ := oNw_of ho
  obtain ⟨hx, hb, -, hown, hts⟩ := S
  have hKn0 := hKn.1.1 ci _ hci
  have hs := hD.1.1
  obtain ⟨-, -, d3, d4, d5, d6⟩ := id hD
  refine W.newcK hx hb hown hcl hinst hini rfl hdg (by rw [hRm.1]; omega) (by rw [hRm.2]; omega) hKn0.2.1 hs fun H1 kC hkC e1 z1 o1 => ?_
  refine kk H1 (hD.new g1 g2 (hD.1.new ci N z1 o1 (Cl.of hlt hci ?_)) z1 o1)
  refine (u_born ty0 hts hin hKn0 hkC e1 hty).to (fun j hj => ?_)
  rw [hdf j hj]
  unfold fV
  show _ = if cIsR ci j = true then va_rf (if sN σ = sN σ then none else _) else Value.int (if sN σ = sN σ then 0 else _)
  rw [if_pos rfl, if_pos rfl]
  rfl
theorem hw_tyI (hKn : Kn D G base E s) {cA : ClassId} (h : s.vm.findClass ("[" ++ (FieldType.int).toString) = some cA) : cA = G.1 := Option.some.inj (h.symm.trans (hKn.1.2 0 _ rfl).2)
theorem hw_tyJ (hKn : Kn D G base E s) {cA : ClassId} (h : s.vm.findClass ("[" ++ (FieldType.long).toString) = some cA) : cA = G.2.1 := Option.some.inj (h.symm.trans (hKn.1.2 1 _ rfl).2)
theorem hw_tyO (hKn : Kn D G base E s) {cA : ClassId} (h : s.vm.findClass ("[" ++ (FieldType.object "java/lang/Object").toString) = some cA) : cA = G.2.2 := by
  obtain ⟨-, -, -, -, -, h4⟩ := (hKn.1.2 2 _ rfl).2
  exact Option.some.inj (h.symm.trans h4)
theorem hw_nai {r : Option Nat} {x : Int32} (S : CallFix p m c cc nL s args Ts own) (hKn : Kn D G base E s) (hRm : R.cells = E.2.1 - sN σ0 ∧ R.slots = E.2.2.1 - sS σ0) (hD : Dy D G base E s.heap σ0 σ H locs cells slots) (ho : oNa E 100 x σ = some (r, τ)) (harr : (Cond.arrayClass .int).before args s = true) (hdg : decode cc pc = .ok (.newarray .int, 2))
    (kk : ∀ H1 : Heap, Dy D G base E s.heap σ0 τ H1 locs (cells + 1) (slots + x.toNatClampNeg) → W p l e R s m args below meth c H1 locs (cells + 1) (slots + x.toNatClampNeg) Q (F0 m (pc + 2) ls (va_rf r :: rest))) : W p l e R s m args below meth c H locs cells slots Q (F0 m pc ls (.int x :: rest)) := by
  obtain ⟨rfl, rfl, g0, g1, g2, g3⟩ := oNa_of ho
  have hs := hD.1.1
  obtain ⟨-, -, d3, d4, d5, d6⟩ := id hD
  refine va_newaK S.1 S.2.1 (atype := .int) harr rfl hdg rfl g0 rfl (by show _ * 4 ≤ _; omega) (by rw [hRm.1]; omega) (by rw [hRm.2]; omega) hs fun H1 cA e1 z1 o1 hAr hNm => ?_
  refine kk H1 (hD.new g2 g3 (hD.1.new 100 _ z1 o1 (Cl.ints.mpr ?_)) z1 o1)
  rw [e1, hw_tyI hKn hNm]
  congr 2
  · show _ = if sN σ = sN σ then _ else _
    rw [if_pos rfl]
  · funext j
    show _ = Value.int (if sN σ = sN σ then 0 else _)
    rw [if_pos rfl]
    rfl
theorem hw_naj {r : Option Nat} {x : Int32} (S : CallFix p m c cc nL s args Ts own) (hKn : Kn D G base E s) (hRm : R.cells = E.2.1 - sN σ0 ∧ R.slots = E.2.2.1 - sS σ0) (hD : Dy D G base E s.heap σ0 σ H locs cells slots) (ho : oNa E 101 x σ = some (r, τ)) (harr : (Cond.arrayClass .long).before args s = true) (hdg : decode cc pc = .ok (.newarray .long, 2))
    (kk : ∀ H1 : Heap, Dy D G base E s.heap σ0 τ H1 locs (cells + 1) (slots + x.toNatClampNeg) → W p l e R s m args below meth c H1 locs (cells + 1) (slots + x.toNatClampNeg) Q (F0 m (pc + 2) ls (va_rf r :: rest))) : W p l e R s m args below meth c H locs cells slots Q (F0 m pc ls (.int x :: rest)) := by
  obtain ⟨rfl, rfl, g0, g1, g2, g3⟩ := oNa_of ho
  have hs := hD.1.1
  obtain ⟨-, -, d3, d4, d5, d6⟩ := id hD
  refine va_newaK S.1 S.2.1 (atype := .long) harr rfl hdg rfl g0 rfl (by show _ * 8 ≤ _; omega) (by rw [hRm.1]; omega) (by rw [hRm.2]; omega) hs fun H1 cA e1 z1 o1 hAr hNm => ?_
  refine kk H1 (hD.new g2 g3 (hD.1.new 101 _ z1 o1 (Cl.longs.mpr ?_)) z1 o1)
  rw [e1, hw_tyJ hKn hNm]
  congr 2
  · show _ = if sN σ = sN σ then _ else _
    rw [if_pos rfl]
  · funext j
    show _ = Value.long (if sN σ = sN σ then 0 else _)
    rw [if_pos rfl]
    rfl
theorem hw_naq {r : Option Nat} {x : Int32} (S : CallFix p m c cc nL s args Ts own) (hKn : Kn D G base E s) (hRm : R.cells = E.2.1 - sN σ0 ∧ R.slots = E.2.2.1 - sS σ0) (hD : Dy D G base E s.heap σ0 σ H locs cells slots) (ho : oNa E 102 x σ = some (r, τ)) (hcl : (Cond.classLink own index "java/lang/Object").before args s = true) (hdg : decode cc pc = .ok (.anewarray index, 3))
    (kk : ∀ H1 : Heap, Dy D G base E s.heap σ0 τ H1 locs (cells + 1) (slots + x.toNatClampNeg) → W p l e R s m args below meth c H1 locs (cells + 1) (slots + x.toNatClampNeg) Q (F0 m (pc + 3) ls (va_rf r :: rest))) : W p l e R s m args below meth c H locs cells slots Q (F0 m pc ls (.int x :: rest)) := by
  obtain ⟨rfl, rfl, g0, g1, g2, g3⟩ := oNa_of ho
  have hs := hD.1.1
  obtain ⟨-, -, d3, d4, d5, d6⟩ := id hD
  refine W.anew S.1 S.2.1 S.2.2.2.1 hcl (va_AO.use hKn.2.2.2.2.2.2.2) rfl hdg rfl g0 (by omega) (by rw [hRm.1]; omega) (by rw [hRm.2]; omega) fun cA kA comp f1 f2 f3 f4 => ?_
  generalize hH1 : H.push ({ cls := cA, slots := Array.replicate x.toNatClampNeg .null, vm := .none } : Cell) = H1
  have z1 : H1.size = sN σ + 1 := by rw [← hH1, Array.size_push, hs]
  have e1 : H1[sN σ]? = some (arrV cA x.toNatClampNeg (fun _ => .null)) := by rw [← hH1, ← hs, Array.getElem?_push_size, ← arrV_new]
  have o1 : ∀ q : Nat, q < sN σ → H1[q]? = H[q]? := fun q hq => by rw [← hH1, Array.getElem?_push, if_neg (by omega)]
  have hg : Dy D G base E s.heap σ0 (pN 102 x.toNatClampNeg σ) H1 locs (cells + 1) (slots + x.toNatClampNeg) := by
    refine hD.new g2 g3 (hD.1.new 102 _ z1 o1 (Cl.refs.mpr ?_)) z1 o1
    rw [e1, hw_tyO hKn f1]
    congr 2
    · show _ = if sN σ = sN σ then _ else _
      rw [if_pos rfl]
    · funext j
      show _ = va_rf (if sN σ = sN σ then none else _)
      rw [if_pos rfl]
      rfl
  have := kk H1 hg
  rw [hs]
  exact this
/-- casts, statics, the class object -/
theorem hw_ca {r : Option Nat} {u : Unit} (S : CallFix p m c cc nL s args Ts own) (hKn : Kn D G base E s) (hD : Dy D G base E s.heap σ0 σ H locs cells slots) (ho : oCa ci r σ = some u) (hci : vwCl[ci]? = some (C, T, N)) (hlt : ci < 100) (hcl : (Cond.classLink own index C).before args s = true) (hdg : decode cc pc = .ok (.checkcast index, 3))
    (kk : W p l e R s m args below meth c H locs cells slots Q (F0 m (pc + 3) ls (va_rf r :: rest))) : W p l e R s m args below meth c H locs cells slots Q (F0 m pc ls (va_rf r :: rest)) := by
  rcases oCa_of ho with rfl | ⟨a, rfl, hk⟩
  · exact lv_castN S.1 S.2.1 hdg kk
  · exact va_castS S.1 S.2.1 S.2.2.2.1 hcl (hKn.1.1 ci _ hci).2 (hw_rc hKn hD hk hci hlt) hdg kk
theorem hw_df (S : CallFix p m c cc nL s args Ts own) (hKn : Kn D G base E s) (hD : Dy D G base E s.heap σ0 σ H locs cells slots) (hlink : (Cond.fieldLink own index "java/util/ArrayList" "DEFAULTCAPACITY_EMPTY_ELEMENTDATA" "[Ljava/lang/Object;").before args s = true) (hdg : decode cc pc = .ok (.getstatic index, 3))
    (kk : W p l e R s m args below meth c H locs cells slots Q (F0 m (pc + 3) ls (va_rf (some E.2.2.2.1) :: rest))) : W p l e R s m args below meth c H locs cells slots Q (F0 m pc ls rest) :=
  va_gets S.1 S.2.1 hKn.2.1 hD.2.1 S.2.2.2.1 hlink (fun _ h => h) hdg kk
theorem hw_mi (S : CallFix p m c cc nL s args Ts own) (hKn : Kn D G base E s) (hcl : (Cond.classLink own index "[Ljava/lang/Object;").before args s = true) (hdg : decode cc pc = .ok (.ldc index, 2))
    (kk : W p l e R s m args below meth c H locs cells slots Q (F0 m (pc + 2) ls (va_rf (some E.2.2.2.2) :: rest))) : W p l e R s m args below meth c H locs cells slots Q (F0 m pc ls rest) :=
  va_ldcM S.1 S.2.1 S.2.2.2.1 hcl hKn.2.2.2.1 hdg kk
theorem hw_gc {r x : Option Nat} (S : CallFix p m c cc nL s args Ts own) (hsize : ls.size = nL) (hKn : Kn D G base E s) (hD : Dy D G base E s.heap σ0 σ H locs cells slots) (ho : oGc E r σ = some x) (hlink : (Cond.methodLink own index ⟨"java/lang/Object", "getClass", "()Ljava/lang/Class;"⟩).before args s = true) (hsel : (Cond.selects "[Ljava/lang/Object;" ⟨"java/lang/Object", "getClass", "()Ljava/lang/Class;"⟩ ⟨"java/lang/Object", "getClass", "()Ljava/lang/Class;"⟩).before args s = true) (hinst : (Cond.instanceMethod ⟨"java/lang/Object", "getClass", "()Ljava/lang/Class;"⟩).before args s = true) (hnat : (Cond.native ⟨"java/lang/Object", "getClass", "()Ljava/lang/Class;"⟩).before args s = true) (hframes : 1 ≤ R.frames) (hlocals : (rest.map fun v => v.category).sum + 14 ≤ R.locals) (hdg : decode cc pc = .ok (.invokevirtual index, 3))
    (kk : W p l e R s m args below meth c H locs cells slots Q (F0 m (pc + 3) ls (va_rf x :: rest))) : W p l e R s m args below meth c H locs cells slots Q (F0 m pc ls (va_rf r :: rest)) := by
  obtain ⟨a, rfl, hk, rfl⟩ := oGc_of ho
  refine va_getC (C := "[Ljava/lang/Object;") S.1 S.2.1 (S.2.2.1.trans hsize.symm) S.2.2.2.1 hlink hKn.2.2.2.2.1.use hsel hinst hnat hKn.2.2.2.1 ⟨_, Cl.refs.mp (hD.1.2.2 a 102 hk).2, rfl, ?_⟩ hframes hlocals hdg kk
  exact va_nmO (hKn.1.2 2 _ rfl).2 rfl
theorem hw_cp {r0 r1 : Option Nat} {sp dp n : Int32} (S : CallFix p m c cc nL s args Ts own) (hsize : ls.size = nL) (hKn : Kn D G base E s) (hD : Dy D G base E s.heap σ0 σ H locs cells slots) (ho : oCp r0 sp r1 dp n σ = some τ) (hlink : (Cond.methodLink own index arraycopyName).before args s = true) (hnat : (Cond.native arraycopyName).before args s = true) (hstat : (Cond.static arraycopyName).before args s = true) (hini : (Cond.initialized "java/lang/System").before args s = true) (hframes : 1 ≤ R.frames) (hlocals : (rest.map fun v => v.category).sum + (nativeFrameWords "java/lang/System" "arraycopy" 5 + 11) ≤ R.locals) (hdg : decode cc pc = .ok (.invokestatic index, 3))
    (kk : ∀ (H1 : Heap) (locs1 : List Loc), Dy D G base E s.heap σ0 τ H1 locs1 cells slots → W p l e R s m args below meth c H1 locs1 cells slots Q (F0 m (pc + 3) ls rest)) : W p l e R s m args below meth c H locs cells slots Q (F0 m pc ls (.int n :: .int dp :: va_rf r1 :: .int sp :: va_rf r0 :: rest)) := by
  obtain ⟨a0, a, rfl, rfl, hk0, hk1, ⟨h1, h2, h3⟩, h4, h5, hel, rfl⟩ := oCp_of ho
  have nn : ∀ z : Int32, ¬ z < 0 → z.toInt = (z.toNatClampNeg : Int) := by
    intro z hz
    have hz0 : (0 : Int) ≤ z.toInt := by
      have := Int32.not_lt.mp hz
      simpa using Int32.le_iff_toInt_le.mp this
    show z.toInt = ((z.toInt.toNat : Nat) : Int)
    omega
  intro T hT X
  obtain ⟨hx, hb, hml, hown, hts⟩ := S
  have hc0 : H[a0]? = some (arrV G.2.2 (sL σ a0) (fun j => va_rf (sQ σ a0 j))) := Cl.refs.mp (hD.1.2.2 a0 102 hk0).2
  obtain ⟨hba, hcl⟩ := hD.1.2.2 a 102 hk1
  have hc1 : H[a]? = some (arrV G.2.2 (sL σ a) (fun j => va_rf (sQ σ a j))) := Cl.refs.mp hcl
  obtain ⟨-, k0, hk0', cm0, hkk0⟩ := (hKn.1.2 2 _ rfl).1 (sL σ a0) (fun j => va_rf (sQ σ a0 j))
  obtain ⟨-, k1, hk1', cm1, hkk1⟩ := (hKn.1.2 2 _ rfl).1 (sL σ a) (fun j => va_rf (sQ σ a j))
  obtain ⟨vm', X', step⟩ := X.arraycopy hx hown hlink hnat hstat hini (src := a0) (dst := a) (cs := arrV G.2.2 (sL σ a0) (fun j => va_rf (sQ σ a0 j))) (cd := arrV G.2.2 (sL σ a) (fun j => va_rf (sQ σ a j))) (srcPos := sp) (destPos := dp) (n := n) (by rw [hT]; exact hc0) (by rw [hT]; exact hc1)
    (fun _ h => by cases h) (fun _ h => by cases h) (fun h => by cases h) (fun h => by cases h) hk0' hk1' hkk0 hkk1 rfl h1 h2 h3
    (by rw [nn sp h1, nn n h3, arrV_size]; omega)
    (by rw [nn dp h2, nn n h3, arrV_size]; omega)
    (fun vm₁ hal i hi => by
      have e : (arrV G.2.2 (sL σ a0) (fun j => va_rf (sQ σ a0 j))).slots.getD (sp.toNatClampNeg + i) .null = va_rf (sQ σ a0 (sp.toNatClampNeg + i)) := by
        rw [Array.getD_eq_getD_getElem?, arrV_read _ _ (by omega)]
        rfl
      rw [e]
      rcases oIs_of (hel i hi) with hy | ⟨b, k, hy, hbk, h23⟩
      · rw [hy]; exact ⟨rfl, trivial⟩
      · rw [hy]
        obtain ⟨cellV, g1, g2, ⟨kC, hkC⟩, hasg⟩ := hw_any hKn hD hbk h23
        obtain ⟨kA, comp, r1, r2, r3, -⟩ := (hKn.1.2 2 _ rfl).2
        cases hk1'.symm.trans r1
        cases hkk1.symm.trans r2
        obtain ⟨kE, hkE, -⟩ := Vm.findClass_spec r3
        obtain ⟨kC', hkC', -⟩ := hal.2.2 _ _ hkC
        obtain ⟨kE', hkE', -⟩ := hal.2.2 _ _ hkE
        refine ⟨rfl, cellV, (show T.heap[b]? = some cellV by rw [hT]; exact g1), (fun q h => by rw [h] at g2; cases g2), ⟨kC', hkC'⟩, ?_, ?_⟩
        · exact ⟨kE', hkE'⟩
        · show vm₁.assignable _ _ = true
          rw [hal.assignable]
          exact hasg _ r3)
    (g := F0 m pc ls (.int n :: .int dp :: .ref a :: .int sp :: .ref a0 :: rest)) rfl (hsize.trans hml.symm) (rest := rest) rfl (by rw [hb]; exact hdg) hframes (by show 2 * 0 + _ + _ ≤ _; omega)
  have e1 : copied (arrV G.2.2 (sL σ a0) (fun j => va_rf (sQ σ a0 j))) (arrV G.2.2 (sL σ a) (fun j => va_rf (sQ σ a j))) sp dp n = arrV G.2.2 (sL σ a) (fun j => va_rf (va_cpy (sQ σ a0) (sQ σ a) sp.toNatClampNeg dp.toNatClampNeg n.toNatClampNeg j)) := va_copied (fun z => va_rf z) G.2.2 G.2.2 (sQ σ a0) (sQ σ a) h4
  rw [e1] at X' step
  have hl : a < H.size := (Array.getElem?_eq_some_iff.mp hc1).1
  generalize hcell : arrV G.2.2 (sL σ a) (fun j => va_rf (va_cpy (sQ σ a0) (sQ σ a) sp.toNatClampNeg dp.toNatClampNeg n.toNatClampNeg j)) = cell at X' step
  have hheap : ((T.setVm vm').setCell a cell).heap = H.setIfInBounds a cell := by rw [← hT]; rfl
  have oq : ∀ q : Nat, q ≠ a → (H.setIfInBounds a cell)[q]? = H[q]? := fun q hq => by simp [Array.getElem?_setIfInBounds, Ne.symm hq]
  have z : (H.setIfInBounds a cell).size = H.size := by simp
  have hR : Rp D G base (pQs a (va_cpy (sQ σ a0) (sQ σ a) sp.toNatClampNeg dp.toNatClampNeg n.toNatClampNeg) σ) (H.setIfInBounds a cell) := by
    refine hD.1.put rfl rfl z oq (fun b hb => dEq_pQs hb) hk1 (Cl.refs.mpr ?_)
    rw [show (H.setIfInBounds a cell)[a]? = some cell by simp [Array.getElem?_setIfInBounds, hl], ← hcell]
    congr 2
    funext j
    show _ = va_rf (if a = a then _ else _)
    rw [if_pos rfl]
  obtain ⟨d1, d2, d3, d4, d5, d6⟩ := hD
  obtain ⟨t, a1, b1⟩ := kk _ _ ⟨hR, ⟨by rw [z]; exact d2.1, fun q g1 g2 => by
      rw [oq q (fun e => g2 (by rw [e]; exact hba))]
      exact d2.2.1 q g1 g2, fun q hq => by
      rcases List.mem_append.mp hq with h | h
      · exact d2.2.2 q h
      · obtain ⟨z, -, hz⟩ := List.mem_map.mp h
        rw [← hz]
        exact hba⟩, d3, d4, d5, d6⟩ _ hheap X'
  exact ⟨t, step t a1, b1⟩
/-- references in locals -/
theorem hw_aload_n {k : Fin 4} {i : Nat} {r : Option Nat} (hx : p.tables.exec = Jvm.exec) (hb : c.code = cc) (hdg : decode cc pc = .ok (.aload_n k, 1)) (hi : (k : Nat) = i) (hl : ls[i]? = some (.val (va_rf r))) (kk : W p l e R s m args below meth c H locs cells slots Q (F0 m (pc + 1) ls (va_rf r :: rest))) : W p l e R s m args below meth c H locs cells slots Q (F0 m pc ls rest) := by
  cases r with
  | none => exact lv_aload_nN hx hb hdg hi hl kk
  | some a => exact lv_aload_n hx hb hdg hi hl kk
theorem hw_aload {i : Nat} {r : Option Nat} (hx : p.tables.exec = Jvm.exec) (hb : c.code = cc) (hdg : decode cc pc = .ok (.aload i, 2)) (hl : ls[i]? = some (.val (va_rf r))) (kk : W p l e R s m args below meth c H locs cells slots Q (F0 m (pc + 2) ls (va_rf r :: rest))) : W p l e R s m args below meth c H locs cells slots Q (F0 m pc ls rest) := by
  cases r with
  | none => exact lv_aloadN hx hb hdg hl kk
  | some a => exact lv_aload hx hb hdg hl kk
theorem hw_astore_n {k : Fin 4} {i nL : Nat} {r : Option Nat} {lv lv' : List (Nat × Value)} (hx : p.tables.exec = Jvm.exec) (hb : c.code = cc) (hdg : decode cc pc = .ok (.astore_n k, 1)) (hi : (k : Nat) = i) (h : lv_has ls nL lv) (hn : i < nL) (hl : (i, va_rf r) :: lv.filter (fun q => !(q.1 == i) && !(q.1 + 1 == i && q.2.category == 2)) = lv') (kk : ∀ ls' : Array Slot, lv_has ls' nL lv' → W p l e R s m args below meth c H locs cells slots Q (F0 m (pc + 1) ls' rest)) : W p l e R s m args below meth c H locs cells slots Q (F0 m pc ls (va_rf r :: rest)) := by
  cases r with
  | none => exact lv_astore_nN hx hb hdg hi h hn hl kk
  | some a => exact lv_astore_n hx hb hdg hi h hn hl kk
theorem hw_astore {i nL : Nat} {r : Option Nat} {lv lv' : List (Nat × Value)} (hx : p.tables.exec = Jvm.exec) (hb : c.code = cc) (hdg : decode cc pc = .ok (.astore i, 2)) (h : lv_has ls nL lv) (hn : i < nL) (hl : (i, va_rf r) :: lv.filter (fun q => !(q.1 == i) && !(q.1 + 1 == i && q.2.category == 2)) = lv') (kk : ∀ ls' : Array Slot, lv_has ls' nL lv' → W p l e R s m args below meth c H locs cells slots Q (F0 m (pc + 2) ls' rest)) : W p l e R s m args below meth c H locs cells slots Q (F0 m pc ls (va_rf r :: rest)) := by
  cases r with
  | none => exact lv_astoreN hx hb hdg h hn hl kk
  | some a => exact lv_astore hx hb hdg h hn hl kk
theorem hw_ifnull {r : Option Nat} {off : Int} {tgt : Nat} (hx : p.tables.exec = Jvm.exec) (hb : c.code = cc) (hdg : decode cc pc = .ok (.ifnull off, 3)) (ht : (pc : Int) + off = (tgt : Int)) (kt : r = none → W p l e R s m args below meth c H locs cells slots Q (F0 m tgt ls rest)) (kf : ¬ r = none → W p l e R s m args below meth c H locs cells slots Q (F0 m (pc + 3) ls rest)) : W p l e R s m args below meth c H locs cells slots Q (F0 m pc ls (va_rf r :: rest)) := by
  cases r with
  | none => exact lv_ifnullN hx hb hdg ht (kt rfl)
  | some a => exact lv_ifnull hx hb hdg (kf (fun h => by cases h))
theorem va_rf_cat (r : Option Nat) : (va_rf r).category = 1 := by cases r <;> rfl
/-- ends -/
theorem hw_vret (S : CallFix p m c cc nL s args Ts own) (hlocks : meth.locks = false) (hr : meth.sig.returnType = none) (hD : Dy D G base E s.heap σ0 σ H locs cells slots) (hdg : decode cc pc = .ok (.return_, 1)) : W p l e R s m args below meth c H locs cells slots (MQ below (fun _ st oc t => oc = .returned none ∧ Rp D G base σ t.heap ∧ va_F (fun q => base ≤ q) st t) args s (sN σ - sN σ0) (sS σ - sS σ0) (fun q => base ≤ q)) (F0 m pc ls []) := by
  obtain ⟨d1, d2, d3, d4, d5, d6⟩ := hD
  have e1 : cells = sN σ - sN σ0 := by omega
  have e2 : slots = sS σ - sS σ0 := by omega
  rw [← e1, ← e2]
  exact W.vret S.1 S.2.1 hr (fun t ht hW => ⟨rfl, by rw [ht]; exact d1, d2.F ht⟩) d2.2.2 hdg hlocks
theorem hw_iret {x : Int32} {ty : FieldType} (S : CallFix p m c cc nL s args Ts own) (hlocks : meth.locks = false) (hr : meth.sig.returnType = some ty) (hn : narrow ty (.int x) = .int x) (hD : Dy D G base E s.heap σ0 σ H locs cells slots) (hdg : decode cc pc = .ok (.ireturn, 1)) : W p l e R s m args below meth c H locs cells slots (MQ below (fun _ st oc t => oc = .returned (some (.int x)) ∧ Rp D G base σ t.heap ∧ va_F (fun q => base ≤ q) st t) args s (sN σ - sN σ0) (sS σ - sS σ0) (fun q => base ≤ q)) (F0 m pc ls [.int x]) := by
  obtain ⟨d1, d2, d3, d4, d5, d6⟩ := hD
  have e1 : cells = sN σ - sN σ0 := by omega
  have e2 : slots = sS σ - sS σ0 := by omega
  rw [← e1, ← e2]
  exact W.zret S.1 S.2.1 hr hn (fun t ht hW => ⟨rfl, by rw [ht]; exact d1, d2.F ht⟩) d2.2.2 hdg hlocks
theorem hw_aret {x : Option Nat} {ty : FieldType} (S : CallFix p m c cc nL s args Ts own) (hlocks : meth.locks = false) (hr : meth.sig.returnType = some ty) (hrt : (∃ n, ty = .object n) ∨ ∃ t, ty = .array t) (hD : Dy D G base E s.heap σ0 σ H locs cells slots) (hdg : decode cc pc = .ok (.areturn, 1)) : W p l e R s m args below meth c H locs cells slots (MQ below (fun _ st oc t => oc = .returned (some (va_rf x)) ∧ Rp D G base σ t.heap ∧ va_F (fun q => base ≤ q) st t) args s (sN σ - sN σ0) (sS σ - sS σ0) (fun q => base ≤ q)) (F0 m pc ls [va_rf x]) := by
  obtain ⟨d1, d2, d3, d4, d5, d6⟩ := hD
  have e1 : cells = sN σ - sN σ0 := by omega
  have e2 : slots = sS σ - sS σ0 := by omega
  rw [← e1, ← e2]
  exact W.aret S.1 S.2.1 hr hrt (by cases x; exact Or.inl rfl; exact Or.inr ⟨_, rfl⟩) (fun t ht hW => ⟨rfl, by rw [ht]; exact d1, d2.F ht⟩) d2.2.2 hdg hlocks
end HW
