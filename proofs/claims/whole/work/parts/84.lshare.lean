/-! the law's share: what it answers, what it catches -/
def CtX (l : Launch) (D : va_G) (G : GC) (base : Nat) (E : PE) (y : MethodName) (ws : List Cond) (fr lo : Nat) (av : List Value) (σ : PS) (ov : Option Value) (τ : PS) : Prop :=
  Met l y ws ({ frames := fr, cells := E.2.1 - sN σ, slots := E.2.2.1 - sS σ, locals := lo } : Room) (va_Pc av (fun U => Rp D G base σ U.heap ∧ Kn D G base E U ∧ KX base U)) (fun _ st oc t => oc = .returned ov ∧ Rp D G base τ t.heap ∧ va_F (fun q => base ≤ q) st t) (sN τ - sN σ) (sS τ - sS σ) (fun q => base ≤ q)
theorem CtX.of {l : Launch} {D : va_G} {G : GC} {base : Nat} {E : PE} {y : MethodName} {ws ws' : List Cond} {fr lo : Nat} {av : List Value} {σ : PS} {ov : Option Value} {τ : PS} {cc : ByteArray} {maxL : Nat} {ret : Option FieldType} {own : String} {hh : List (Nat × Nat × Nat × Nat)} (cs : List Nat) (hy : plainName y.cls = true) (hw : ws = Cond.codeWith y cc maxL ret hh :: ws') (hown : y.cls = own) (hmo : sN σ ≤ sN τ ∧ sS σ ≤ sS τ ∧ sN τ ≤ E.2.1 ∧ sS τ ≤ E.2.2.1) (hcs : av.map (fun v => v.category) = cs) (hle : (cs.map (fun c => if c = 2 then 2 else 1)).sum ≤ maxL)
    (body : ∀ (p : Program) (e : Env) (s : State) (m : MethodId) (below : List Frame) (meth : Method) (c : Code) (R : Room) (Q : State → Prop) (ls : Array Slot) (H : Heap) (locs : List Loc) (cells slots : Nat), CallFix p m c cc maxL s av.toArray ws own → Kn D G base E s → KX base s → (R.cells = E.2.1 - sN σ ∧ R.slots = E.2.2.1 - sS σ) → R.frames = fr → R.locals = lo → meth.locks = false → meth.sig.returnType = ret → c.exceptionTable.toList = tableOf hh → Q = MQ below (fun _ st oc t => oc = .returned ov ∧ Rp D G base τ t.heap ∧ va_F (fun q => base ≤ q) st t) av.toArray s (sN τ - sN σ) (sS τ - sS σ) (fun q => base ≤ q) → Dy D G base E s.heap σ σ H locs cells slots → lv_has ls maxL (lvA 0 av cs) → W p l e R s m av.toArray below meth c H locs cells slots Q (F0 m 0 ls [])) : CtX l D G base E y ws fr lo av σ ov τ := by
  refine va_MetW (cc := cc) (maxL := maxL) (ret := ret) (hh := hh) hy hw ?_
  intro p e s m args below meth c s₁ B hml hv
  obtain ⟨rfl, hRp, hKn, hKX⟩ := hv
  have hts := atoms_spec (ws := ws) B.pre
  have hownC : s.vm.findClass own = some m.cls := by rw [← hown]; exact findClass_of_methodNamed B.named
  have hl := lv_entry av (n := maxL) (by rw [lg_len av cs hcs]; exact hle)
  rw [lvA_eq av cs 0 hcs] at hl
  rw [lg_entry_eq]
  exact body p e s m below meth c _ _ _ _ _ _ _ ⟨B.exec, B.bytes, hml, hownC, hts⟩ hKn hKX ⟨rfl, rfl⟩ rfl rfl B.notSynchronized B.returns (vx_table (x := y) B (hts _ (by rw [hw]; exact List.mem_cons_self))) rfl ⟨hRp, va_S.rf, rfl, rfl, by omega, by omega⟩ hl
section HX
variable {p : Program} {l : Launch} {e : Env} {R : Room} {s : State} {m : MethodId} {args : Array Value} {below : List Frame} {meth : Method} {c : Code} {H : Heap} {locs : List Loc} {cells slots : Nat} {Q : State → Prop}
variable {cc : ByteArray} {pc : Nat} {ls : Array Slot} {rest st0 : List Value} {D : va_G} {G : GC} {base : Nat} {E : PE} {σ σ0 σ1 τ : PS}
theorem hw_cx (hr : vx_Run p l e R s m args below meth c H locs cells slots 1 6 (F0 m pc ls st0) rest (fun _ _ _ => False) (XT D G base σ1) (fun q => base ≤ q)) (hD : Dy D G base E s.heap σ0 σ H locs cells slots) (hσ : sN σ1 = sN σ ∧ sS σ1 = sS σ) (hE : sN σ + 1 ≤ E.2.1 ∧ sS σ + 6 ≤ E.2.2.1)
    (kx : ∀ (H1 : Heap) (locs1 : List Loc) (q : Addr) (ce : Cell), Dy D G base E s.heap σ0 (pT σ1) H1 locs1 (cells + 1) (slots + 6) → H1[q]? = some ce → ce.vm = .none → s.vm.findClass aeN = some ce.cls → vx_W p l e R s m args below meth c H1 locs1 (cells + 1) (slots + 6) Q (F0 m pc ls rest) q) : W p l e R s m args below meth c H locs cells slots Q (F0 m pc ls st0) := by
  intro T hT X
  rcases hr T hT X with ⟨v, st₀, t, T', L, h0, X', hL, e1, e2, hq, st⟩ | ⟨q, st₀, t, T', L, Ec, ce, h0, X', hL, e1, e2, ⟨hcls, hRp, hz, hk⟩, hce, hcv, hcl, st⟩
  · exact hq.elim
  · subst hcls
    rw [h0] at hz hk
    obtain ⟨d1, d2, d3, d4, d5, d6⟩ := hD
    obtain ⟨t2, a1, b1⟩ := kx T'.heap (locs ++ L) q ce ⟨by rw [e1]; exact hRp, ⟨Nat.le_trans d2.1 (by rw [e1]; exact hz), fun q h1 h2 => by rw [e1, hk q (Nat.lt_of_lt_of_le h1 d2.1) h2]; exact d2.2.1 q h1 h2, fun q hq => by
      rcases List.mem_append.mp hq with h | h
      · exact d2.2.2 q h
      · exact hL q h⟩, by show _ = sN σ1 + 1; omega, by show _ = sS σ1 + 6; omega, by show sN σ1 + 1 ≤ _; omega, by show sS σ1 + 6 ≤ _; omega⟩ (by rw [e1]; exact hce) hcv hcl T' rfl X'
    exact ⟨t2, st.trans a1, b1⟩
variable {y : MethodName} {bytes : ByteArray} {maxL nL n index fr lo : Nat} {ret : Option FieldType} {ws ws' Ts : List Cond} {own : String} {As : List Value} {ov : Option Value} {hh : List (Nat × Nat × Nat × Nat)}
theorem hw_SW (S : CallFix p m c cc nL s args Ts own) (hKn : Kn D G base E s) (hKX : KX base s) (hRm : R.cells = E.2.1 - sN σ0 ∧ R.slots = E.2.2.1 - sS σ0) (hD : Dy D G base E s.heap σ0 σ H locs cells slots) (hM : CtX l D G base (E.1, sN τ, sS τ, E.2.2.2) y ws fr lo As σ ov τ) (hmo : sN σ ≤ sN τ ∧ sS σ ≤ sS τ ∧ sN τ ≤ E.2.1 ∧ sS τ ≤ E.2.2.1)
    (hT : GoodIn Ts (va_wsS own index y ws)) (hw : ws = Cond.codeWith y bytes maxL ret hh :: ws') (n : Nat) (hd : y.cls ≠ "java/lang/invoke/MethodHandle" ∧ y.cls ≠ "java/lang/invoke/VarHandle" ∧ (parseMethodDescriptor y.desc).map (fun d => d.parameters.length) = some n) (hR : fr + 1 ≤ R.frames ∧ 8 + (maxL + 11) + lo ≤ R.locals)
    (hn : As.length = n) (hsize : ls.size = nL) (hW : (rest.map fun v => v.category).sum ≤ 8) (hst : st0 = As.reverse ++ rest) (hdg : decode cc pc = .ok (.invokestatic index, 3))
    (kk : ∀ (H1 : Heap) (locs1 : List Loc) (cells1 slots1 : Nat), Dy D G base E s.heap σ0 τ H1 locs1 cells1 slots1 → W p l e R s m args below meth c H1 locs1 cells1 slots1 Q (F0 m (pc + 3) ls (ov.toList ++ rest))) : W p l e R s m args below meth c H locs cells slots Q (F0 m pc ls st0) := by
  subst hst
  have hrm := hw_room hRm hD
  refine hw_go (vx_runSW (As := As) (rest := rest) S hM (vx_cwSW n S.2.2.2.2 hT hw rfl rfl hd hR) ⟨hw_blindX, fun U hU hW => ⟨rfl, hw_preX hKn hKX hD U hU hW⟩⟩ rfl hn hsize rfl (lv_room hW) hdg ⟨?_, ?_⟩) hD hmo kk
  · show cells + (sN τ - sN σ) ≤ R.cells
    omega
  · show slots + (sS τ - sS σ) ≤ R.slots
    omega
end HX
set_option maxHeartbeats 4000000 in
set_option maxRecDepth 100000 in
theorem c_L_share (l : Launch) (hlt : l.stackTraces = false) (D : va_G) (G : GC) (base : Nat) (E : PE) {p0 : Option Nat} {p1 p2 : Int32} {p3 : Option Nat} {σ0 τ : PS} {rv : Int32} (hF : f_L_share E p0 p1 p2 p3 σ0 = some (rv, τ)) : CtX l D G base (E.1, sN τ, sS τ, E.2.2.2) yL_share wsL_share 8 200 ([va_rf p0, .int p1, .int p2, va_rf p3] : List Value) σ0 (some (.int rv)) τ := by
  obtain ⟨hf, hmo⟩ := oM_of hF
  unfold g_L_share at hf
  cases h1 : f_X5_share (eA E σ0) p0 p1 p2 σ0 with
  | some q =>
    obtain ⟨r, s1⟩ := q
    rw [h1] at hf
    obtain ⟨t, ht, hf⟩ := ob_s hf
    obtain ⟨e1, e2⟩ := ret_eq hf
    subst e1
    subst e2
    have m1 := mo_X5_share h1
    have n1 : sN s1 ≤ sN σ0 := m1.2.2.1
    have n2 : sS s1 ≤ sS σ0 := m1.2.2.2
    have et : sN t = sN s1 ∧ sS t = sS s1 := by
      obtain ⟨a, -, -, -, rfl⟩ := oJs_of ht
      exact ⟨rfl, rfl⟩
    have eN : sN t = sN σ0 := by omega
    have eS : sS t = sS σ0 := by omega
    have eE : (E.1, sN t, sS t, E.2.2.2) = eA E σ0 := by rw [eN, eS]; rfl
    rw [eE]
    obtain ⟨g1, -⟩ := oM_of h1
    unfold g_X5_share at g1
    obtain ⟨b, hb0, -⟩ := ob_s g1
    obtain ⟨e9, hk9⟩ := oK_of hb0
    subst e9
    refine CtX.of (own := RL) [1, 1, 1, 1] (by decide) rfl rfl ⟨by omega, by omega, by show sN t ≤ sN σ0; omega, by show sS t ≤ sS σ0; omega⟩ (ct_A (ct_I (ct_I (ct_A ct_0)))) (by decide) ?_
    intro p e s m below meth c R Q ls H locs cells slots S hKn hKX hRm hfr hlo hlk hret htab hQ hD hl
    have hx := S.1
    have hb := S.2.1
    have hl : lv_has ls 5 [(0, va_rf (some b)), (1, .int (p1)), (2, .int (p2)), (3, va_rf p3)] := hl
    refine hw_aload_n (r := p3) hx hb dL_share_0 rfl (lv_at hl 3 rfl) ?_
    refine lv_iconst (v := (0)) hx hb dL_share_1 (by decide) ?_
    refine hw_aload_n (r := (some b)) hx hb dL_share_2 rfl (lv_at hl 0 rfl) ?_
    refine lv_iload_n hx hb dL_share_3 rfl (lv_at hl 1 rfl) ?_
    refine lv_iload_n hx hb dL_share_4 rfl (lv_at hl 2 rfl) ?_
    refine hw_V (b := b) (ci := 6) (T := TX5) (N := 8) (As := [.int (p1), .int (p2)]) (rest := [.int (0), va_rf p3]) S hKn hRm hD (c_X5_share l D G base (eA E σ0) h1) (mo_X5_share h1) hk9 rfl (by decide) gL_share_X5_share rfl 2 (by decide +kernel) ⟨by rw [hfr]; decide, by rw [hlo]; decide⟩ rfl hl.1 (Nat.le_trans (cs_I (cs_A cs_0)) (by decide)) rfl dL_share_5 (fun H locs cells slots hD => ?_)
    refine W.eq (g2 := F0 m 8 ls [.int (r), .int (0), va_rf p3]) rfl ?_
    refine lv_i2l hx hb dL_share_8 rfl ?_
    refine hw_js S hKn hD ht dL_share_9 (fun H locs hD => ?_)
    refine lv_goto (tgt := 17) hx hb dL_share_10 (by decide) ?_
    refine lv_iconst (v := (0)) hx hb dL_share_17 (by decide) ?_
    rw [hQ]
    exact hw_iret S hlk hret rfl hD dL_share_18
  | none =>
    rw [h1] at hf
    cases h2 : f_X5_shareT (eT E σ0) p0 p1 p2 σ0 with
    | none => rw [h2] at hf; cases hf
    | some q =>
      obtain ⟨u, s1⟩ := q
      rw [h2] at hf
      have hf : (if sN s1 = sN σ0 ∧ sS s1 = sS σ0 then some ((1 : Int32), pT s1) else none) = some (rv, τ) := hf
      by_cases hs : sN s1 = sN σ0 ∧ sS s1 = sS σ0
      · rw [if_pos hs] at hf
        obtain ⟨e1, e2⟩ := ret_eq hf
        subst e1
        subst e2
        have eE : (E.1, sN (pT s1), sS (pT s1), E.2.2.2) = eT E σ0 := by
          show (E.1, sN s1 + 1, sS s1 + 6, E.2.2.2) = _
          rw [hs.1, hs.2]
          rfl
        rw [eE]
        obtain ⟨g1, -⟩ := oM_of h2
        unfold g_X5_shareT at g1
        obtain ⟨b, hb0, -⟩ := ob_s g1
        obtain ⟨e9, hk9⟩ := oK_of hb0
        subst e9
        have hs1 := hs.1
        have hs2 := hs.2
        refine CtX.of (own := RL) [1, 1, 1, 1] (by decide) rfl rfl ⟨by show _ ≤ sN s1 + 1; omega, by show _ ≤ sS s1 + 6; omega, by show sN s1 + 1 ≤ sN σ0 + 1; omega, by show sS s1 + 6 ≤ sS σ0 + 6; omega⟩ (ct_A (ct_I (ct_I (ct_A ct_0)))) (by decide) ?_
        intro p e s m below meth c R Q ls H locs cells slots S hKn hKX hRm hfr hlo hlk hret htab hQ hD hl
        have hx := S.1
        have hb := S.2.1
        have hlink := S.2.2.2.2 (.classLink RL 13 aeN) (by decide +kernel)
        have hcast : (Cond.castable aeN aeN).before ([va_rf (some b), .int p1, .int p2, va_rf p3] : List Value).toArray s = true := va_Nw.use rfl hKX.2.2.2.2.1
        have hl : lv_has ls 5 [(0, va_rf (some b)), (1, .int (p1)), (2, .int (p2)), (3, va_rf p3)] := hl
        have r1 : R.cells = sN σ0 + 1 - sN σ0 := hRm.1
        have r2 : R.slots = sS σ0 + 6 - sS σ0 := hRm.2
        have q3 := hD.2.2.1
        have q4 := hD.2.2.2.1
        refine hw_aload_n (r := p3) hx hb dL_share_0 rfl (lv_at hl 3 rfl) ?_
        refine lv_iconst (v := (0)) hx hb dL_share_1 (by decide) ?_
        refine hw_aload_n (r := (some b)) hx hb dL_share_2 rfl (lv_at hl 0 rfl) ?_
        refine lv_iload_n hx hb dL_share_3 rfl (lv_at hl 1 rfl) ?_
        refine lv_iload_n hx hb dL_share_4 rfl (lv_at hl 2 rfl) ?_
        refine hw_cx (σ1 := s1) (vx_runV (As := [.int (p1), .int (p2)]) (b := b) (rest := [.int (0), va_rf p3]) S (t_X5_share l hlt D G base (eT E σ0) h2 hs ⟨rfl, rfl⟩) (cwV 2 S.2.2.2.2 gL_share_X5_share rfl rfl rfl (by decide +kernel) ⟨by rw [hfr]; decide, by rw [hlo]; decide⟩) ⟨hw_blindX, hw_rc hKn hD hk9 rfl (by decide), fun U hU hW => ⟨rfl, hw_preX hKn hKX hD U hU hW⟩⟩ rfl rfl hl.1 rfl (lv_room (Nat.le_trans (cs_I (cs_A cs_0)) (by decide))) dL_share_5 ⟨by omega, by omega⟩) hD hs ⟨Nat.le_refl _, Nat.le_refl _⟩ (fun H locs q ce hD hce hcv hcl => ?_)
        refine vx_catch (own := RL) (name := aeN) (E := aeN) S.2.2.2.1 [] ⟨0, 10, 13, 13⟩ [] htab (fun z hz => nomatch hz) (by decide) (by decide) hlink hcast hce hcv hcl ?_
        refine hs_astore (i := 4) (r := some q) (lv' := [(4, va_rf (some q)), (0, va_rf (some b)), (1, .int (p1)), (2, .int (p2)), (3, va_rf p3)]) hx hb dL_share_13 hl (by decide) (st_okR (st_okI (st_okI (st_okR st_ok0)))) rfl (fun ls hl => ?_)
        refine lv_iconst (v := (1)) hx hb dL_share_15 (by decide) ?_
        rw [hQ]
        exact hw_iret S hlk hret rfl hD dL_share_16
      · rw [if_neg hs] at hf; cases hf
