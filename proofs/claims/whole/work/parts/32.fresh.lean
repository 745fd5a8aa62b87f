/-! GROUPS: begun, made, filled -/
theorem isG.addM {E : PE} {σ : PS} {g kd an x : Nat} {ms : List Nat} {T : List (Nat × Nat × Nat)} (hw : Wf E σ) (h : isG E σ g kd an ms T) (hL : ms.length ≤ 31) (hx : sK σ x = some 2) (h1 : sN σ + 1 ≤ E.2.1) (h2 : sS σ + 49 ≤ E.2.2.1) :
    ∃ ml, sR σ 3 0 g = some ml ∧ sK σ ml = some 0 ∧ wp (f_Jx4a65c_add_9ea2d E (some ml) (some x) σ) (fun _ τ => isG E τ g kd an (ms ++ [x]) T ∧ Fo E σ τ (gA σ g) ∧ Gr σ τ 1 49) := by
  obtain ⟨g1, g2, g3, ml, t, ⟨r1, r2⟩, q1, q2⟩ := h
  refine ⟨ml, r1, r2.1, wp_mono (so_add hw r2 hL (Or.inl hx) h1 h2) ?_⟩
  rintro _ τ ⟨t1, t2, t3⟩
  have hne : g ≠ ml := kne g1 r2.1 (by decide)
  obtain ⟨dg, -⟩ := t2.2.2 g 3 g1 (by omega) hne
  refine ⟨⟨t2.k g1, by rw [dg.2.1]; exact g2, by rw [dg.2.1]; exact g3, ml, t, ⟨by rw [dg.2.2.1]; exact r1, t1⟩, by rw [dg.2.2.1]; exact q1, q2.ko t2 (kne q2.1 r2.1 (by decide))⟩, t2.wk (fun b z => by rw [z]; exact Or.inr (Or.inl r1)), t3⟩
theorem sp_begin {E : PE} {σ : PS} {g kd an kind : Nat} {ms : List Nat} {T : List (Nat × Nat × Nat)} (hE : 1000 ≤ E.1) (hw : Wf E σ) (hO : Ok E σ) (h : isG E σ g kd an ms T) :
    wp (f_X2_begin E (some g) (nI kind) σ) (fun _ τ => isG E τ g kind 0 [] [] ∧ Fo E σ τ (gA σ g) ∧ Gr σ τ 0 0) := by
  obtain ⟨g1, g2, g3, ml, t, ⟨r1, r2⟩, q1, q2⟩ := h
  refine wp_oM (E := E) ?_
  unfold g_X2_begin
  have f1 : Fo E σ (pI 3 2 g (nI kind) σ) (fun b => b = g) := Fo.pI hw g1 (by decide)
  have f2 : Fo E (pI 3 2 g (nI kind) σ) (pI 3 3 g 0 (pI 3 2 g (nI kind) σ)) (fun b => b = g) := Fo.pI f1.wf g1 (by decide)
  have f12 := f1.tr f2 (C := fun b => b = g) (fun _ z => z) (fun _ z => z)
  have r3 := r2.ko f12 (kne r2.1 g1 (by decide))
  have q3 := q2.ko f12 (kne q2.1 g1 (by decide))
  refine wp_pi rfl g1 (wp_pi rfl g1 (wp_gr rfl g1 (wp_K r1 r3.1 ?_)))
  rw [show sR (pI 3 3 g 0 (pI 3 2 g (nI kind) σ)) 3 0 g = some ml from r1]
  refine wp_bd (so_clear (by omega) f12.wf hO r3) ?_
  rintro _ s ⟨t1, t2, t3⟩
  have hne : g ≠ ml := kne g1 r2.1 (by decide)
  obtain ⟨dg, -⟩ := t2.2.2 g 3 g1 (by omega) hne
  have q4 := q3.ko t2 (kne q2.1 r2.1 (by decide))
  have gs : sK s g = some 3 := t2.k g1
  have qs : sR s 3 1 g = some t := by rw [dg.2.2.1]; exact q1
  refine wp_gr rfl gs (wp_K qs q4.1 ?_)
  rw [qs]
  have hOs : Ok E s := t3.ok hO.1 hO.2
  refine wp_bd (sp_tclear hOs q4) ?_
  rintro _ τ ⟨u1, u2, u3⟩
  have f3 : Fo E s τ (fun b => b = t) := Fo.one t2.wf (u3.wf t2.wf) q4.1 (by decide) u2
  have hne2 : g ≠ t := kne g1 q2.1 (by decide)
  obtain ⟨dg2, -⟩ := f3.2.2 g 3 gs (by omega) hne2
  refine wp_ret ⟨(t3.tr u3.gr).bk (n := 0 + 0) (s := 0 + 0) hO.1 hO.2, ⟨f3.k gs, ?_, ?_, ml, t, ⟨?_, ?_⟩, ?_, u1⟩, ?_, t3.tr u3.gr⟩
  · rw [dg2.2.1, dg.2.1, gI_n (by decide), gI_s]
  · rw [dg2.2.1, dg.2.1, gI_s]; rfl
  · rw [dg2.2.2.1, dg.2.2.1]; exact r1
  · exact t1.ko f3 (kne t1.1 q4.1 (by decide))
  · rw [dg2.2.2.1]; exact qs
  · exact ((f12.tr t2 (C := gA σ g) (fun b z => Or.inl z) (fun b z => by rw [z]; exact Or.inr (Or.inl r1))).tr f3 (fun _ z => z) (fun b z => by rw [z]; exact Or.inr (Or.inr q1)))
section CBS
variable {E : PE} {σ τ : PS} {A : Nat → Nat} {F : Nat → Int32} {LL : Nat → List Nat} {n : Nat} {Es : Nat → Nat} {ed : Nat → Nat × List Nat × Nat} {GA : Nat → Prop} {gd : Nat → Nat × Nat × List Nat × List (Nat × Nat × Nat)}
/-- a group is made -/
theorem CB.mkG (h : CB E σ A F LL n Es ed GA gd) {g : Nat} {d : Nat × Nat × List Nat × List (Nat × Nat × Nat)} (hg : sN σ ≤ g) (hf : Fo E σ τ (fun _ => False)) (hG : isG E τ g d.1 d.2.1 d.2.2.1 d.2.2.2) : CB E τ A F LL n Es ed (fun b => GA b ∨ b = g) (up gd g d) := by
  refine ⟨hf.wf, h.rt.ko hf (fun z => z) (fun z => z) (fun z => z), fun j hj => (h.l hj).ko hf (fun z => z), fun i hi => (h.e hi).ko hf (fun z => z), fun k hk => ?_⟩
  rcases hk with hk | hk
  · have := h.wf.lt (h.g hk).1
    rw [up_n (by omega)]
    exact (h.g hk).ko hf (fun _ _ z => z)
  · rw [hk, up_s]; exact hG
theorem CB.mkE (h : CB E σ A F LL n Es ed GA gd) {e : Nat} {d : Nat × List Nat × Nat} (he : sN σ ≤ e) (hf : Fo E σ τ (fun _ => False)) (hE : isE τ e n d.1 d.2.1 d.2.2) : CB E τ A F LL (n + 1) (up Es n e) (up ed n d) GA gd := by
  refine ⟨hf.wf, h.rt.ko hf (fun z => z) (fun z => z) (fun z => z), fun j hj => (h.l hj).ko hf (fun z => z), fun i hi => ?_, fun k hk => (h.g hk).ko hf (fun _ _ z => z)⟩
  by_cases z : i = n
  · rw [z, up_s, up_s]; exact hE
  · rw [up_n z, up_n z]; exact (h.e (by omega)).ko hf (fun z => z)
theorem sp_freshGroup (hE : 1000 ≤ E.1) (h : CB E σ A F LL n Es ed GA gd) {kind : Nat} {P : List Nat} (hP : LL 3 = P) (hG : ∀ b ∈ P, GA b) (h1 : sN σ + 6 ≤ E.2.1) (h2 : sS σ + 1212 ≤ E.2.2.1) :
    wp (f_X5_freshGroup E (some (A 0)) (nI kind) σ) (fun r τ => ∃ g GA', r = some g ∧ CB E τ A F (up LL 3 P.dropLast) n Es ed GA' (up gd g (kind, 0, [], [])) ∧ GA' g ∧ (∀ b, GA b → GA' b) ∧ Fc E σ τ ∧ ((P = P.dropLast ++ [g] ∧ Gr σ τ 0 0) ∨ (P = [] ∧ ¬ GA g ∧ Gr σ τ 6 1212))) := by
  have hO : Ok E σ := ⟨by omega, by omega⟩
  have hl := h.l j3
  rw [hP] at hl
  refine wp_oM (E := E) ?_
  unfold g_X5_freshGroup
  refine wp_gr rfl h.kx (wp_K h.f2 hl.1 ?_)
  rw [h.f2]
  refine wp_rd (sp_isEmpty hO hl) ?_
  by_cases hem : P = []
  · rw [if_pos hem]
    refine wp_f ne01 ?_
    have run := sp_X2init (σ := pN 3 4 σ) (g := sN σ) (E := E) (h.wf.pN 3 4) sK_new (show sN σ + 1 + 5 ≤ E.2.1 by omega) (show sS σ + 4 + 1208 ≤ E.2.2.1 by omega)
    refine wp_nw (by omega) (by omega) (wp_K rfl sK_new (wp_bd run ?_))
    rintro _ s ⟨i1, i2, i3, i4⟩
    have fr : Fr σ s (fun _ => False) := (Fr.pN (X := fun _ => False)).tr i3 (fun _ _ z => z) (fun b hb z => by omega)
    have fo : Fo E σ s (fun _ => False) := Fo.of h.wf i2 fr (fun _ _ _ z => z.elim)
    have g6 : Gr σ s 6 1212 := Gr.pN.tr i4
    have hOs : Ok E s := g6.ok h1 h2
    unfold f_X5_freshGroup_B39
    have cb := h.mkG (d := (0, 0, [], [])) (Nat.le_refl _) fo i1
    refine wp_K rfl i1.1 (wp_bd (sp_begin (kind := kind) hE i2 hOs i1) ?_)
    rintro _ τ ⟨b1, b2, b3⟩
    have cb2 := cb.grp (g := sN σ) (d := (kind, 0, [], [])) (Or.inr rfl) b2 (fun _ z => z) b1
    have eup : up (up gd (sN σ) (0, 0, [], [])) (sN σ) (kind, 0, [], []) = up gd (sN σ) (kind, 0, [], []) := by
      funext k
      by_cases z : k = sN σ
      · rw [z, up_s, up_s]
      · rw [up_n z, up_n z, up_n z]
    rw [eup] at cb2
    have ell : up LL 3 P.dropLast = LL := by
      funext k
      by_cases z : k = 3
      · rw [z, up_s, hP, hem]; rfl
      · rw [up_n z]
    rw [ell]
    have gt : Gr σ τ (6 + 0) (1212 + 0) := g6.tr b3
    refine wp_ret ⟨gt.bk h1 h2, sN σ, _, rfl, cb2, Or.inr rfl, fun b z => Or.inl z, ?_, Or.inr ⟨hem, fun z => ?_, gt⟩⟩
    · refine Fo.tr (B := gA s (sN σ)) (fo.wk (B := fun b => ∀ k, sK σ b = some k → k ≠ 7) (fun _ z => z.elim)) b2 (fun _ z => z) (fun b z k hk => ?_)
      rcases i1.parts z with e | e | e
      · cases (fo.k hk).symm.trans e.2; decide
      · cases (fo.k hk).symm.trans e.2; decide
      · cases (fo.k hk).symm.trans e.2; decide
    · have := h.wf.lt (h.g z).1; omega
  · rw [if_neg hem]
    obtain ⟨Q, g, rfl⟩ : ∃ Q g, P = Q ++ [g] := ⟨P.dropLast, P.getLast hem, (List.dropLast_concat_getLast hem).symm⟩
    have hlen : (Q ++ [g]).length = Q.length + 1 := by rw [List.length_append]; rfl
    have hat : (Q ++ [g])[Q.length]? = some g := by rw [List.getElem?_append_right (Nat.le_refl _), Nat.sub_self]; rfl
    have hga : GA g := hG g (List.mem_append_right _ (List.mem_singleton.mpr rfl))
    refine wp_t rfl (wp_gr rfl h.kx (wp_gr rfl h.kx (wp_K h.f2 hl.1 ?_)))
    rw [h.f2]
    refine wp_rd (sp_size hO hl) (wp_K rfl hl.1 ?_)
    rw [hlen, nI_pred]
    refine wp_bd (so_remove h.wf hO hl (by omega)) ?_
    rintro r s ⟨e1, t1, t2, t3⟩
    have he : (Q ++ [g]).eraseIdx Q.length = Q := by
      rw [List.eraseIdx_append_of_length_le (Nat.le_refl _), Nat.sub_self]
      show Q ++ [] = Q
      rw [List.append_nil]
    rw [he] at t1
    rw [e1, hat]
    have hOs : Ok E s := t3.ok hO.1 hO.2
    have cb := h.lst j3 t2 t1
    refine wp_ca rfl (cb.g hga).1 ?_
    unfold f_X5_freshGroup_B39
    refine wp_K rfl (cb.g hga).1 (wp_bd (sp_begin (kind := kind) hE t2.wf hOs (cb.g hga)) ?_)
    rintro _ τ ⟨b1, b2, b3⟩
    have cb2 := cb.grp (g := g) (d := (kind, 0, [], [])) hga b2 (fun _ z => z) b1
    have gt : Gr σ τ (0 + 0) (0 + 0) := t3.tr b3
    have hdl : (Q ++ [g]).dropLast = Q := List.dropLast_concat
    rw [hdl]
    refine wp_ret ⟨gt.bk hO.1 hO.2, g, GA, rfl, cb2, hga, fun _ z => z, ?_, Or.inl ⟨rfl, gt⟩⟩
    refine (Fc.one t2 (h.l j3).1 (by decide)).tr (Fc.of b2 (fun b z => ?_))
    rcases (cb.g hga).parts z with e | e | e
    · exact ⟨_, e.2, by decide⟩
    · exact ⟨_, e.2, by decide⟩
    · exact ⟨_, e.2, by decide⟩
end CBS
