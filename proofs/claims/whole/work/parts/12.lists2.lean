theorem isL.arr {E : PE} {σ : PS} {a : Nat} {L : List Nat} (h : isL E σ a L) (hL : 0 < L.length) : ∃ d, sR σ 0 1 a = some d ∧ sK σ d = some 102 ∧ 10 ≤ sL σ d ∧ sL σ d ≤ 49 ∧ L.length ≤ sL σ d ∧ ∀ i, i < L.length → sQ σ d i = L[i]? := by
  obtain ⟨k1, k2, k3, d, k4, k5⟩ := h
  rcases k5 with ⟨-, rfl⟩ | g
  · simp at hL
  · exact ⟨d, k4, g⟩
/-- a list again, of a row that is all there -/
theorem isL.mk {E : PE} {σ : PS} {a d : Nat} {L : List Nat} (hk : sK σ a = some 0) (hs : sI σ 0 2 a = nI L.length) (hel : ∀ y ∈ L, sK σ y = some 2 ∨ sK σ y = some 3) (hr : sR σ 0 1 a = some d) (h1 : sK σ d = some 102) (h2 : 10 ≤ sL σ d) (h3 : sL σ d ≤ 49) (h4 : L.length ≤ sL σ d) (h5 : ∀ i, i < L.length → sQ σ d i = L[i]?) : isL E σ a L := ⟨hk, hs, hel, d, hr, Or.inr ⟨h1, h2, h3, h4, h5⟩⟩
theorem oIs_at {σ : PS} {L : List Nat} (hel : ∀ y ∈ L, sK σ y = some 2 ∨ sK σ y = some 3) (i : Nat) : oIs L[i]? σ = true := by
  by_cases h : i < L.length
  · rw [List.getElem?_eq_getElem h]
    rcases hel _ (List.getElem_mem h) with e | e
    · exact oIs_ok e (Or.inl rfl)
    · exact oIs_ok e (Or.inr rfl)
  · rw [List.getElem?_eq_none (by omega)]; rfl
theorem sp_set {E : PE} {σ : PS} {a x i : Nat} {L : List Nat} (hw : Wf E σ) (hO : Ok E σ) (h : isL E σ a L) (hi : i < L.length) (hx : sK σ x = some 2 ∨ sK σ x = some 3) :
    wp (f_Jx4a65c_set_bcc79 E (some a) (nI i) (some x) σ) (fun r τ => r = L[i]? ∧ isL E τ a (L.set i x) ∧ Fr σ τ (lx σ a) ∧ Wf E τ ∧ sN τ = sN σ ∧ sS τ = sS σ) := by
  have hl := h.len
  obtain ⟨d, q1, q2, q3, q4, q5, q6⟩ := h.arr (by omega)
  refine wp_oM (E := E) ?_
  unfold g_Jx4a65c_set_bcc79
  refine wp_gi rfl h.1 ?_
  rw [h.2.1]
  refine wp_rd (sp_check hO hi (by omega)) (wp_K rfl h.1 (wp_rd (sp_elem hO h hi) (wp_gr rfl h.1 (wp_qs q1 rfl q2 (by omega) (by omega) ?_ (wp_ret ⟨⟨Nat.le_refl _, Nat.le_refl _, hO.1, hO.2⟩, rfl, ?_, ?_, ?_, rfl, rfl⟩)))))
  · rcases hx with e | e
    · exact oIs_ok e (Or.inl rfl)
    · exact oIs_ok e (Or.inr rfl)
  · refine isL.mk (d := d) h.1 (by rw [List.length_set]; exact h.2.1) (fun y hy => ?_) q1 q2 q3 q4 (by rw [List.length_set]; exact q5) (fun j hj => ?_)
    · rcases List.mem_or_eq_of_mem_set hy with e | e
      · exact h.2.2.1 y e
      · rw [e]; exact hx
    · rw [List.length_set] at hj
      rw [sQ_pQ, List.getElem?_set]
      by_cases e : j = i
      · rw [if_pos ⟨rfl, e⟩, if_pos e.symm, if_pos hi]
      · rw [if_neg (fun z => e z.2), if_neg (fun z => e z.symm)]; exact q6 j hj
  · exact Fr.pQ.wk (fun b _ e => by rw [e]; exact Or.inr q1)
  · exact hw.same rfl rfl rfl
theorem pQ_pQs (a i : Nat) (v : Option Nat) (σ : PS) : pQ a i v σ = pQs a (fun j => if j = i then v else sQ σ a j) σ := by
  have e : (fun b j => if b = a ∧ j = i then v else sQ σ b j) = (fun b j => if b = a then (if j = i then v else sQ σ a j) else sQ σ b j) := by
    funext b j
    by_cases hb : b = a
    · subst hb
      by_cases hj : j = i
      · rw [if_pos ⟨rfl, hj⟩, if_pos rfl, if_pos hj]
      · rw [if_neg (fun z => hj z.2), if_pos rfl, if_neg hj]
    · rw [if_neg (fun z => hb z.1), if_neg hb]
  show (σ.1, σ.2.1, σ.2.2.1, σ.2.2.2.1, _, σ.2.2.2.2.2) = (σ.1, σ.2.1, σ.2.2.1, σ.2.2.2.1, _, σ.2.2.2.2.2)
  rw [e]
theorem pQs_pQs (a : Nat) (f g : Nat → Option Nat) (σ : PS) : pQs a g (pQs a f σ) = pQs a g σ := by
  have e : (fun b j => if b = a then g j else sQ (pQs a f σ) b j) = (fun b j => if b = a then g j else sQ σ b j) := by
    funext b j
    by_cases hb : b = a
    · rw [if_pos hb, if_pos hb]
    · rw [if_neg hb, if_neg hb, sQ_pQs, if_neg hb]
  show (σ.1, σ.2.1, σ.2.2.1, σ.2.2.2.1, _, σ.2.2.2.2.2) = (σ.1, σ.2.1, σ.2.2.1, σ.2.2.2.1, _, σ.2.2.2.2.2)
  rw [e]
/-- add before place i -/
def insL (L : List Nat) (i x : Nat) : List Nat := L.take i ++ x :: L.drop i
theorem insL_len {L : List Nat} {i x : Nat} (h : i ≤ L.length) : (insL L i x).length = L.length + 1 := by
  unfold insL
  rw [List.length_append, List.length_cons, List.length_take, List.length_drop]
  omega
theorem insL_at {L : List Nat} {i x : Nat} (h : i ≤ L.length) (j : Nat) : (insL L i x)[j]? = if j < i then L[j]? else if j = i then some x else L[j - 1]? := by
  unfold insL
  have hl : (L.take i).length = i := by rw [List.length_take]; omega
  by_cases h1 : j < i
  · rw [if_pos h1, List.getElem?_append_left (by omega), List.getElem?_take, if_pos h1]
  · rw [if_neg h1, List.getElem?_append_right (by omega), hl]
    by_cases h2 : j = i
    · rw [if_pos h2, h2, Nat.sub_self]; rfl
    · rw [if_neg h2]
      have e : j - i = (j - i - 1) + 1 := by omega
      rw [e, List.getElem?_cons_succ, List.getElem?_drop]
      congr 1
      omega
theorem insL_mem {L : List Nat} {i x y : Nat} (h : y ∈ insL L i x) : y ∈ L ∨ y = x := by
  unfold insL at h
  rcases List.mem_append.mp h with h | h
  · exact Or.inl (List.mem_of_mem_take h)
  · rcases List.mem_cons.mp h with h | h
    · exact Or.inr h
    · exact Or.inl (List.mem_of_mem_drop h)
theorem sp_addAt {E : PE} {σ : PS} {a x i : Nat} {L : List Nat} (hw : Wf E σ) (h : isL E σ a L) (hL : L.length ≤ 31) (hi : i ≤ L.length) (hx : sK σ x = some 2 ∨ sK σ x = some 3) (h1 : sN σ + 1 ≤ E.2.1) (h2 : sS σ + 49 ≤ E.2.2.1) :
    wp (f_Jx4a65c_add_7a177 E (some a) (nI i) (some x) σ) (fun _ τ => isL E τ a (insL L i x) ∧ Fr σ τ (lx σ a) ∧ Wf E τ ∧ sN τ ≤ sN σ + 1 ∧ sS τ ≤ sS σ + 49) := by
  have hk := h.1
  have hlen := h.len
  have hO : Ok E σ := ⟨by omega, by omega⟩
  refine wp_oM (E := E) ?_
  suffices hs : wp (g_Jx4a65c_add_7a177 E (some a) (nI i) (some x) σ) (fun _ τ => isL E τ a (insL L i x) ∧ Fr σ τ (lx σ a) ∧ Wf E τ ∧ sN τ ≤ sN σ + 1 ∧ sS τ ≤ sS σ + 49) from wp_mono hs (fun _ τ hq => ⟨by have a1 := hq.2.1.1; have a2 := hq.2.1.2.1; have a3 := hq.2.2.2.1; have a4 := hq.2.2.2.2; omega, hq⟩)
  unfold g_Jx4a65c_add_7a177
  have hrc : f_Jx4a65c_rangeCheckForAdd_d00df E (some a) (nI i) σ = some ((), σ) := by
    refine oM_rd hO ?_
    unfold g_Jx4a65c_rangeCheckForAdd_d00df
    refine e_gi rfl hk ?_
    rw [h.2.1]
    exact e_f (nI_nlt hi (by omega)) (e_t (nI_pos' (by omega)) rfl)
  refine wp_K rfl hk (wp_rd hrc (wp_gi rfl hk (wp_pi rfl hk ?_)))
  generalize hmod : sI σ 0 0 a + 1 = md
  obtain ⟨ρ, hρ⟩ : ∃ ρ, ρ = pI 0 0 a md σ := ⟨_, rfl⟩
  rw [← hρ]
  have hFρ : Fr σ ρ (fun b => b = a) := by rw [hρ]; exact Fr.pI
  have hwρ : Wf E ρ := by rw [hρ]; exact hw.same rfl rfl rfl
  have hRρ : sR ρ = sR σ := by rw [hρ]; rfl
  have hKρ : sK ρ = sK σ := by rw [hρ]; rfl
  have hNρ : sN ρ = sN σ := by rw [hρ]; rfl
  have hSρ : sS ρ = sS σ := by rw [hρ]; rfl
  have hLρ : isL E ρ a L := by
    obtain ⟨k1, k2, k3, d, k4, k5⟩ := h
    rw [hρ]
    refine ⟨k1, ?_, k3, d, k4, k5⟩
    rw [sI_pI, if_neg (fun z => absurd z.2.1 (by decide))]
    exact k2
  refine wp_gi rfl (by rw [hKρ]; exact hk) (wp_gr rfl (by rw [hKρ]; exact hk) ?_)
  rw [hLρ.2.1]
  have fin : ∀ (s : PS) (d : Nat), sN ρ ≤ sN s → sN s ≤ sN ρ + 1 → sS ρ ≤ sS s → sS s ≤ sS ρ + 49 → Fr ρ s (fun b => b = a) → Wf E s → sR s 0 1 a = some d → sK s d = some 102 → 10 ≤ sL s d → sL s d ≤ 49 → L.length < sL s d → (∀ i, i < L.length → sQ s d i = L[i]?) → sI s 0 2 a = nI L.length → (sR σ 0 1 a = some d ∨ sN σ ≤ d) →
      wp (f_Jx4a65c_add_7a177_B38 E (some a) (nI i) (some x) (nI L.length) (some d) s) (fun _ τ => isL E τ a (insL L i x) ∧ Fr σ τ (lx σ a) ∧ Wf E τ ∧ sN τ ≤ sN σ + 1 ∧ sS τ ≤ sS σ + 49) := by
    intro s d n1 n2 n3 n4 hF hws q1 q2 q3 q4 q5 q6 q7 q8
    have hka : sK s a = some 0 := hF.k hwρ (by rw [hKρ]; exact hk)
    have hkx : ∀ y, sK σ y = some 2 ∨ sK σ y = some 3 → sK s y = some 2 ∨ sK s y = some 3 := by
      intro y hy
      rcases hy with hy | hy
      · exact Or.inl (hF.k hwρ (by rw [hKρ]; exact hy))
      · exact Or.inr (hF.k hwρ (by rw [hKρ]; exact hy))
    have hel : ∀ y ∈ L, sK s y = some 2 ∨ sK s y = some 3 := fun y hy => hkx y (h.2.2.1 y hy)
    unfold f_Jx4a65c_add_7a177_B38
    refine wp_cp (sp := i) (dp := i + 1) (m := L.length - i) rfl rfl rfl (nI_1 i) (pk_sub hi) q2 q2 (by omega) (fun q hq => ?_) ?_
    · rw [q6 _ (by omega)]; exact oIs_at hel _
    refine wp_qs (σ := pQs d _ s) rfl rfl q2 (show i < sL s d by omega) (show sL s d < 2 ^ 31 by omega) ?_ (wp_pi rfl hka (wp_ret ⟨?_, ?_, ?_, ?_, ?_⟩))
    · rcases hkx x hx with e | e
      · exact oIs_ok e (Or.inl rfl)
      · exact oIs_ok e (Or.inr rfl)
    · refine isL.mk (d := d) hka ?_ (fun y hy => ?_) q1 q2 q3 q4 ?_ (fun j hj => ?_)
      · rw [sI_pI, if_pos ⟨rfl, rfl, rfl⟩, insL_len hi]
        exact nI_1 _
      · rcases insL_mem hy with e | e
        · exact hel y e
        · rw [e]; exact hkx x hx
      · rw [insL_len hi]; show L.length + 1 ≤ sL s d; omega
      · rw [insL_len hi] at hj
        rw [insL_at hi]
        show (if d = d ∧ j = i then some x else if d = d then va_cpy (sQ s d) (sQ s d) i (i + 1) (L.length - i) j else _) = _
        by_cases e1 : j < i
        · rw [if_neg (by omega), if_pos rfl, if_pos e1, pk_cpy_out (Or.inl (by omega))]
          exact q6 j (by omega)
        · rw [if_neg e1]
          by_cases e2 : j = i
          · rw [if_pos ⟨rfl, e2⟩, if_pos e2]
          · rw [if_neg (fun z => e2 z.2), if_pos rfl, if_neg e2, pk_cpy_in (by omega) (by omega), q6 _ (by omega)]
            congr 1
            omega
    · have f1 : Fr σ s (fun b => b = a) := hFρ.tr hF (fun _ _ z => z) (fun _ _ z => z)
      have f2 : Fr s (pQs d (va_cpy (sQ s d) (sQ s d) i (i + 1) (L.length - i)) s) (fun b => b = d ∨ b = a) := Fr.pQs.wk (fun _ _ z => Or.inl z)
      have f3 := (Fr.pQ (a := d) (i := i) (v := some x) (σ := pQs d (va_cpy (sQ s d) (sQ s d) i (i + 1) (L.length - i)) s)).wk (Y := fun b => b = d ∨ b = a) (fun _ _ z => Or.inl z)
      have f4 := (Fr.pI (ci := 0) (k := 2) (a := a) (v := nI L.length + 1) (σ := pQ d i (some x) (pQs d (va_cpy (sQ s d) (sQ s d) i (i + 1) (L.length - i)) s))).wk (Y := fun b => b = d ∨ b = a) (fun _ _ z => Or.inr z)
      refine f1.tr ((f2.tr f3 (fun _ _ z => z) (fun _ _ z => z)).tr f4 (Z := fun b => b = d ∨ b = a) (fun _ _ z => z) (fun _ _ z => z)) (fun _ _ z => Or.inl z) (fun b hb z => ?_)
      rcases z with z | z
      · rcases q8 with q8 | q8
        · right; rw [z]; exact q8
        · omega
      · exact Or.inl z
    · exact hws.same rfl rfl rfl
    · show sN s ≤ _; omega
    · show sS s ≤ _; omega
  have full : (∀ d, sR ρ 0 1 a = some d → sK ρ d = some 102 → sL ρ d = L.length) → wp ((oK 0 (some a) ρ).bind fun b4 => bd (f_Jx4a65c_grow_d5877 E (some a) ρ) fun r2 s3 => f_Jx4a65c_add_7a177_B38 E (some a) (nI i) (some x) (nI L.length) r2 s3) (fun _ τ => isL E τ a (insL L i x) ∧ Fr σ τ (lx σ a) ∧ Wf E τ ∧ sN τ ≤ sN σ + 1 ∧ sS τ ≤ sS σ + 49) := by
    intro hfl
    refine wp_K rfl (by rw [hKρ]; exact hk) ?_
    refine wp_bd (sp_grow hwρ hLρ hL (by omega) (by omega) hfl) ?_
    rintro r s ⟨rfl, q1, q2, q3, q4, q5, q6, q7, q8, q9, q10, q11⟩
    exact fin s (sN ρ) (by omega) (by omega) q7.2.1 (by omega) q7 q9 q1 q2 q3 q4 q5 q6 (by rw [q8]; exact hLρ.2.1) (Or.inr (by omega))
  obtain ⟨k1, k2, k3, d, k4, k5⟩ := id hLρ
  rcases k5 with ⟨rfl, rfl⟩ | ⟨g1, g2, g3, g4, g5⟩
  · refine wp_ln0 k4 (wp_t rfl (full ?_))
    intro d2 e1 e2
    cases k4.symm.trans e1
    exact absurd e2 (hwρ.2.1 102)
  · refine wp_ln (kd := 102) k4 (hwρ.nd g1) g1 (Or.inr (Or.inr rfl)) ?_
    by_cases e : L.length = sL ρ d
    · refine wp_t (by rw [e]) (full ?_)
      intro d2 e1 e2
      cases k4.symm.trans e1
      exact e.symm
    · refine wp_f (fun z => e ((nI_eq (by omega) (by omega)).mp z)) ?_
      rw [k4]
      exact fin ρ d (Nat.le_refl _) (by omega) (Nat.le_refl _) (by omega) Fr.rf hwρ k4 g1 g2 g3 (by omega) g5 k2 (Or.inl (by rw [← hRρ]; exact k4))
/-- remove place i -/
theorem era_at (L : List Nat) (i j : Nat) : (L.eraseIdx i)[j]? = if j < i then L[j]? else L[j + 1]? := by
  rw [List.getElem?_eraseIdx]
theorem sp_remove {E : PE} {σ : PS} {a i : Nat} {L : List Nat} (hw : Wf E σ) (hO : Ok E σ) (h : isL E σ a L) (hi : i < L.length) :
    wp (f_Jx4a65c_remove_915e3 E (some a) (nI i) σ) (fun r τ => r = L[i]? ∧ isL E τ a (L.eraseIdx i) ∧ Fr σ τ (lx σ a) ∧ Wf E τ ∧ sN τ = sN σ ∧ sS τ = sS σ) := by
  have hl := h.len
  have hk := h.1
  obtain ⟨d, q1, q2, q3, q4, q5, q6⟩ := h.arr (by omega)
  have hda : d ≠ a := fun e => by subst e; cases q2.symm.trans hk
  refine wp_oM (E := E) ?_
  unfold g_Jx4a65c_remove_915e3
  refine wp_gi rfl hk ?_
  rw [h.2.1]
  refine wp_rd (sp_check hO hi (by omega)) (wp_gr rfl hk (wp_ql q1 rfl q2 (by omega) (by omega) (wp_K rfl hk ?_)))
  rw [q6 i hi, q1]
  have hlr : (L.eraseIdx i).length = L.length - 1 := by rw [List.length_eraseIdx, if_pos hi]
  have run : wp (f_Jx4a65c_fastRemove_b59b0 E (some a) (some d) (nI i) σ) (fun _ τ => isL E τ a (L.eraseIdx i) ∧ Fr σ τ (lx σ a) ∧ Wf E τ ∧ sN τ = sN σ ∧ sS τ = sS σ) := by
    refine wp_oM (E := E) ?_
    suffices hs : wp (g_Jx4a65c_fastRemove_b59b0 E (some a) (some d) (nI i) σ) (fun _ τ => isL E τ a (L.eraseIdx i) ∧ Fr σ τ (lx σ a) ∧ Wf E τ ∧ sN τ = sN σ ∧ sS τ = sS σ) from wp_mono hs (fun _ τ hq => ⟨by have a1 := hq.2.2.2.1; have a2 := hq.2.2.2.2; have a3 := hO.1; have a4 := hO.2; omega, hq⟩)
    unfold g_Jx4a65c_fastRemove_b59b0
    refine wp_gi rfl hk (wp_pi rfl hk ?_)
    generalize hmod : sI σ 0 0 a + 1 = md
    refine wp_gi rfl hk ?_
    have hsz : sI (pI 0 0 a md σ) 0 2 a = nI L.length := by rw [sI_pI, if_neg (fun z => absurd z.2.1 (by decide))]; exact h.2.1
    have hm1 : nI L.length - 1 = nI (L.length - 1) := pk_sub (a := L.length) (b := 1) (by omega)
    rw [hsz, hm1]
    have fin : ∀ (g : Nat → Option Nat), (∀ j, j < L.length - 1 → g j = (L.eraseIdx i)[j]?) → wp (f_Jx4a65c_fastRemove_b59b0_B34 E (some a) (some d) (nI (L.length - 1)) (pQs d g (pI 0 0 a md σ))) (fun _ τ => isL E τ a (L.eraseIdx i) ∧ Fr σ τ (lx σ a) ∧ Wf E τ ∧ sN τ = sN σ ∧ sS τ = sS σ) := by
      intro g hg
      unfold f_Jx4a65c_fastRemove_b59b0_B34
      refine wp_pi rfl hk (wp_qs rfl rfl q2 (show L.length - 1 < sL σ d by omega) (show sL σ d < 2 ^ 31 by omega) rfl (wp_ret ⟨?_, ?_, ?_, rfl, rfl⟩))
      · refine isL.mk (d := d) hk ?_ (fun y hy => h.2.2.1 y (List.mem_of_mem_eraseIdx hy)) q1 q2 q3 q4 (by rw [hlr]; show L.length - 1 ≤ sL σ d; omega) (fun j hj => ?_)
        · rw [hlr]
          show sI (pI 0 2 a (nI (L.length - 1)) _) 0 2 a = _
          rw [sI_pI, if_pos ⟨rfl, rfl, rfl⟩]
        · rw [hlr] at hj
          show (if d = d ∧ j = L.length - 1 then none else if d = d then g j else _) = _
          rw [if_neg (by omega), if_pos rfl]
          exact hg j hj
      · have f1 := (Fr.pI (ci := 0) (k := 0) (a := a) (v := md) (σ := σ)).wk (Y := lx σ a) (fun _ _ z => Or.inl z)
        have f2 := (Fr.pQs (a := d) (f := g) (σ := pI 0 0 a md σ)).wk (Y := lx σ a) (fun b _ z => by rw [z]; exact Or.inr q1)
        have f3 := (Fr.pI (ci := 0) (k := 2) (a := a) (v := nI (L.length - 1)) (σ := pQs d g (pI 0 0 a md σ))).wk (Y := lx σ a) (fun _ _ z => Or.inl z)
        have f4 := (Fr.pQ (a := d) (i := L.length - 1) (v := none) (σ := pI 0 2 a (nI (L.length - 1)) (pQs d g (pI 0 0 a md σ)))).wk (Y := lx σ a) (fun b _ z => by rw [z]; exact Or.inr q1)
        exact ((f1.tr f2 (fun _ _ z => z) (fun _ _ z => z)).tr f3 (fun _ _ z => z) (fun _ _ z => z)).tr f4 (fun _ _ z => z) (fun _ _ z => z)
      · exact hw.same rfl rfl rfl
    by_cases e : L.length - 1 ≤ i
    · refine wp_t (nI_le e (by omega)) ?_
      have hid : pI 0 0 a md σ = pQs d (sQ σ d) (pI 0 0 a md σ) := by
        have e2 : (fun b j => if b = d then sQ σ d j else sQ (pI 0 0 a md σ) b j) = sQ (pI 0 0 a md σ) := by
          funext b j
          by_cases hb : b = d
          · rw [if_pos hb, hb]; rfl
          · rw [if_neg hb]
        show _ = ((pI 0 0 a md σ).1, (pI 0 0 a md σ).2.1, (pI 0 0 a md σ).2.2.1, (pI 0 0 a md σ).2.2.2.1, _, (pI 0 0 a md σ).2.2.2.2.2)
        rw [e2]
        rfl
      rw [hid]
      refine fin _ (fun j hj => ?_)
      rw [q6 j (by omega), era_at, if_pos (by omega)]
    · refine wp_f (fun z => e ((nI_leI (by omega) (by omega)).mp z)) ?_
      refine wp_cp (sp := i + 1) (dp := i) (m := L.length - 1 - i) rfl rfl (nI_1 i) rfl (pk_sub (by omega)) q2 q2 (show i + 1 + (L.length - 1 - i) ≤ sL σ d ∧ i + (L.length - 1 - i) ≤ sL σ d ∧ sL σ d < 2 ^ 31 ∧ sL σ d < 2 ^ 31 by omega) (fun q hq => ?_) (fin _ (fun j hj => ?_))
      · show oIs (sQ σ d (i + 1 + q)) σ = true
        rw [q6 _ (by omega)]; exact oIs_at h.2.2.1 _
      · show va_cpy (sQ σ d) (sQ σ d) (i + 1) i (L.length - 1 - i) j = _
        rw [era_at]
        by_cases e1 : j < i
        · rw [if_pos e1, pk_cpy_out (Or.inl e1)]; exact q6 j (by omega)
        · rw [if_neg e1, pk_cpy_in (by omega) (by omega), q6 _ (by omega)]
          congr 1
          omega
  refine wp_bd run ?_
  intro _ s hs
  exact wp_ret ⟨by have a1 := hs.2.2.2.1; have a2 := hs.2.2.2.2; have a3 := hO.1; have a4 := hO.2; omega, rfl, hs⟩
/-- clear -/
theorem sp_clearL {E : PE} {d m : Nat} : ∀ (k n i : Nat) (σ : PS), m = i + k → k < n → sK σ d = some 102 → m ≤ sL σ d → sL σ d < 2 ^ 31 → ∃ g, f_Jx4a65c_clear_da8c8_L27 E n (some d) (nI m) (nI i) σ = some ((), pQs d g σ)
  | 0, n, i, σ, hm, hn, hk, hl, hb => by
    obtain ⟨n, rfl⟩ : ∃ z, n = z + 1 := ⟨n - 1, by omega⟩
    refine ⟨sQ σ d, ?_⟩
    rw [f_Jx4a65c_clear_da8c8_L27, if_pos (nI_le (by omega) (by omega))]
    have e2 : (fun b j => if b = d then sQ σ d j else sQ σ b j) = sQ σ := by
      funext b j
      by_cases hb : b = d
      · rw [if_pos hb, hb]
      · rw [if_neg hb]
    show _ = some ((), σ.1, σ.2.1, σ.2.2.1, σ.2.2.2.1, _, σ.2.2.2.2.2)
    rw [e2]
    rfl
  | k + 1, n, i, σ, hm, hn, hk, hl, hb => by
    obtain ⟨n, rfl⟩ : ∃ z, n = z + 1 := ⟨n - 1, by omega⟩
    rw [f_Jx4a65c_clear_da8c8_L27, if_neg (fun z => by have := (nI_leI (by omega) (by omega)).mp z; omega), oQs_ok hk (by omega) hb rfl]
    obtain ⟨g, hg⟩ := sp_clearL (E := E) (d := d) (m := m) k n (i + 1) (pQ d i none σ) (by omega) (by omega) hk hl hb
    refine ⟨g, ?_⟩
    show f_Jx4a65c_clear_da8c8_L27 E n (some d) (nI m) (nI i + 1) (pQ d i none σ) = _
    rw [nI_1, hg, pQ_pQs, pQs_pQs]
theorem sp_clear {E : PE} {σ : PS} {a : Nat} {L : List Nat} (hE : 100 ≤ E.1) (hw : Wf E σ) (hO : Ok E σ) (h : isL E σ a L) :
    wp (f_Jx4a65c_clear_da8c8 E (some a) σ) (fun _ τ => isL E τ a [] ∧ Fr σ τ (lx σ a) ∧ Wf E τ ∧ sN τ = sN σ ∧ sS τ = sS σ) := by
  have hlen := h.len
  have hk := h.1
  refine wp_oM (E := E) ?_
  suffices hs : wp (g_Jx4a65c_clear_da8c8 E (some a) σ) (fun _ τ => isL E τ a [] ∧ Fr σ τ (lx σ a) ∧ Wf E τ ∧ sN τ = sN σ ∧ sS τ = sS σ) from wp_mono hs (fun _ τ hq => ⟨by have a1 := hq.2.2.2.1; have a2 := hq.2.2.2.2; have a3 := hO.1; have a4 := hO.2; omega, hq⟩)
  unfold g_Jx4a65c_clear_da8c8
  refine wp_gi rfl hk (wp_pi rfl hk ?_)
  generalize hmod : sI σ 0 0 a + 1 = md
  refine wp_gr rfl hk (wp_gi rfl hk (wp_pi rfl hk ?_))
  have hsz : sI (pI 0 0 a md σ) 0 2 a = nI L.length := by rw [sI_pI, if_neg (fun z => absurd z.2.1 (by decide))]; exact h.2.1
  rw [hsz]
  show wp (f_Jx4a65c_clear_da8c8_L27 E E.1 (sR σ 0 1 a) _ _ _) _
  have f1 : Fr σ (pI 0 2 a 0 (pI 0 0 a md σ)) (lx σ a) := (Fr.pI.tr Fr.pI (Z := lx σ a) (fun _ _ z => Or.inl z) (fun _ _ z => Or.inl z))
  have hsz2 : sI (pI 0 2 a 0 (pI 0 0 a md σ)) 0 2 a = nI 0 := by rw [sI_pI, if_pos ⟨rfl, rfl, rfl⟩]; rfl
  obtain ⟨k1, k2, k3, d, k4, k5⟩ := h
  rw [k4]
  rcases k5 with ⟨rfl, rfl⟩ | ⟨g1, g2, g3, g4, g5⟩
  · obtain ⟨n, hn⟩ : ∃ z, E.1 = z + 1 := ⟨E.1 - 1, by omega⟩
    rw [hn, f_Jx4a65c_clear_da8c8_L27]
    exact wp_t (by decide) (wp_ret ⟨⟨k1, hsz2, (fun _ hy => nomatch hy), _, k4, Or.inl ⟨rfl, rfl⟩⟩, f1, hw.same rfl rfl rfl, rfl, rfl⟩)
  · obtain ⟨g, hg⟩ := sp_clearL (E := E) (d := d) (m := L.length) L.length E.1 0 (pI 0 2 a 0 (pI 0 0 a md σ)) (by omega) (by omega) g1 g4 (show sL σ d < 2 ^ 31 by omega)
    have hg' : f_Jx4a65c_clear_da8c8_L27 E E.1 (some d) (nI L.length) 0 (pI 0 2 a 0 (pI 0 0 a md σ)) = _ := hg
    rw [hg']
    refine wp_ret ⟨isL.mk (d := d) k1 hsz2 (fun _ hy => nomatch hy) k4 g1 g2 g3 (by simp) (fun i hi => by simp at hi), ?_, hw.same rfl rfl rfl, rfl, rfl⟩
    exact f1.tr Fr.pQs (fun _ _ z => z) (fun b _ z => by rw [z]; exact Or.inr k4)
/-- a new list -/
theorem sp_linit {E : PE} {σ : PS} {a : Nat} (hO : Ok E σ) (hk : sK σ a = some 0) : f_Jx4a65c_init_da8c8 E (some a) σ = some ((), pR 0 1 a (some E.2.2.2.1) (pI 0 0 a 0 σ)) := by
  have h1 : f_Jxa1e45_init_da8c8 E (some a) σ = some ((), σ) := oM_rd hO (e_K rfl hk rfl)
  have h2 : f_Jxc12de_init_da8c8 E (some a) σ = some ((), pI 0 0 a 0 σ) := by
    refine oM_to ?_ (Nat.le_refl _) (Nat.le_refl _) hO.1 hO.2
    exact e_K rfl hk (bd_rd h1 (e_pi rfl hk rfl))
  refine oM_to ?_ (Nat.le_refl _) (Nat.le_refl _) hO.1 hO.2
  refine e_K rfl hk (bd_rd h2 ?_)
  rw [show oPr 0 1 (some a) (some E.2.2.2.1) (pI 0 0 a 0 σ) = _ from oPr_ok hk]
  rfl
theorem isL.new {E : PE} {σ : PS} {a : Nat} (hk : sK σ a = some 0) (h0 : sI σ 0 2 a = 0) : isL E (pR 0 1 a (some E.2.2.2.1) (pI 0 0 a 0 σ)) a [] := by
  refine ⟨hk, ?_, (fun _ hy => nomatch hy), E.2.2.2.1, by rw [sR_pR, if_pos ⟨rfl, rfl, rfl⟩], Or.inl ⟨rfl, rfl⟩⟩
  show sI (pI 0 0 a 0 σ) 0 2 a = _
  rw [sI_pI, if_neg (fun z => absurd z.2.1 (by decide)), h0]
  rfl
