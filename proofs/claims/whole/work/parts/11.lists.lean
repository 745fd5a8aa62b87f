/-! ArrayList -/
def isL (E : PE) (σ : PS) (a : Nat) (L : List Nat) : Prop :=
  sK σ a = some 0 ∧ sI σ 0 2 a = nI L.length ∧ (∀ y ∈ L, sK σ y = some 2 ∨ sK σ y = some 3) ∧ ∃ d, sR σ 0 1 a = some d ∧ ((d = E.2.2.2.1 ∧ L = []) ∨ (sK σ d = some 102 ∧ 10 ≤ sL σ d ∧ sL σ d ≤ 49 ∧ L.length ≤ sL σ d ∧ ∀ i, i < L.length → sQ σ d i = L[i]?))
def lx (σ : PS) (a b : Nat) : Prop := b = a ∨ sR σ 0 1 a = some b
theorem isL.len {E : PE} {σ : PS} {a : Nat} {L : List Nat} (h : isL E σ a L) : L.length ≤ 49 := by
  obtain ⟨-, -, -, d, -, ⟨-, rfl⟩ | ⟨-, -, h1, h2, -⟩⟩ := h
  · simp
  · omega
theorem isL.kept {E : PE} {σ τ : PS} {a : Nat} {L : List Nat} {X : Nat → Prop} (hw : Wf E σ) (h : isL E σ a L) (hf : Fr σ τ X) (h1 : ¬ X a) (h2 : ∀ d, sR σ 0 1 a = some d → sK σ d = some 102 → ¬ X d) : isL E τ a L := by
  obtain ⟨k1, k2, k3, d, k4, k5⟩ := h
  have e := hf.2.2.2.2 a (hw.lt k1) h1
  refine ⟨hf.k hw k1, by rw [e.2.1]; exact k2, fun y hy => ?_, d, by rw [e.2.2.1]; exact k4, ?_⟩
  · rcases k3 y hy with h | h
    · exact Or.inl (hf.k hw h)
    · exact Or.inr (hf.k hw h)
  · rcases k5 with h | ⟨g1, g2, g3, g4, g5⟩
    · exact Or.inl h
    · have hl := hf.2.2.2.1 d (hw.lt g1)
      have ed := hf.2.2.2.2 d (hw.lt g1) (h2 d k4 g1)
      exact Or.inr ⟨hf.k hw g1, by rw [hl]; exact g2, by rw [hl]; exact g3, by rw [hl]; exact g4, fun i hi => by rw [ed.2.2.2.2.1]; exact g5 i hi⟩
/-- what is no list, and no list's row, isn't touched by a list's run -/
theorem lx.no {E : PE} {σ : PS} {a b k : Nat} (hw : Wf E σ) (ha : sK σ a = some 0) (hb : sK σ b = some k) (h0 : b ≠ a) (h2 : k ≠ 102) : ¬ lx σ a b := by
  rintro (e | e)
  · exact h0 e
  · exact h2 (hw.ty ha e hb)
theorem isL.other {E : PE} {σ τ : PS} {a b : Nat} {L : List Nat} (hw : Wf E σ) (h : isL E σ a L) (hb : sK σ b = some 0) (hab : a ≠ b) (hf : Fr σ τ (lx σ b)) : isL E τ a L := by
  refine h.kept hw hf (lx.no hw hb h.1 hab (by decide)) ?_
  intro d hd hk
  rintro (e | e)
  · subst e
    cases hk.symm.trans hb
  · exact hab (hw.uo h.1 hb hd e hk).2.2
theorem sp_check {E : PE} {σ : PS} {i n : Nat} (hO : Ok E σ) (hi : i < n) (hn : n < 2 ^ 31) : f_J15_checkIndex_7cf53 E (nI i) (nI n) σ = some (nI i, σ) := by
  refine oM_rd hO ?_
  refine bd_rd (oM_rd hO ?_) rfl
  unfold g_J3_checkIndex_8e157
  rw [if_neg (nI_pos (by omega)), if_pos (nI_lt hi hn)]
theorem sp_size {E : PE} {σ : PS} {a : Nat} {L : List Nat} (hO : Ok E σ) (h : isL E σ a L) : f_Jx4a65c_size_8abf5 E (some a) σ = some (nI L.length, σ) := by
  refine oM_rd hO ?_
  unfold g_Jx4a65c_size_8abf5
  rw [oGi_ok h.1, h.2.1]
  rfl
theorem sp_isEmpty {E : PE} {σ : PS} {a : Nat} {L : List Nat} (hO : Ok E σ) (h : isL E σ a L) : f_Jx4a65c_isEmpty_aae02 E (some a) σ = some (if L = [] then 1 else 0, σ) := by
  refine oM_rd hO ?_
  unfold g_Jx4a65c_isEmpty_aae02
  rw [oGi_ok h.1, h.2.1]
  have hl := h.len
  by_cases e : L = []
  · rw [if_pos e, e]; rfl
  · have h0 : 0 < L.length := List.length_pos_iff.mpr e
    rw [if_neg e]
    show (if nI L.length = 0 then _ else _) = _
    rw [if_neg (nI_ne0 h0 (by omega))]
    rfl
theorem sp_elem {E : PE} {σ : PS} {a i : Nat} {L : List Nat} (hO : Ok E σ) (h : isL E σ a L) (hi : i < L.length) : f_Jx4a65c_elementData_915e3 E (some a) (nI i) σ = some (L[i]?, σ) := by
  refine oM_rd hO ?_
  unfold g_Jx4a65c_elementData_915e3
  obtain ⟨k1, k2, k3, d, k4, k5⟩ := h
  rcases k5 with ⟨-, rfl⟩ | ⟨g1, g2, g3, g4, g5⟩
  · simp at hi
  · rw [oGr_ok k1, k4]
    show (oQl (some d) (nI i) σ).bind _ = _
    rw [oQl_ok g1 (by omega) (by omega), g5 i hi]
    rfl
theorem sp_get {E : PE} {σ : PS} {a i : Nat} {L : List Nat} (hO : Ok E σ) (h : isL E σ a L) (hi : i < L.length) : f_Jx4a65c_get_915e3 E (some a) (nI i) σ = some (L[i]?, σ) := by
  refine oM_rd hO ?_
  unfold g_Jx4a65c_get_915e3
  have hl := h.len
  refine e_gi rfl h.1 ?_
  rw [h.2.1]
  exact bd_rd (sp_check hO hi (by omega)) (e_K rfl h.1 (bd_rd (sp_elem hO h hi) rfl))
/-- the row grows: what the list's field holds then -/
def growP (E : PE) (σ : PS) (a : Nat) (L : List Nat) (r : Option Nat) (τ : PS) : Prop := r = some (sN σ) ∧ sR τ 0 1 a = some (sN σ) ∧ sK τ (sN σ) = some 102 ∧ 10 ≤ sL τ (sN σ) ∧ sL τ (sN σ) ≤ 49 ∧ L.length < sL τ (sN σ) ∧ (∀ i, i < L.length → sQ τ (sN σ) i = L[i]?) ∧ Fr σ τ (fun b => b = a) ∧ sI τ 0 2 a = sI σ 0 2 a ∧ Wf E τ ∧ sN τ = sN σ + 1 ∧ sS τ ≤ sS σ + 49
theorem growP.bk {E : PE} {σ : PS} {a : Nat} {L : List Nat} {r : Option Nat} {τ : PS} (h : growP E σ a L r τ) (h1 : sN σ + 1 ≤ E.2.1) (h2 : sS σ + 49 ≤ E.2.2.1) : sN σ ≤ sN τ ∧ sS σ ≤ sS τ ∧ sN τ ≤ E.2.1 ∧ sS τ ≤ E.2.2.1 := by
  obtain ⟨-, -, -, -, -, -, -, hF, -, -, q1, q2⟩ := h
  have := hF.2.1
  omega
theorem sp_grow {E : PE} {σ : PS} {a : Nat} {L : List Nat} (hw : Wf E σ) (h : isL E σ a L) (hL : L.length ≤ 31) (h1 : sN σ + 1 ≤ E.2.1) (h2 : sS σ + 49 ≤ E.2.2.1) (hfull : ∀ d, sR σ 0 1 a = some d → sK σ d = some 102 → sL σ d = L.length) :
    wp (f_Jx4a65c_grow_d5877 E (some a) σ) (growP E σ a L) := by
  obtain ⟨k1, k2, k3, d, k4, k5⟩ := h
  have hal : a < sN σ := hw.lt k1
  refine wp_oM (E := E) ?_
  unfold g_Jx4a65c_grow_d5877
  refine wp_gi rfl k1 (wp_K rfl k1 ?_)
  refine wp_bd (Q := growP E σ a L) ?_ (fun r s hq => wp_ret ⟨hq.bk h1 h2, hq⟩)
  refine wp_oM (E := E) ?_
  suffices hs : wp (g_Jx4a65c_grow_92f84 E (some a) (sI σ 0 2 a + 1) σ) (growP E σ a L) from wp_mono hs (fun r s hq => ⟨hq.bk h1 h2, hq⟩)
  unfold g_Jx4a65c_grow_92f84
  refine wp_gr rfl k1 ?_
  have hkn : ∀ kd n, sK (pN kd n σ) a = some 0 := fun kd n => by rw [sK_pN, if_neg (by omega)]; exact k1
  have hwN := hw.pN 102
  rcases k5 with ⟨rfl, rfl⟩ | ⟨g1, g2, g3, g4, g5⟩
  · refine wp_ln0 k4 (wp_f (by decide) ?_)
    refine wp_gr rfl k1 (wp_t k4 ?_)
    refine wp_na (n := 10) (by rw [k2]; rfl) (by omega) h1 (by omega) (wp_pr rfl (hkn 102 10) (wp_ret ?_))
    have hl : sL (pR 0 1 a (some (sN σ)) (pN 102 10 σ)) (sN σ) = 10 := by show sL (pN 102 10 σ) (sN σ) = 10; rw [sL_pN, if_pos rfl]
    refine ⟨rfl, by rw [sR_pR, if_pos ⟨rfl, rfl, rfl⟩], by show sK (pN 102 10 σ) (sN σ) = _; rw [sK_pN, if_pos rfl], by omega, by omega, by simp; omega, fun i hi => by simp at hi, (Fr.pN (X := fun _ => False)).tr Fr.pR (fun _ _ z => z.elim) (fun _ _ z => z), ?_, (hwN 10).pR (hkn 102 10) (Or.inr ⟨by rw [sK_pN, if_pos rfl]; rfl, hw.fresh 102 10⟩), rfl, ?_⟩
    · show sI (pN 102 10 σ) 0 2 a = _
      rw [sI_pN, if_neg (by omega)]
    · show sS σ + 10 ≤ _
      omega
  · have hn : sL σ d = L.length := hfull d k4 g1
    obtain ⟨n, hnn⟩ : ∃ n, n = sL σ d := ⟨_, rfl⟩
    rw [← hnn] at hn g2 g3 g4
    refine wp_ln (kd := 102) k4 (hw.nd g1) g1 (Or.inr (Or.inr rfl)) ?_
    rw [← hnn]
    refine wp_t (show nI 0 < nI n from nI_lt (by omega) (by omega)) ?_
    unfold f_Jx4a65c_grow_92f84_B20
    have hO : Ok E σ := ⟨by omega, by omega⟩
    have hlen : f_J8_newLength_cabcc E (nI n) (sI σ 0 2 a + 1 - nI n) (nI n >>> ((1 : Int32) &&& 31)) σ = some (nI (n + n / 2), σ) := by
      refine oM_rd hO ?_
      have es : nI n >>> ((1 : Int32) &&& 31) = nI (n / 2) := by
        have k := pk_shrN (n := n) (by omega) ((1 : Int32) &&& 31) 1 (by decide)
        rw [Nat.pow_one] at k
        exact k
      have ed : sI σ 0 2 a + 1 - nI n = nI 1 := by
        rw [k2, ← hn, nI_1, pk_sub (by omega)]
        congr 1
        omega
      unfold g_J8_newLength_cabcc
      rw [es, ed, if_pos (show nI 1 < nI (n / 2) from nI_lt (by omega) (by omega)), nI_add]
      exact e_f (nI_nle (by omega) (by omega)) (e_f (show ¬ nI 2147483639 < nI (n + n / 2) from nI_nlt (by omega) (by decide)) rfl)
    refine wp_rd hlen (wp_gr rfl k1 ?_)
    generalize hm : n + n / 2 = m at *
    rw [k4]
    have hkd : ∀ b kk, sK σ b = some kk → sK (pN 102 m σ) b = some kk := fun b kk hb => by have := hw.lt hb; rw [sK_pN, if_neg (by omega)]; exact hb
    have hQd : sQ (pN 102 m σ) d = sQ σ d := by funext j; have := hw.lt g1; rw [sQ_pN, if_neg (by omega)]
    have hnew : sK (pN 102 m σ) (sN σ) = some 102 := by rw [sK_pN, if_pos rfl]
    have hLd : sL (pN 102 m σ) d = n := by have := hw.lt g1; rw [sL_pN, if_neg (by omega)]; exact hnn.symm
    have hLn : sL (pN 102 m σ) (sN σ) = m := by rw [sL_pN, if_pos rfl]
    obtain ⟨ρ, hρ⟩ : ∃ ρ, ρ = pQs (sN σ) (va_cpy (sQ (pN 102 m σ) d) (sQ (pN 102 m σ) (sN σ)) 0 0 n) (pN 102 m σ) := ⟨_, rfl⟩
    have hb4 : sN σ ≤ sN ρ ∧ sS σ ≤ sS ρ ∧ sN ρ ≤ E.2.1 ∧ sS ρ ≤ E.2.2.1 := by
      have e1 : sN ρ = sN σ + 1 := by rw [hρ]; rfl
      have e2 : sS ρ = sS σ + m := by rw [hρ]; rfl
      omega
    have hcopy : wp (f_J7_copyOf_1904c E (some d) (nI m) σ) (fun r τ => r = some (sN σ) ∧ τ = ρ) := by
      refine wp_oM (E := E) ?_
      unfold g_J7_copyOf_1904c
      refine wp_gc rfl g1 ?_
      refine wp_bd (Q := fun r τ => r = some (sN σ) ∧ τ = ρ) ?_ (fun r s hq => wp_ret ⟨by rw [hq.2]; exact hb4, hq⟩)
      refine wp_oM (E := E) ?_
      unfold g_J7_copyOf_6403c
      refine wp_t rfl (wp_na rfl (by omega) h1 (by omega) ?_)
      unfold f_J7_copyOf_6403c_B24
      refine wp_ln (kd := 102) rfl (hw.nd g1) (hkd d 102 g1) (Or.inr (Or.inr rfl)) ?_
      rw [hLd, if_neg (show ¬ nI m < nI n from nI_nlt (by omega) (by omega))]
      refine wp_cp (sp := 0) (dp := 0) (m := n) rfl rfl rfl rfl rfl (hkd d 102 g1) hnew (by rw [hLd, hLn]; omega) (fun q hq => ?_) (wp_ret ⟨by rw [← hρ]; exact hb4, rfl, hρ.symm⟩)
      rw [hQd, Nat.zero_add, g5 q (by omega), List.getElem?_eq_getElem (by omega)]
      rcases k3 _ (List.getElem_mem (by omega : q < L.length)) with e | e
      · exact oIs_ok (hkd _ _ e) (Or.inl rfl)
      · exact oIs_ok (hkd _ _ e) (Or.inr rfl)
    refine wp_bd hcopy ?_
    rintro r s ⟨rfl, rfl⟩
    have hkr : sK s a = some 0 := by rw [hρ]; exact hkn 102 m
    refine wp_pr rfl hkr (wp_ret ?_)
    have hFs : Fr σ s (fun _ => False) := by
      rw [hρ]
      refine (Fr.pN (X := fun _ => False)).tr Fr.pQs (fun _ _ z => z) (fun b hb z => ?_)
      omega
    have hws : Wf E s := by rw [hρ]; exact (hwN m).same rfl rfl rfl
    have hfr : ∀ c k b, sK s b = some c → sR s c k b ≠ some (sN σ) := by rw [hρ]; exact hw.fresh 102 m
    have hsk : sK s (sN σ) = some 102 := by rw [hρ]; exact hnew
    have hl : sL (pR 0 1 a (some (sN σ)) s) (sN σ) = m := by show sL s (sN σ) = m; rw [hρ]; exact hLn
    refine ⟨rfl, by rw [sR_pR, if_pos ⟨rfl, rfl, rfl⟩], hsk, by omega, by omega, by omega, ?_, hFs.tr Fr.pR (fun _ _ z => z.elim) (fun _ _ z => z), (hFs.2.2.2.2 a hal (fun z => z)).2.1 0 2, hws.pR hkr (Or.inr ⟨hsk, hfr⟩), by rw [hρ]; rfl, ?_⟩
    · intro i hi
      show sQ s (sN σ) i = _
      rw [hρ, sQ_pQs, if_pos rfl, pk_cpy_in (by omega) (by omega), hQd, Nat.zero_add, Nat.sub_zero]
      exact g5 i hi
    · show sS s ≤ _
      rw [hρ]
      show sS σ + m ≤ _
      omega
/-- add at the end -/
theorem sp_add {E : PE} {σ : PS} {a x : Nat} {L : List Nat} (hw : Wf E σ) (h : isL E σ a L) (hL : L.length ≤ 31) (hx : sK σ x = some 2 ∨ sK σ x = some 3) (h1 : sN σ + 1 ≤ E.2.1) (h2 : sS σ + 49 ≤ E.2.2.1) :
    wp (f_Jx4a65c_add_9ea2d E (some a) (some x) σ) (fun _ τ => isL E τ a (L ++ [x]) ∧ Fr σ τ (lx σ a) ∧ Wf E τ ∧ sN τ ≤ sN σ + 1 ∧ sS τ ≤ sS σ + 49) := by
  have hk := h.1
  have hlen := h.len
  refine wp_oM (E := E) ?_
  unfold g_Jx4a65c_add_9ea2d
  refine wp_gi rfl hk (wp_pi rfl hk ?_)
  generalize hmod : sI σ 0 0 a + 1 = md
  obtain ⟨ρ, hρ⟩ : ∃ ρ, ρ = pI 0 0 a md σ := ⟨_, rfl⟩
  rw [← hρ]
  have hFρ : Fr σ ρ (fun b => b = a) := by rw [hρ]; exact Fr.pI
  have hwρ : Wf E ρ := by rw [hρ]; exact hw.same rfl rfl rfl
  have hRρ : sR ρ = sR σ := by rw [hρ]; rfl
  have hKρ : sK ρ = sK σ := by rw [hρ]; rfl
  have hNρ : sN ρ = sN σ := by rw [hρ]; rfl
  have hSρ : sS ρ = sS σ := by rw [hρ]; rfl
  have hLρ : isL E ρ a L := by
    obtain ⟨k1, k2, k3, d, k4, k5⟩ := h
    rw [hρ]
    refine ⟨k1, ?_, k3, d, k4, k5⟩
    rw [sI_pI, if_neg (fun z => absurd z.2.1 (by decide))]
    exact k2
  refine wp_gr rfl (by rw [hKρ]; exact hk) (wp_gi rfl (by rw [hKρ]; exact hk) (wp_K rfl (by rw [hKρ]; exact hk) ?_))
  rw [hLρ.2.1]
  -- the end: from a state where the row has room
  have fin : ∀ (s : PS) (d : Nat), sN ρ ≤ sN s → sN s ≤ sN ρ + 1 → sS ρ ≤ sS s → sS s ≤ sS ρ + 49 → Fr ρ s (fun b => b = a) → Wf E s → sR s 0 1 a = some d → sK s d = some 102 → 10 ≤ sL s d → sL s d ≤ 49 → L.length < sL s d → (∀ i, i < L.length → sQ s d i = L[i]?) → sI s 0 2 a = nI L.length → (sR σ 0 1 a = some d ∨ sN σ ≤ d) →
      wp (f_Jx4a65c_add_72be8_B11 E (some a) (some x) (some d) (nI L.length) s) (fun _ τ => isL E τ a (L ++ [x]) ∧ Fr σ τ (lx σ a) ∧ Wf E τ ∧ sN τ ≤ sN σ + 1 ∧ sS τ ≤ sS σ + 49 ∧ sN s = sN τ ∧ sS s = sS τ) := by
    intro s d n1 n2 n3 n4 hF hws q1 q2 q3 q4 q5 q6 q7 q8
    have hka : sK s a = some 0 := hF.k hwρ (by rw [hKρ]; exact hk)
    have hkx : ∀ y, sK σ y = some 2 ∨ sK σ y = some 3 → sK s y = some 2 ∨ sK s y = some 3 := by
      intro y hy
      rcases hy with hy | hy
      · exact Or.inl (hF.k hwρ (by rw [hKρ]; exact hy))
      · exact Or.inr (hF.k hwρ (by rw [hKρ]; exact hy))
    have hda : d ≠ a := fun e => by subst e; cases q2.symm.trans hka
    unfold f_Jx4a65c_add_72be8_B11
    refine wp_qs rfl rfl q2 q5 (by omega) ?_ (wp_pi rfl hka (wp_ret ⟨?_, ?_, ?_, ?_, ?_, rfl, rfl⟩))
    · rcases hkx x hx with e | e
      · exact oIs_ok e (Or.inl rfl)
      · exact oIs_ok e (Or.inr rfl)
    · refine ⟨hka, ?_, ?_, d, q1, Or.inr ⟨q2, q3, q4, ?_, ?_⟩⟩
      · rw [sI_pI, if_pos ⟨rfl, rfl, rfl⟩, List.length_append]
        exact nI_1 _
      · intro y hy
        rcases List.mem_append.mp hy with e | e
        · exact hkx y (h.2.2.1 y e)
        · rw [List.mem_singleton.mp e]; exact hkx x hx
      · rw [List.length_append]; show L.length + 1 ≤ sL s d; omega
      · intro i hi
        rw [List.length_append] at hi
        have hi : i < L.length + 1 := hi
        show (if d = d ∧ i = L.length then some x else sQ s d i) = _
        by_cases e : i = L.length
        · rw [if_pos ⟨rfl, e⟩, e, List.getElem?_append_right (Nat.le_refl _), Nat.sub_self]; rfl
        · rw [if_neg (fun z => e z.2), List.getElem?_append_left (by omega)]; exact q6 i (by omega)
    · have f1 : Fr σ s (fun b => b = a) := hFρ.tr hF (fun _ _ z => z) (fun _ _ z => z)
      have f2 := Fr.pQ (a := d) (i := L.length) (v := some x) (σ := s)
      have f3 := Fr.pI (ci := 0) (k := 2) (a := a) (v := nI L.length + 1) (σ := pQ d L.length (some x) s)
      refine (f1.tr (f2.tr f3 (Z := fun b => b = d ∨ b = a) (fun _ _ z => Or.inl z) (fun _ _ z => Or.inr z)) (fun _ _ z => Or.inl z) (fun b hb z => ?_))
      rcases z with z | z
      · rcases q8 with q8 | q8
        · right; rw [z]; exact q8
        · omega
      · exact Or.inl z
    · exact hws.same rfl rfl rfl
    · show sN s ≤ _; omega
    · show sS s ≤ _; omega
  have bk : ∀ τ : PS, Fr σ τ (lx σ a) → sN τ ≤ sN σ + 1 → sS τ ≤ sS σ + 49 → (sN ρ ≤ sN τ ∧ sS ρ ≤ sS τ ∧ sN τ ≤ E.2.1 ∧ sS τ ≤ E.2.2.1) := by
    intro τ hF q1 q2
    have := hF.1
    have := hF.2.1
    omega
  have run : wp (f_Jx4a65c_add_72be8 E (some a) (some x) (sR ρ 0 1 a) (nI L.length) ρ) (fun _ τ => isL E τ a (L ++ [x]) ∧ Fr σ τ (lx σ a) ∧ Wf E τ ∧ sN τ ≤ sN σ + 1 ∧ sS τ ≤ sS σ + 49) := by
    refine wp_oM (E := E) ?_
    unfold g_Jx4a65c_add_72be8
    have full : (∀ d, sR ρ 0 1 a = some d → sK ρ d = some 102 → sL ρ d = L.length) → wp ((oK 0 (some a) ρ).bind fun b4 => bd (f_Jx4a65c_grow_d5877 E (some a) ρ) fun r2 s3 => f_Jx4a65c_add_72be8_B11 E (some a) (some x) r2 (nI L.length) s3) (fun _ τ => (sN ρ ≤ sN τ ∧ sS ρ ≤ sS τ ∧ sN τ ≤ E.2.1 ∧ sS τ ≤ E.2.2.1) ∧ isL E τ a (L ++ [x]) ∧ Fr σ τ (lx σ a) ∧ Wf E τ ∧ sN τ ≤ sN σ + 1 ∧ sS τ ≤ sS σ + 49) := by
      intro hfl
      refine wp_K rfl (by rw [hKρ]; exact hk) ?_
      refine wp_bd (sp_grow hwρ hLρ hL (by omega) (by omega) hfl) ?_
      rintro r s ⟨rfl, q1, q2, q3, q4, q5, q6, q7, q8, q9, q10, q11⟩
      refine wp_mono (fin s (sN ρ) (by omega) (by omega) q7.2.1 (by omega) q7 q9 q1 q2 q3 q4 q5 q6 (by rw [q8]; exact hLρ.2.1) (Or.inr (by omega))) ?_
      intro _ τ ht
      obtain ⟨t1, t2, t3, t4, t5, t6, t7⟩ := ht
      exact ⟨bk τ t2 t4 t5, t1, t2, t3, t4, t5⟩
    obtain ⟨k1, k2, k3, d, k4, k5⟩ := id hLρ
    rcases k5 with ⟨rfl, rfl⟩ | ⟨g1, g2, g3, g4, g5⟩
    · refine wp_ln0 k4 (wp_t rfl (full ?_))
      intro d2 e1 e2
      cases k4.symm.trans e1
      exact absurd e2 (hwρ.2.1 102)
    · refine wp_ln (kd := 102) k4 (hwρ.nd g1) g1 (Or.inr (Or.inr rfl)) ?_
      by_cases e : L.length = sL ρ d
      · refine wp_t (by rw [e]) (full ?_)
        intro d2 e1 e2
        cases k4.symm.trans e1
        exact e.symm
      · refine wp_f (fun z => e ((nI_eq (by omega) (by omega)).mp z)) ?_
        rw [k4]
        refine wp_mono (fin ρ d (Nat.le_refl _) (by omega) (Nat.le_refl _) (by omega) Fr.rf hwρ k4 g1 g2 g3 (by omega) g5 k2 (Or.inl (by rw [← hRρ]; exact k4))) ?_
        intro _ τ ht
        obtain ⟨t1, t2, t3, t4, t5, t6, t7⟩ := ht
        exact ⟨bk τ t2 t4 t5, t1, t2, t3, t4, t5⟩
  refine wp_bd run ?_
  intro _ s hs
  refine wp_ret ⟨?_, hs⟩
  obtain ⟨s1, s2, s3, s4, s5⟩ := hs
  have := s2.1
  have := s2.2.1
  omega
