/-! ENTRIES of the class -/
/-- an Entry but for its marks -/
def isE0 (σ : PS) (e b m num kd : Nat) (bs : List Nat) (tw : Nat) : Prop :=
  sK σ e = some 2 ∧ sI σ 2 0 e = nI num ∧ sI σ 2 1 e = nI kd ∧ sI σ 2 4 e = nI bs.length ∧ sI σ 2 5 e = nI tw ∧ (bs.length ≤ 60 ∧ ∀ x ∈ bs, x < 256) ∧ (sR σ 2 2 e = some b ∧ sK σ b = some 100 ∧ sL σ b = 60) ∧ (sR σ 2 3 e = some m ∧ sK σ m = some 100 ∧ sL σ m = 32) ∧ ∀ i, i < bs.length → sA σ b i = nI (bs.getD i 0)
def isE (σ : PS) (e num kd : Nat) (bs : List Nat) (tw : Nat) : Prop := ∃ b m, isE0 σ e b m num kd bs tw ∧ ∀ j, j < 32 → sA σ m j = nI (marks bs j)
theorem getD_lt {bs : List Nat} (h : ∀ x ∈ bs, x < 256) (i : Nat) : bs.getD i 0 < 256 := by
  by_cases hi : i < bs.length
  · rw [List.getD_eq_getElem?_getD, List.getElem?_eq_getElem hi]; exact h _ (List.getElem_mem hi)
  · rw [List.getD_eq_getElem?_getD, List.getElem?_eq_none (by omega)]; decide
theorem isE0.bm {E : PE} {σ : PS} {e b m num kd tw : Nat} {bs : List Nat} (hw : Wf E σ) (h : isE0 σ e b m num kd bs tw) : b ≠ m := by
  obtain ⟨h1, -, -, -, -, -, ⟨r1, r2, -⟩, ⟨q1, q2, -⟩, -⟩ := h
  intro e2
  subst e2
  exact absurd (hw.uo h1 h1 r1 q1 r2).2.1 (by decide)
/-- another int array's contents leave it -/
theorem isE0.pAs {σ : PS} {e b m num kd tw a : Nat} {bs : List Nat} {f : Nat → Int32} (h : isE0 σ e b m num kd bs tw) (ha : b ≠ a) : isE0 (pAs a f σ) e b m num kd bs tw := by
  obtain ⟨h1, h2, h3, h4, h5, h6, h7, h8, h9⟩ := h
  refine ⟨h1, h2, h3, h4, h5, h6, h7, h8, fun i hi => ?_⟩
  rw [sA_pAs, if_neg ha]
  exact h9 i hi
theorem sp_marksZ {E : PE} {e m : Nat} : ∀ (k n i : Nat) (σ : PS), 32 = i + k → k < n → sK σ e = some 2 → sR σ 2 3 e = some m → sK σ m = some 100 → sL σ m = 32 → ∃ g, f_X1_countMarks_L2 E n (some e) (nI i) σ = f_X1_countMarks_L23 E E.1 (some e) 0 (pAs m g σ) ∧ (∀ j, i ≤ j → j < 32 → g j = 0) ∧ ∀ j, j < i → g j = sA σ m j
  | 0, n, i, σ, hm, hn, hk, hr, h1, h2 => by
    obtain ⟨n, rfl⟩ : ∃ z, n = z + 1 := ⟨n - 1, by omega⟩
    refine ⟨sA σ m, ?_, fun j a b => by omega, fun _ _ => rfl⟩
    rw [f_X1_countMarks_L2, pAs_id]
    exact e_t (show nI 32 ≤ nI i from nI_le (by omega) (by omega)) rfl
  | k + 1, n, i, σ, hm, hn, hk, hr, h1, h2 => by
    obtain ⟨n, rfl⟩ : ∃ z, n = z + 1 := ⟨n - 1, by omega⟩
    obtain ⟨g, hg, g0, g1⟩ := sp_marksZ (E := E) (e := e) (m := m) k n (i + 1) (pA m i 0 σ) (by omega) (by omega) hk hr h1 h2
    refine ⟨g, ?_, fun j a b => ?_, fun j a => ?_⟩
    · rw [f_X1_countMarks_L2]
      refine e_f (show ¬ nI 32 ≤ nI i from nI_ge (by omega) (by omega)) (e_gr rfl hk (e_as hr rfl h1 (by omega) (by omega) ?_))
      rw [nI_1, hg, pA_pAs, pAs_pAs]
    · by_cases e : j = i
      · subst e
        rw [g1 j (by omega), sA_pA, if_pos ⟨rfl, rfl⟩]
      · exact g0 j (by omega) b
    · rw [g1 j (by omega), sA_pA, if_neg (fun z => by omega)]
theorem sp_marksC {E : PE} {e b m num kd tw : Nat} {bs : List Nat} (hbm : b ≠ m) : ∀ (k n i : Nat) (σ : PS), bs.length - 2 = i + k → k < n → isE0 σ e b m num kd bs tw → (∀ j, j < 32 → sA σ m j = nI (mc bs j i)) → ∃ g, f_X1_countMarks_L23 E n (some e) (nI i) σ = some ((), pAs m g σ) ∧ ∀ j, j < 32 → g j = nI (marks bs j)
  | 0, n, i, σ, hm, hn, h, hj => by
    obtain ⟨n, rfl⟩ : ∃ z, n = z + 1 := ⟨n - 1, by omega⟩
    refine ⟨sA σ m, ?_, fun j hj2 => by rw [hj j hj2]; unfold marks; rw [hm]; rfl⟩
    rw [f_X1_countMarks_L23, pAs_id]
    have h6 := h.2.2.2.2.2.1.1
    refine e_gi rfl h.1 ?_
    rw [h.2.2.2.1]
    refine e_t ?_ rfl
    show nI bs.length ≤ nI i + nI 2
    rw [nI_add]
    exact nI_le (by omega) (by omega)
  | k + 1, n, i, σ, hm, hn, h, hj => by
    obtain ⟨n, rfl⟩ : ∃ z, n = z + 1 := ⟨n - 1, by omega⟩
    obtain ⟨h1, h2, h3, h4, h5, ⟨h6, h6'⟩, ⟨r1, r2, r3⟩, ⟨q1, q2, q3⟩, h9⟩ := id h
    have b0 := getD_lt h6' i
    have b1 := getD_lt h6' (i + 1)
    have b2 := getD_lt h6' (i + 2)
    have hidx : ((7 : Int32) * sA σ b i + (5 : Int32) * sA σ b (i + 1) + (3 : Int32) * sA σ b (i + 2)) &&& 31 = nI (mk bs i) := by
      rw [h9 i (by omega), h9 (i + 1) (by omega), h9 (i + 2) (by omega), mkI b0 b1 b2]
      exact pk_andN (by omega) 5 (by decide)
    have hlt := mk_lt bs i
    obtain ⟨g, hg, g1⟩ := sp_marksC (E := E) (bs := bs) (num := num) (kd := kd) (tw := tw) hbm k n (i + 1) (pA m (mk bs i) (nI (mc bs (mk bs i) i) + 1) σ) (by omega) (by omega) (by rw [pA_pAs]; exact h.pAs hbm) (fun j hj2 => by
      rw [sA_pA]
      show _ = nI (mc bs j i + if mk bs i = j then 1 else 0)
      by_cases e : j = mk bs i
      · rw [if_pos ⟨rfl, e⟩, if_pos e.symm, ← e, nI_1]
      · rw [if_neg (fun z => e z.2), if_neg (fun z => e z.symm)]
        exact hj j hj2)
    refine ⟨g, ?_, g1⟩
    rw [f_X1_countMarks_L23]
    refine e_gi rfl h1 ?_
    rw [h4]
    refine e_f ?_ ?_
    · show ¬ nI bs.length ≤ nI i + nI 2
      rw [nI_add]
      exact nI_ge (by omega) (by omega)
    refine e_gr rfl h1 (e_gr rfl h1 (e_al r1 rfl r2 (by omega) (by omega) (e_gr rfl h1 (e_al r1 (nI_1 i) r2 (by omega) (by omega) (e_gr rfl h1 (e_al (j := i + 2) r1 ?_ r2 (by omega) (by omega) ?_))))))
    · exact nI_add i 2
    refine e_al q1 hidx q2 (by omega) (by omega) (e_as q1 hidx q2 (by omega) (by omega) ?_)
    rw [hj _ hlt, nI_1, hg, pA_pAs, pAs_pAs]
theorem sp_countMarks {E : PE} {σ : PS} {e b m num kd tw : Nat} {bs : List Nat} (hE : 100 ≤ E.1) (hw : Wf E σ) (hO : Ok E σ) (h : isE0 σ e b m num kd bs tw) : ∃ g, f_X1_countMarks E (some e) σ = some ((), pAs m g σ) ∧ isE (pAs m g σ) e num kd bs tw := by
  have hbm := h.bm hw
  have h6 := h.2.2.2.2.2.1.1
  obtain ⟨r1, r2, r3⟩ := h.2.2.2.2.2.2.2.1
  obtain ⟨g, hg, g0, -⟩ := sp_marksZ (E := E) 32 E.1 0 σ (by omega) (by omega) h.1 r1 r2 r3
  obtain ⟨g2, hg2, g3⟩ := sp_marksC (E := E) (bs := bs) (num := num) (kd := kd) (tw := tw) hbm (bs.length - 2) E.1 0 (pAs m g σ) (by omega) (by omega) (h.pAs hbm) (fun j hj => by
    rw [sA_pAs, if_pos rfl, g0 j (by omega) hj]; rfl)
  refine ⟨g2, ?_, b, m, h.pAs hbm, fun j hj => by rw [sA_pAs, if_pos rfl]; exact g3 j hj⟩
  refine oM_to ?_ (Nat.le_refl _) (Nat.le_refl _) hO.1 hO.2
  show f_X1_countMarks_L2 E E.1 (some e) (nI 0) σ = _
  rw [hg]
  show f_X1_countMarks_L23 E E.1 (some e) (nI 0) (pAs m g σ) = _
  rw [hg2, pAs_pAs]
