/-! TOKENS -/
/-- how many bytes are the same, from a start on, k more at most -/
def same (c : List Nat) (q p : Nat) : Nat → Nat → Nat
  | 0, s => s
  | k + 1, s => if c.getD (q + s) 0 = c.getD (p + s) 0 then same c q p k (s + 1) else s
theorem same_le (c : List Nat) (q p : Nat) : ∀ k s, s ≤ same c q p k s ∧ same c q p k s ≤ s + k
  | 0, s => ⟨Nat.le_refl _, Nat.le_refl _⟩
  | k + 1, s => by
    unfold same
    have := same_le c q p k (s + 1)
    split <;> omega
theorem same_eq (c : List Nat) (q p : Nat) : ∀ k s i, s ≤ i → i < same c q p k s → c.getD (q + i) 0 = c.getD (p + i) 0
  | 0, s, i, h1, h2 => by unfold same at h2; omega
  | k + 1, s, i, h1, h2 => by
    unfold same at h2
    split at h2
    · next e =>
      by_cases z : i = s
      · rw [z]; exact e
      · exact same_eq c q p k (s + 1) i (by omega) h2
    · omega
/-- the longest, of like ones the nearest, of those that go back by 1 to f -/
def fc (c : List Nat) (p most : Nat) : Nat → Nat × Nat
  | 0 => (0, 0)
  | f + 1 => if (fc c p most f).2 < same c (p - (f + 1)) p most 0 then (f + 1, same c (p - (f + 1)) p most 0) else fc c p most f
theorem fc_le (c : List Nat) (p most : Nat) : ∀ f, (fc c p most f).2 ≤ most ∧ (fc c p most f).1 ≤ f
  | 0 => ⟨Nat.zero_le _, Nat.zero_le _⟩
  | f + 1 => by
    have h1 := fc_le c p most f
    have h2 := same_le c (p - (f + 1)) p most 0
    unfold fc
    split
    · exact ⟨by show same c _ p most 0 ≤ most; omega, Nat.le_refl _⟩
    · omega
theorem fc_full (c : List Nat) (p most : Nat) {f : Nat} (h : most ≤ (fc c p most f).2) : ∀ k, fc c p most (f + k) = fc c p most f
  | 0 => rfl
  | k + 1 => by
    have h2 := same_le c (p - (f + k + 1)) p most 0
    show (if (fc c p most (f + k)).2 < same c (p - (f + k + 1)) p most 0 then _ else fc c p most (f + k)) = _
    rw [fc_full c p most h k, if_neg (by omega)]
theorem fc_pos (c : List Nat) (p most : Nat) : ∀ f, 0 < (fc c p most f).2 → 1 ≤ (fc c p most f).1 ∧ (fc c p most f).2 = same c (p - (fc c p most f).1) p most 0
  | 0, h => by exact absurd h (by show ¬ 0 < 0; omega)
  | f + 1, h => by
    unfold fc at h ⊢
    split
    · exact ⟨by show 1 ≤ f + 1; omega, rfl⟩
    · next e =>
      rw [if_neg e] at h
      exact fc_pos c p most f h
/-- the TOKENS from a place on: a BYTE (x, 0, 1), a COPY (0, back, many) -/
def tokF (c : List Nat) : Nat → Nat → List (Nat × Nat × Nat)
  | 0, _ => []
  | k + 1, p => if c.length ≤ p then [] else if (fc c p (min 60 (c.length - p)) p).2 < 4 then (c.getD p 0, 0, 1) :: tokF c k (p + 1) else (0, (fc c p (min 60 (c.length - p)) p).1, (fc c p (min 60 (c.length - p)) p).2) :: tokF c k (p + (fc c p (min 60 (c.length - p)) p).2)
def toks (c : List Nat) : List (Nat × Nat × Nat) := tokF c c.length 0
def tsz (t : Nat × Nat × Nat) : Nat := if t.2.1 = 0 then 1 else 3
def sizeT : List (Nat × Nat × Nat) → Nat
  | [] => 0
  | t :: r => tsz t + sizeT r
theorem sizeT_app (T : List (Nat × Nat × Nat)) (t : Nat × Nat × Nat) : sizeT (T ++ [t]) = sizeT T + tsz t := by
  induction T with
  | nil => simp [sizeT]
  | cons a r ih => simp only [List.cons_append, sizeT, ih]; omega
theorem sizeT_le (T : List (Nat × Nat × Nat)) : sizeT T ≤ 3 * T.length := by
  induction T with
  | nil => simp [sizeT]
  | cons a r ih =>
    have : tsz a ≤ 3 := by unfold tsz; split <;> omega
    simp only [sizeT, List.length_cons]
    omega
def tokV (t : Nat × Nat × Nat) : Int32 := if t.2.1 = 0 then nI t.1 else -1
/-- the rows of a TokenRow hold T -/
def isT (σ : PS) (t : Nat) (T : List (Nat × Nat × Nat)) : Prop :=
  sK σ t = some 5 ∧ sI σ 5 3 t = nI T.length ∧ sI σ 5 4 t = nI (sizeT T) ∧ T.length ≤ 400 ∧ ∃ va ba ma, (sR σ 5 0 t = some va ∧ sK σ va = some 100 ∧ sL σ va = 400) ∧ (sR σ 5 1 t = some ba ∧ sK σ ba = some 100 ∧ sL σ ba = 400) ∧ (sR σ 5 2 t = some ma ∧ sK σ ma = some 100 ∧ sL σ ma = 400) ∧ ∀ i, i < T.length → sA σ va i = tokV (T.getD i (0, 0, 0)) ∧ sA σ ba i = nI (T.getD i (0, 0, 0)).2.1 ∧ sA σ ma i = nI (T.getD i (0, 0, 0)).2.2
def tx (σ : PS) (t b : Nat) : Prop := b = t ∨ sR σ 5 0 t = some b ∨ sR σ 5 1 t = some b ∨ sR σ 5 2 t = some b
theorem sp_tclear {E : PE} {σ : PS} {t : Nat} {T : List (Nat × Nat × Nat)} (hO : Ok E σ) (h : isT σ t T) : wp (f_X4_clear E (some t) σ) (fun _ τ => isT τ t [] ∧ Fr σ τ (fun b => b = t) ∧ Sk σ τ) := by
  obtain ⟨h1, h2, h3, h4, va, ba, ma, r1, r2, r3, h5⟩ := h
  refine wp_oM (E := E) ?_
  unfold g_X4_clear
  refine wp_pi rfl h1 (wp_pi rfl h1 (wp_ret ⟨⟨Nat.le_refl _, Nat.le_refl _, hO.1, hO.2⟩, ?_, ?_, ⟨⟨rfl, rfl⟩, rfl, rfl, rfl⟩⟩))
  · refine ⟨h1, ?_, ?_, by simp, va, ba, ma, r1, r2, r3, fun i hi => by simp at hi⟩
    · rw [sI_pI, if_neg (fun z => absurd z.2.1 (by decide)), sI_pI, if_pos ⟨rfl, rfl, rfl⟩]; rfl
    · rw [sI_pI, if_pos ⟨rfl, rfl, rfl⟩]; rfl
  · exact Fr.pI.tr Fr.pI (fun _ _ z => z) (fun _ _ z => z)
theorem sp_addTok {E : PE} {σ : PS} {t : Nat} {T : List (Nat × Nat × Nat)} (hw : Wf E σ) (hO : Ok E σ) (h : isT σ t T) (hl : T.length < 400) (k : Nat × Nat × Nat) :
    wp (f_X4_addToken E (some t) (tokV k) (nI k.2.1) (nI k.2.2) σ) (fun _ τ => (sI τ 5 4 t = sI σ 5 4 t ∧ isT (pI 5 4 t (nI (sizeT T + tsz k)) τ) t (T ++ [k])) ∧ Fr σ τ (tx σ t) ∧ Sk σ τ) := by
  obtain ⟨h1, h2, h3, h4, va, ba, ma, ⟨a1, a2, a3⟩, ⟨b1, b2, b3⟩, ⟨m1, m2, m3⟩, h5⟩ := h
  have dab : va ≠ ba := fun e => by subst e; exact absurd (hw.uo h1 h1 a1 b1 a2).2.1 (by decide)
  have dam : va ≠ ma := fun e => by subst e; exact absurd (hw.uo h1 h1 a1 m1 a2).2.1 (by decide)
  have dbm : ba ≠ ma := fun e => by subst e; exact absurd (hw.uo h1 h1 b1 m1 b2).2.1 (by decide)
  refine wp_oM (E := E) ?_
  unfold g_X4_addToken
  refine wp_gi rfl h1 ?_
  rw [h2]
  refine wp_f (show ¬ nI 400 ≤ nI T.length from nI_ge hl (by omega)) (wp_gr rfl h1 (wp_gi rfl h1 (wp_as (j := T.length) a1 h2 a2 (by omega) (by omega) (wp_gr rfl h1 (wp_gi rfl h1 (wp_as (j := T.length) b1 h2 b2 (show T.length < sL σ ba by omega) (show sL σ ba < 2 ^ 31 by omega) (wp_gr rfl h1 (wp_gi rfl h1 (wp_as (j := T.length) m1 h2 m2 (show T.length < sL σ ma by omega) (show sL σ ma < 2 ^ 31 by omega) (wp_gi rfl h1 (wp_pi rfl h1 (wp_ret ⟨⟨Nat.le_refl _, Nat.le_refl _, hO.1, hO.2⟩, ⟨?_, ?_⟩, ?_, ⟨⟨rfl, rfl⟩, rfl, rfl, rfl⟩⟩))))))))))))
  · rw [sI_pI, if_neg (fun z => absurd z.2.1 (by decide))]; rfl
  · refine ⟨h1, ?_, ?_, by rw [List.length_append]; show T.length + 1 ≤ 400; omega, va, ba, ma, ⟨a1, a2, a3⟩, ⟨b1, b2, b3⟩, ⟨m1, m2, m3⟩, fun i hi => ?_⟩
    · rw [sI_pI, if_neg (fun z => absurd z.2.1 (by decide)), sI_pI, if_pos ⟨rfl, rfl, rfl⟩, List.length_append]
      show sI σ 5 3 t + 1 = nI (T.length + 1)
      rw [h2, nI_1]
    · rw [sI_pI, if_pos ⟨rfl, rfl, rfl⟩, sizeT_app]
    · rw [List.length_append] at hi
      have hi : i < T.length + 1 := hi
      have two : ∀ (x y : Int32) (c : Prop) (dc : Decidable (c ∧ i = T.length)), c → (if c ∧ i = T.length then x else y) = if i = T.length then x else y := by
        intro x y c dc hc
        by_cases e : i = T.length
        · rw [if_pos ⟨hc, e⟩, if_pos e]
        · rw [if_neg (fun z => e z.2), if_neg e]
      have hA : ∀ (x y z : Int32), (if va = ma ∧ i = T.length then z else if va = ba ∧ i = T.length then y else if va = va ∧ i = T.length then x else sA σ va i) = if i = T.length then x else sA σ va i := by
        intro x y z
        rw [if_neg (fun q => dam q.1), if_neg (fun q => dab q.1), two _ _ _ _ rfl]
      have hB : ∀ (x y z : Int32), (if ba = ma ∧ i = T.length then z else if ba = ba ∧ i = T.length then y else if ba = va ∧ i = T.length then x else sA σ ba i) = if i = T.length then y else sA σ ba i := by
        intro x y z
        rw [if_neg (fun q => dbm q.1), two _ _ _ _ rfl, if_neg (c := ba = va ∧ i = T.length) (fun q => dab q.1.symm)]
      have hM : ∀ (x y z : Int32), (if ma = ma ∧ i = T.length then z else if ma = ba ∧ i = T.length then y else if ma = va ∧ i = T.length then x else sA σ ma i) = if i = T.length then z else sA σ ma i := by
        intro x y z
        rw [two _ _ _ _ rfl, if_neg (c := ma = ba ∧ i = T.length) (fun q => dbm q.1.symm), if_neg (c := ma = va ∧ i = T.length) (fun q => dam q.1.symm)]
      refine ⟨(hA _ _ _).trans ?_, (hB _ _ _).trans ?_, (hM _ _ _).trans ?_⟩
      all_goals by_cases e : i = T.length
      all_goals first
        | (have eg : (T ++ [k]).getD i (0, 0, 0) = k := by
             rw [e, List.getD_eq_getElem?_getD, List.getElem?_append_right (Nat.le_refl _), Nat.sub_self]; rfl
           rw [eg, if_pos e]; done)
        | (have eg : (T ++ [k]).getD i (0, 0, 0) = T.getD i (0, 0, 0) := by
             rw [List.getD_eq_getElem?_getD, List.getD_eq_getElem?_getD, List.getElem?_append_left (by omega)]
           rw [eg, if_neg e]
           first | exact (h5 i (by omega)).1 | exact (h5 i (by omega)).2.1 | exact (h5 i (by omega)).2.2)
  · have f1 := (Fr.pA (a := va) (i := T.length) (v := tokV k) (σ := σ)).wk (Y := tx σ t) (fun b _ z => by rw [z]; exact Or.inr (Or.inl a1))
    have f2 := (Fr.pA (a := ba) (i := T.length) (v := nI k.2.1) (σ := pA va T.length (tokV k) σ)).wk (Y := tx σ t) (fun b _ z => by rw [z]; exact Or.inr (Or.inr (Or.inl b1)))
    have f3 := (Fr.pA (a := ma) (i := T.length) (v := nI k.2.2) (σ := pA ba T.length (nI k.2.1) (pA va T.length (tokV k) σ))).wk (Y := tx σ t) (fun b _ z => by rw [z]; exact Or.inr (Or.inr (Or.inr m1)))
    exact ((f1.tr f2 (fun _ _ z => z) (fun _ _ z => z)).tr f3 (fun _ _ z => z) (fun _ _ z => z)).tr Fr.pI (fun _ _ z => z) (fun _ _ z => Or.inl z)
theorem sp_addByte {E : PE} {σ : PS} {t x : Nat} {T : List (Nat × Nat × Nat)} (hw : Wf E σ) (hO : Ok E σ) (h : isT σ t T) (hl : T.length < 400) :
    wp (f_X4_addByte E (some t) (nI x) σ) (fun _ τ => isT τ t (T ++ [(x, 0, 1)]) ∧ Fr σ τ (tx σ t) ∧ Sk σ τ) := by
  refine wp_oM (E := E) ?_
  unfold g_X4_addByte
  refine wp_K rfl h.1 (wp_bd (sp_addTok hw hO h hl (x, 0, 1)) ?_)
  rintro _ s ⟨⟨e1, e2⟩, h2, h3⟩
  have hk : sK s t = some 5 := by rw [h3.2.1]; exact h.1
  refine wp_gi rfl hk (wp_pi rfl hk (wp_ret ⟨(h3.tr ⟨⟨rfl, rfl⟩, rfl, rfl, rfl⟩ : Sk σ (pI 5 4 t _ s)).bk hO, ?_, h2.tr Fr.pI (fun _ _ z => z) (fun _ _ z => Or.inl z), h3.tr ⟨⟨rfl, rfl⟩, rfl, rfl, rfl⟩⟩))
  rw [e1, h.2.2.1, nI_1]
  exact e2
theorem sp_addCopy {E : PE} {σ : PS} {t b m : Nat} {T : List (Nat × Nat × Nat)} (hw : Wf E σ) (hO : Ok E σ) (h : isT σ t T) (hl : T.length < 400) (hb : 1 ≤ b) :
    wp (f_X4_addCopy E (some t) (nI b) (nI m) σ) (fun _ τ => isT τ t (T ++ [(0, b, m)]) ∧ Fr σ τ (tx σ t) ∧ Sk σ τ) := by
  refine wp_oM (E := E) ?_
  unfold g_X4_addCopy
  have hv : tokV (0, b, m) = -1 := by unfold tokV; rw [if_neg (show ¬ b = 0 by omega)]
  have hz : tsz (0, b, m) = 3 := by unfold tsz; rw [if_neg (show ¬ b = 0 by omega)]
  have run := sp_addTok hw hO h hl (0, b, m)
  rw [hv] at run
  refine wp_K rfl h.1 (wp_bd run ?_)
  rintro _ s ⟨⟨e1, e2⟩, h2, h3⟩
  have hk : sK s t = some 5 := by rw [h3.2.1]; exact h.1
  refine wp_gi rfl hk (wp_pi rfl hk (wp_ret ⟨(h3.tr ⟨⟨rfl, rfl⟩, rfl, rfl, rfl⟩ : Sk σ (pI 5 4 t _ s)).bk hO, ?_, h2.tr Fr.pI (fun _ _ z => z) (fun _ _ z => Or.inl z), h3.tr ⟨⟨rfl, rfl⟩, rfl, rfl, rfl⟩⟩))
  rw [e1, h.2.2.1]
  show isT (pI 5 4 t (nI (sizeT T) + nI 3) s) t _
  rw [nI_add, ← hz]
  exact e2
