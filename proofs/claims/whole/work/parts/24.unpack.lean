/-- how many TOKENS are gone through till n bytes are there -/
def till : List (Nat × Nat × Nat) → Nat → Nat
  | [], _ => 0
  | t :: r, n => if n = 0 then 0 else 1 + till r (n - t.2.2)
theorem till_le : ∀ (T : List (Nat × Nat × Nat)) (n : Nat), till T n ≤ T.length
  | [], _ => Nat.le_refl _
  | t :: r, n => by
    have := till_le r (n - t.2.2)
    unfold till
    rw [List.length_cons]
    split <;> omega
theorem till_0 (T : List (Nat × Nat × Nat)) : till T 0 = 0 := by cases T <;> rfl
theorem isT.rd {σ : PS} {t : Nat} {T : List (Nat × Nat × Nat)} (h : isT σ t T) : ∃ va ba ma, (sR σ 5 0 t = some va ∧ sK σ va = some 100 ∧ sL σ va = 400) ∧ (sR σ 5 1 t = some ba ∧ sK σ ba = some 100 ∧ sL σ ba = 400) ∧ (sR σ 5 2 t = some ma ∧ sK σ ma = some 100 ∧ sL σ ma = 400) ∧ ∀ i, i < T.length → sA σ va i = tokV (T.getD i (0, 0, 0)) ∧ sA σ ba i = nI (T.getD i (0, 0, 0)).2.1 ∧ sA σ ma i = nI (T.getD i (0, 0, 0)).2.2 := h.2.2.2.2
theorem drop_cons {α : Type} {T : List α} {i : Nat} (h : i < T.length) (d : α) : T.drop i = T.getD i d :: T.drop (i + 1) := by
  rw [List.getD_eq_getElem?_getD, List.getElem?_eq_getElem h, Option.getD_some]
  exact List.drop_eq_getElem_cons h
theorem sp_tillL {E : PE} {σ : PS} {t b : Nat} {T : List (Nat × Nat × Nat)} (h : isT σ t T) (hT : ∀ x ∈ T, x.2.2 ≤ 60) (hb : b ≤ 100000) : ∀ (k n i th : Nat), T.length = i + k → k < n → th ≤ 60 * i → f_X4_tokensTill_L4 E n (some t) (nI b) (nI th) (nI i) σ = some (nI (i + till (T.drop i) (b - th)), σ)
  | 0, n, i, th, hm, hn, ht => by
    obtain ⟨n, rfl⟩ : ∃ z, n = z + 1 := ⟨n - 1, by omega⟩
    have h4 := h.2.2.2.1
    rw [f_X4_tokensTill_L4]
    refine e_gi rfl h.1 ?_
    rw [h.2.1]
    refine e_t (nI_le (by omega) (by omega)) (e_gi rfl h.1 ?_)
    rw [h.2.1, List.drop_eq_nil_of_le (by omega)]
    show some (nI T.length, σ) = some (nI (i + 0), σ)
    rw [hm]
  | k + 1, n, i, th, hm, hn, ht => by
    obtain ⟨n, rfl⟩ : ∃ z, n = z + 1 := ⟨n - 1, by omega⟩
    have h4 := h.2.2.2.1
    have ih := fun th' h' => sp_tillL (E := E) h hT hb k n (i + 1) th' (by omega) (by omega) h'
    obtain ⟨va, ba, ma, -, -, ⟨m1, m2, m3⟩, h5⟩ := h.rd
    rw [f_X4_tokensTill_L4]
    refine e_gi rfl h.1 ?_
    rw [h.2.1]
    refine e_f (nI_ge (by omega) (by omega)) ?_
    have hd := drop_cons (T := T) (i := i) (by omega) (0, 0, 0)
    have hmem : (T.getD i (0, 0, 0)).2.2 ≤ 60 := by
      refine hT _ ?_
      rw [List.getD_eq_getElem?_getD, List.getElem?_eq_getElem (by omega)]
      exact List.getElem_mem _
    rw [hd]
    unfold till
    by_cases e : th < b
    · refine e_t (nI_lt e (by omega)) (e_gr rfl h.1 (e_al m1 rfl m2 (by omega) (by omega) ?_))
      rw [(h5 i (by omega)).2.2, nI_add, nI_1, ih _ (by omega), if_neg (by omega)]
      congr 3
      rw [Nat.sub_sub]
      omega
    · refine e_f (nI_nlt (by omega) (by omega)) ?_
      rw [if_pos (by omega)]
      rfl
theorem sp_tokensTill {E : PE} {σ : PS} {t b : Nat} {T : List (Nat × Nat × Nat)} (hE : 1000 ≤ E.1) (hO : Ok E σ) (h : isT σ t T) (hT : ∀ x ∈ T, x.2.2 ≤ 60) (hb : b ≤ 100000) : f_X4_tokensTill E (some t) (nI b) σ = some (nI (till T b), σ) := by
  have h4 := h.2.2.2.1
  refine oM_rd hO ?_
  have := sp_tillL (E := E) h hT hb T.length E.1 0 0 (by omega) (by omega) (by omega)
  rw [List.drop_zero, Nat.zero_add, Nat.sub_zero] at this
  exact this
/-! what the TOKENS of a row tell -/
theorem tokF_many (c : List Nat) : ∀ k p, ∀ x ∈ tokF c k p, 1 ≤ x.2.2 ∧ x.2.2 ≤ 60
  | 0, p, x, h => by cases h
  | k + 1, p, x, h => by
    unfold tokF at h
    have hf := fc_le c p (min 60 (c.length - p)) p
    split at h
    · cases h
    · split at h
      · rcases List.mem_cons.mp h with e | e
        · rw [e]; exact ⟨Nat.le_refl _, by show 1 ≤ 60; omega⟩
        · exact tokF_many c k (p + 1) x e
      · rcases List.mem_cons.mp h with e | e
        · rw [e]; exact ⟨by show 1 ≤ (fc c p _ p).2; omega, by show (fc c p _ p).2 ≤ 60; omega⟩
        · exact tokF_many c k _ x e
theorem toks_many (c : List Nat) : ∀ x ∈ toks c, x.2.2 ≤ 60 := fun x h => (tokF_many c _ _ x h).2
theorem tokF_len (c : List Nat) : ∀ k p, (tokF c k p).length ≤ k
  | 0, p => Nat.le_refl _
  | k + 1, p => by
    unfold tokF
    split
    · exact Nat.zero_le _
    · split
      · rw [List.length_cons]; have := tokF_len c k (p + 1); omega
      · rw [List.length_cons]; have := tokF_len c k (p + (fc c p (min 60 (c.length - p)) p).2); omega
theorem toks_len (c : List Nat) : (toks c).length ≤ c.length := tokF_len c _ _
/-- the token in which byte p lies, and what it says of it -/
def tells (c : List Nat) (p : Nat) (x : Nat × Nat × Nat) : Prop := (x.2.1 = 0 ∧ x.1 = c.getD p 0) ∨ (1 ≤ x.2.1 ∧ x.2.1 ≤ p ∧ c.getD (p - x.2.1) 0 = c.getD p 0)
theorem tokF_tells (c : List Nat) : ∀ k p0 p, p0 ≤ p → p < c.length → c.length ≤ p0 + k → 0 < till (tokF c k p0) (p - p0 + 1) ∧ till (tokF c k p0) (p - p0 + 1) ≤ (tokF c k p0).length ∧ tells c p ((tokF c k p0).getD (till (tokF c k p0) (p - p0 + 1) - 1) (0, 0, 0))
  | 0, p0, p, h1, h2, h3 => by omega
  | k + 1, p0, p, h1, h2, h3 => by
    have hf := fc_le c p0 (min 60 (c.length - p0)) p0
    have hpos := fc_pos c p0 (min 60 (c.length - p0)) p0
    have hlt : ¬ c.length ≤ p0 := by omega
    have key : ∀ (x : Nat × Nat × Nat), 1 ≤ x.2.2 → (∀ q, p0 ≤ q → q < p0 + x.2.2 → q < c.length → tells c q x) → 0 < till (x :: tokF c k (p0 + x.2.2)) (p - p0 + 1) ∧ till (x :: tokF c k (p0 + x.2.2)) (p - p0 + 1) ≤ (x :: tokF c k (p0 + x.2.2)).length ∧ tells c p ((x :: tokF c k (p0 + x.2.2)).getD (till (x :: tokF c k (p0 + x.2.2)) (p - p0 + 1) - 1) (0, 0, 0)) := by
      intro x hx ht
      by_cases e : p < p0 + x.2.2
      · have e1 : till (x :: tokF c k (p0 + x.2.2)) (p - p0 + 1) = 1 := by
          unfold till
          rw [if_neg (by omega), show p - p0 + 1 - x.2.2 = 0 by omega, till_0]
        rw [e1, List.length_cons]
        exact ⟨by omega, by omega, ht p h1 e h2⟩
      · obtain ⟨i1, i2, i3⟩ := tokF_tells c k (p0 + x.2.2) p (by omega) h2 (by omega)
        have e1 : till (x :: tokF c k (p0 + x.2.2)) (p - p0 + 1) = 1 + till (tokF c k (p0 + x.2.2)) (p - (p0 + x.2.2) + 1) := by
          show (if p - p0 + 1 = 0 then 0 else 1 + till (tokF c k (p0 + x.2.2)) (p - p0 + 1 - x.2.2)) = _
          rw [if_neg (by omega)]
          congr 2
          omega
        rw [e1, List.length_cons]
        refine ⟨by omega, by omega, ?_⟩
        obtain ⟨z, hz⟩ : ∃ z, till (tokF c k (p0 + x.2.2)) (p - (p0 + x.2.2) + 1) = z + 1 := ⟨_, (Nat.succ_pred_eq_of_pos i1).symm⟩
        rw [hz] at i3 ⊢
        have e2 : 1 + (z + 1) - 1 = z + 1 := by omega
        rw [e2, List.getD_cons_succ]
        exact i3
    unfold tokF
    rw [if_neg hlt]
    split
    · refine key (c.getD p0 0, 0, 1) (Nat.le_refl _) (fun q a b _ => Or.inl ⟨rfl, ?_⟩)
      have : q = p0 := by have : q < p0 + 1 := b; omega
      rw [this]
    · next e4 =>
      obtain ⟨g1, g2⟩ := hpos (by omega)
      refine key (0, (fc c p0 (min 60 (c.length - p0)) p0).1, (fc c p0 (min 60 (c.length - p0)) p0).2) (by show 1 ≤ (fc c p0 _ p0).2; omega) (fun q a b _ => Or.inr ⟨g1, by show (fc c p0 _ p0).1 ≤ q; omega, ?_⟩)
      have b : q < p0 + (fc c p0 (min 60 (c.length - p0)) p0).2 := b
      rw [g2] at b
      have hs := same_eq c (p0 - (fc c p0 (min 60 (c.length - p0)) p0).1) p0 (min 60 (c.length - p0)) 0 (q - p0) (by omega) (by omega)
      show c.getD (q - (fc c p0 (min 60 (c.length - p0)) p0).1) 0 = c.getD q 0
      have e5 : p0 - (fc c p0 (min 60 (c.length - p0)) p0).1 + (q - p0) = q - (fc c p0 (min 60 (c.length - p0)) p0).1 := by omega
      have e6 : p0 + (q - p0) = q := by omega
      rw [e5, e6] at hs
      exact hs
theorem toks_tells (c : List Nat) {p : Nat} (h : p < c.length) : 0 < till (toks c) (p + 1) ∧ till (toks c) (p + 1) ≤ (toks c).length ∧ tells c p ((toks c).getD (till (toks c) (p + 1) - 1) (0, 0, 0)) := by
  have := tokF_tells c c.length 0 p (Nat.zero_le _) h (by omega)
  rw [Nat.sub_zero] at this
  exact this
theorem neg1_ne {x : Nat} (h : x < 256) : ¬ nI x = -1 := by
  intro e
  have h1 : (nI x).toInt = (x : Int) := nI_toInt (by omega)
  rw [e] at h1
  have : (-1 : Int32).toInt = -1 := by decide
  omega
theorem sp_unpackL {E : PE} {σ : PS} {t pl : Nat} {c : List Nat} (hE : 1000 ≤ E.1) (hO : Ok E σ) (h : isT σ t (toks c)) (hc : c.length ≤ 400) (hb : ∀ x ∈ c, x < 256) (hpl : pl < c.length) : ∀ (n at_ hop : Nat), at_ < n → at_ + hop ≤ pl → f_X4_unpack_L4 E n (some t) (nI pl) (nI at_) (nI hop) σ = some (nI (c.getD at_ 0), σ)
  | 0, at_, hop, h1, h2 => by omega
  | n + 1, at_, hop, h1, h2 => by
    have h4 := h.2.2.2.1
    obtain ⟨va, ba, ma, ⟨a1, a2, a3⟩, ⟨b1, b2, b3⟩, -, h5⟩ := h.rd
    obtain ⟨t1, t2, t3⟩ := toks_tells c (p := at_) (by omega)
    rw [f_X4_unpack_L4]
    refine e_f (nI_nlt (by omega) (by omega)) (e_f (nI_pos (by omega)) (e_K rfl h.1 ?_))
    rw [nI_1]
    refine bd_rd (sp_tokensTill hE hO h (toks_many c) (by omega)) ?_
    have hm1 : nI (till (toks c) (at_ + 1)) - 1 = nI (till (toks c) (at_ + 1) - 1) := pk_sub (a := till (toks c) (at_ + 1)) (b := 1) t1
    rw [hm1]
    generalize hj : till (toks c) (at_ + 1) - 1 = j at t3 hm1 ⊢
    have hjl : j < (toks c).length := by omega
    obtain ⟨v5, v6, -⟩ := h5 j hjl
    refine e_t (nI_pos' (by omega)) (e_gr rfl h.1 (e_al a1 rfl a2 (by omega) (by omega) ?_))
    rw [v5]
    rcases t3 with ⟨e1, e2⟩ | ⟨e1, e2, e3⟩
    · have hv : tokV ((toks c).getD j (0, 0, 0)) = nI (c.getD at_ 0) := by unfold tokV; rw [if_pos e1, e2]
      rw [hv]
      refine e_f (neg1_ne (getD_lt hb _)) (e_gr rfl h.1 (e_al a1 rfl a2 (by omega) (by omega) ?_))
      rw [v5, hv]
    · have hv : tokV ((toks c).getD j (0, 0, 0)) = -1 := by unfold tokV; rw [if_neg (by omega)]
      rw [hv]
      refine e_t rfl (e_gr rfl h.1 (e_al b1 rfl b2 (by omega) (by omega) ?_))
      rw [v6, pk_sub e2, nI_1, sp_unpackL hE hO h hc hb hpl n _ _ (by omega) (by omega), e3]
theorem sp_unpack {E : PE} {σ : PS} {t p : Nat} {c : List Nat} (hE : 1000 ≤ E.1) (hO : Ok E σ) (h : isT σ t (toks c)) (hc : c.length ≤ 400) (hb : ∀ x ∈ c, x < 256) (hp : p < c.length) : f_X4_unpack E (some t) (nI p) σ = some (nI (c.getD p 0), σ) :=
  oM_rd hO (sp_unpackL hE hO h hc hb hp E.1 p 0 (by omega) (by omega))
