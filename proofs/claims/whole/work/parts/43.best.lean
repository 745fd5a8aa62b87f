/-! THE BEST ORDER, by sets -/
def stepO (f : Nat → Nat) (b : Option (Nat × Nat)) (y : Nat) : Option (Nat × Nat) := match b with
  | none => some (y, f y)
  | some p => if f y < p.2 then some (y, f y) else some p
def minO (f : Nat → Nat) (S : List Nat) : Option (Nat × Nat) := S.foldl (stepO f) none
/-- least sum, and the first row that has it: g the step to the first, d the steps on -/
def bestP (d : Nat → Nat → Nat) : Nat → (Nat → Nat) → List Nat → Nat × List Nat
  | 0, _, _ => (0, [])
  | k + 1, g, S => match minO (fun x => g x + (bestP d k (d x) (S.erase x)).1) S with
    | none => (0, [])
    | some m => (m.2, m.1 :: (bestP d k (d m.1) (S.erase m.1)).2)
theorem stepO_of (f : Nat → Nat) : ∀ (S : List Nat) (b : Option (Nat × Nat)), (∀ p, b = some p → p.2 = f p.1) → ∀ p, S.foldl (stepO f) b = some p → p.2 = f p.1 ∧ (p.1 ∈ S ∨ b = some p)
  | [], b, hb, p, h => ⟨hb p h, Or.inr h⟩
  | y :: S, b, hb, p, h => by
    have h : S.foldl (stepO f) (stepO f b y) = some p := h
    have hb' : ∀ q, stepO f b y = some q → q.2 = f q.1 := by
      intro q hq
      cases b with
      | none => cases hq; rfl
      | some b0 =>
        unfold stepO at hq
        simp only [] at hq
        split at hq
        · cases hq; rfl
        · cases hq; exact hb _ rfl
    obtain ⟨h1, h2⟩ := stepO_of f S _ hb' p h
    refine ⟨h1, ?_⟩
    rcases h2 with h2 | h2
    · exact Or.inl (List.mem_cons_of_mem _ h2)
    · cases b with
      | none => cases h2; exact Or.inl (List.mem_cons_self ..)
      | some b0 =>
        unfold stepO at h2
        simp only [] at h2
        split at h2
        · cases h2; exact Or.inl (List.mem_cons_self ..)
        · exact Or.inr h2
theorem minO_of {f : Nat → Nat} {S : List Nat} {p : Nat × Nat} (h : minO f S = some p) : p.2 = f p.1 ∧ p.1 ∈ S := by
  obtain ⟨h1, h2⟩ := stepO_of f S none (fun _ z => nomatch z) p h
  exact ⟨h1, h2.elim id (fun z => nomatch z)⟩
theorem stepO_some (f : Nat → Nat) : ∀ (S : List Nat) (b : Option (Nat × Nat)), b ≠ none → S.foldl (stepO f) b ≠ none
  | [], b, hb => hb
  | y :: S, b, hb => stepO_some f S (stepO f b y) (by
      cases b with
      | none => exact absurd rfl hb
      | some p =>
        unfold stepO
        simp only []
        split
        · exact fun z => nomatch z
        · exact fun z => nomatch z)
theorem minO_none {f : Nat → Nat} {S : List Nat} (h : minO f S = none) : S = [] := by
  cases S with
  | nil => rfl
  | cons y S => exact absurd h (stepO_some f S (some (y, f y)) (fun z => nomatch z))
theorem stepO_congr {f g : Nat → Nat} : ∀ (S : List Nat) (b : Option (Nat × Nat)), (∀ x ∈ S, f x = g x) → S.foldl (stepO f) b = S.foldl (stepO g) b
  | [], _, _ => rfl
  | y :: S, b, h => by
    have e : stepO f b y = stepO g b y := by
      unfold stepO
      rw [h y (List.mem_cons_self ..)]
    show S.foldl (stepO f) (stepO f b y) = S.foldl (stepO g) (stepO g b y)
    rw [e]
    exact stepO_congr S _ (fun x hx => h x (List.mem_cons_of_mem _ hx))
theorem minO_congr {f g : Nat → Nat} {S : List Nat} (h : ∀ x ∈ S, f x = g x) : minO f S = minO g S := stepO_congr S none h
theorem bestP_le {d : Nat → Nat → Nat} {c : Nat} (hd : ∀ a b, d a b ≤ c) : ∀ (k : Nat) (g : Nat → Nat) (S : List Nat), (∀ x, g x ≤ c) → (bestP d k g S).1 ≤ c * k
  | 0, g, S, hg => Nat.zero_le _
  | k + 1, g, S, hg => by
    unfold bestP
    cases hm : minO (fun x => g x + (bestP d k (d x) (S.erase x)).1) S with
    | none => exact Nat.zero_le _
    | some m =>
      have := (minO_of hm).1
      have h1 := bestP_le hd k (d m.1) (S.erase m.1) (hd m.1)
      have h2 := hg m.1
      show m.2 ≤ c * (k + 1)
      rw [this, Nat.mul_succ]
      omega
theorem bestP_perm (d : Nat → Nat → Nat) : ∀ (k : Nat) (g : Nat → Nat) (S : List Nat), S.length = k → ((bestP d k g S).2).Perm S
  | 0, g, S, h => by rw [List.eq_nil_of_length_eq_zero h]; exact List.Perm.refl _
  | k + 1, g, S, h => by
    unfold bestP
    cases hm : minO (fun x => g x + (bestP d k (d x) (S.erase x)).1) S with
    | none => rw [minO_none hm]
    | some m =>
      have hin := (minO_of hm).2
      have ih := bestP_perm d k (d m.1) (S.erase m.1) (by rw [List.length_erase_of_mem hin]; omega)
      exact (List.Perm.cons m.1 ih).trans (List.perm_cons_erase hin).symm
/-! sets as numbers -/
def clr (s x : Nat) : Nat := if s.testBit x then s - 2 ^ x else s
def bitsL (n s : Nat) : List Nat := (List.range' 0 n).filter (fun i => s.testBit i)
theorem bt1 : ∀ s, s < 128 → ∀ x, x < 7 → ((nI s >>> (nI x &&& 31)) &&& (1 : Int32) = 0 ↔ s.testBit x = false) := by decide +kernel
theorem bt2 : ∀ s, s < 128 → ∀ x, x < 7 → nI s &&& (((1 : Int32) <<< (nI x &&& 31)) ^^^ (-1 : Int32)) = nI (clr s x) := by decide +kernel
theorem bt3 : ∀ n, n < 8 → (1 : Int32) <<< (nI n &&& 31) = nI (2 ^ n) := by decide +kernel
theorem bt4 : ∀ s, s < 128 → ∀ x, x < 7 → ∀ i, i < 7 → ((clr s x).testBit i = (s.testBit i && decide (i ≠ x))) := by decide +kernel
theorem clr_lt {s x : Nat} (h : s.testBit x = true) : clr s x < s := by
  unfold clr
  rw [if_pos h]
  have h1 : 2 ^ x ≤ s := Nat.ge_two_pow_of_testBit h
  have h2 := Nat.two_pow_pos x
  omega
theorem bits_clr {n s x : Nat} (hn : n ≤ 7) (hs : s < 128) (hx : x < 7) : bitsL n (clr s x) = (bitsL n s).erase x := by
  have nd : (bitsL n s).Nodup := List.Pairwise.filter _ (List.nodup_range' (step := 1) (by decide))
  rw [nd.erase_eq_filter]
  unfold bitsL
  rw [List.filter_filter]
  refine List.filter_congr (fun i hi => ?_)
  have hi2 : i < 7 := by
    have := List.mem_range'_1.mp hi
    omega
  rw [bt4 s hs x hx i hi2]
  by_cases z : i = x
  · rw [z]; simp
  · simp [z]
theorem bits_mem {n s x : Nat} : x ∈ bitsL n s ↔ x < n ∧ s.testBit x = true := by
  unfold bitsL
  rw [List.mem_filter, List.mem_range'_1]
  constructor
  · intro h; exact ⟨by omega, h.2⟩
  · intro h; exact ⟨⟨by omega, by omega⟩, h.2⟩
