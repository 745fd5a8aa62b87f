/-! THE DOCUMENT's NUMBERS -/
def sm (f : Nat → Nat) : Nat → Nat
  | 0 => 0
  | n + 1 => sm f n + f n
theorem sm_le {f : Nat → Nat} {c : Nat} (h : ∀ i, f i ≤ c) : ∀ n, sm f n ≤ c * n
  | 0 => Nat.zero_le _
  | n + 1 => by
    have := sm_le h n
    have := h n
    show sm f n + f n ≤ c * (n + 1)
    rw [Nat.mul_succ]
    omega
theorem sm_congr {f g : Nat → Nat} : ∀ n, (∀ i, i < n → f i = g i) → sm f n = sm g n
  | 0, _ => rfl
  | n + 1, h => by
    show sm f n + f n = sm g n + g n
    rw [sm_congr n (fun i hi => h i (by omega)), h n (by omega)]
theorem sm_add (f g : Nat → Nat) : ∀ n, sm (fun i => f i + g i) n = sm f n + sm g n
  | 0 => rfl
  | n + 1 => by
    show sm (fun i => f i + g i) n + (f n + g n) = sm f n + f n + (sm g n + g n)
    rw [sm_add f g n]
    omega
theorem sm_zero : ∀ n, sm (fun _ => 0) n = 0
  | 0 => rfl
  | n + 1 => by show sm (fun _ => 0) n + 0 = 0; rw [sm_zero n]
theorem sm_one {k : Nat} : ∀ n, sm (fun m => if k = m then 1 else 0) n = if k < n then 1 else 0
  | 0 => by simp [sm]
  | n + 1 => by
    show sm (fun m => if k = m then 1 else 0) n + (if k = n then 1 else 0) = _
    rw [sm_one n]
    by_cases h1 : k < n
    · rw [if_pos h1, if_neg (by omega), if_pos (by omega)]
    · by_cases h2 : k = n
      · rw [if_neg h1, if_pos h2, if_pos (by omega)]
      · rw [if_neg h1, if_neg h2, if_neg (by omega)]
/-- the MARK at a place -/
def mk (l : List Nat) (i : Nat) : Nat := (7 * l.getD i 0 + 5 * l.getD (i + 1) 0 + 3 * l.getD (i + 2) 0) % 32
def mc (l : List Nat) (m : Nat) : Nat → Nat
  | 0 => 0
  | n + 1 => mc l m n + if mk l n = m then 1 else 0
/-- how many MARKS m -/
def marks (l : List Nat) (m : Nat) : Nat := mc l m (l.length - 2)
def ad (a b : Nat) : Nat := (a - b) + (b - a)
def commonN (l1 l2 : List Nat) : Nat := sm (fun m => min (marks l1 m) (marks l2 m)) 32
def distN (l1 l2 : List Nat) : Nat := ad l1.length l2.length + sm (fun m => ad (marks l1 m) (marks l2 m)) 32
theorem mk_lt (l : List Nat) (i : Nat) : mk l i < 32 := Nat.mod_lt _ (by decide)
theorem mc_le (l : List Nat) (m : Nat) : ∀ n, mc l m n ≤ n
  | 0 => Nat.le_refl 0
  | n + 1 => by
    have := mc_le l m n
    show mc l m n + (if mk l n = m then 1 else 0) ≤ n + 1
    split <;> omega
theorem marks_le (l : List Nat) (m : Nat) : marks l m ≤ l.length := by
  have := mc_le l m (l.length - 2)
  unfold marks
  omega
theorem sm_mc (l : List Nat) : ∀ n, sm (fun m => mc l m n) 32 = n
  | 0 => sm_zero 32
  | n + 1 => by
    have e : (fun m => mc l m (n + 1)) = fun m => mc l m n + (if mk l n = m then 1 else 0) := rfl
    rw [e, sm_add, sm_mc l n, sm_one, if_pos (mk_lt l n)]
theorem sm_marks (l : List Nat) : sm (marks l) 32 = l.length - 2 := sm_mc l (l.length - 2)
theorem commonN_le {l1 l2 : List Nat} (h1 : l1.length ≤ 60) : commonN l1 l2 ≤ 1920 := by
  have := sm_le (f := fun m => min (marks l1 m) (marks l2 m)) (c := 60) (fun i => Nat.le_trans (Nat.min_le_left _ _) (Nat.le_trans (marks_le l1 i) h1)) 32
  unfold commonN
  omega
theorem ad_le {a b c : Nat} (h1 : a ≤ c) (h2 : b ≤ c) : ad a b ≤ c := by unfold ad; omega
theorem distN_le {l1 l2 : List Nat} (h1 : l1.length ≤ 60) (h2 : l2.length ≤ 60) : distN l1 l2 ≤ 1980 := by
  have := sm_le (f := fun m => ad (marks l1 m) (marks l2 m)) (c := 60) (fun i => ad_le (Nat.le_trans (marks_le l1 i) h1) (Nat.le_trans (marks_le l2 i) h2)) 32
  have := ad_le h1 h2
  unfold distN
  omega
/-- an int array, all of it -/
def pAs (a : Nat) (f : Nat → Int32) (σ : PS) : PS := (σ.1, σ.2.1, σ.2.2.1, (fun b j => if b = a then f j else sA σ b j), σ.2.2.2.2)
theorem sA_pAs (a : Nat) (f : Nat → Int32) (σ : PS) (b j : Nat) : sA (pAs a f σ) b j = if b = a then f j else sA σ b j := rfl
theorem pA_pAs (a i : Nat) (v : Int32) (σ : PS) : pA a i v σ = pAs a (fun j => if j = i then v else sA σ a j) σ := by
  have e : (fun b j => if b = a ∧ j = i then v else sA σ b j) = (fun b j => if b = a then (if j = i then v else sA σ a j) else sA σ b j) := by
    funext b j
    by_cases hb : b = a
    · subst hb
      by_cases hj : j = i
      · rw [if_pos ⟨rfl, hj⟩, if_pos rfl, if_pos hj]
      · rw [if_neg (fun z => hj z.2), if_pos rfl, if_neg hj]
    · rw [if_neg (fun z => hb z.1), if_neg hb]
  show (σ.1, σ.2.1, σ.2.2.1, _, σ.2.2.2.2) = (σ.1, σ.2.1, σ.2.2.1, _, σ.2.2.2.2)
  rw [e]
theorem pAs_pAs (a : Nat) (f g : Nat → Int32) (σ : PS) : pAs a g (pAs a f σ) = pAs a g σ := by
  have e : (fun b j => if b = a then g j else sA (pAs a f σ) b j) = (fun b j => if b = a then g j else sA σ b j) := by
    funext b j
    by_cases hb : b = a
    · rw [if_pos hb, if_pos hb]
    · rw [if_neg hb, if_neg hb, sA_pAs, if_neg hb]
  show (σ.1, σ.2.1, σ.2.2.1, _, σ.2.2.2.2) = (σ.1, σ.2.1, σ.2.2.1, _, σ.2.2.2.2)
  rw [e]
theorem pAs_id (a : Nat) (σ : PS) : pAs a (sA σ a) σ = σ := by
  have e : (fun b j => if b = a then sA σ a j else sA σ b j) = sA σ := by
    funext b j
    by_cases hb : b = a
    · rw [if_pos hb, hb]
    · rw [if_neg hb]
  show (σ.1, σ.2.1, σ.2.2.1, _, σ.2.2.2.2) = σ
  rw [e]
  rfl
theorem dEq_pAs {σ : PS} {a b : Nat} {f : Nat → Int32} (h : b ≠ a) : dEq σ (pAs a f σ) b := by
  refine ⟨rfl, fun _ _ => rfl, fun _ _ => rfl, fun j => ?_, fun _ => rfl, fun _ => rfl⟩
  rw [sA_pAs, if_neg h]
theorem Fr.pAs {a : Nat} {f : Nat → Int32} {σ : PS} : Fr σ (pAs a f σ) (fun b => b = a) := ⟨Nat.le_refl _, Nat.le_refl _, fun _ _ => rfl, fun _ _ => rfl, fun _ _ h => dEq_pAs h⟩
/-- the machine's word for a MARK -/
theorem mkI {a b c : Nat} (ha : a < 256) (hb : b < 256) (hc : c < 256) : (7 : Int32) * nI a + (5 : Int32) * nI b + (3 : Int32) * nI c = nI (7 * a + 5 * b + 3 * c) := by
  have e1 : (7 : Int32) * nI a = nI (7 * a) := pk_mul 7 a
  have e2 : (5 : Int32) * nI b = nI (5 * b) := pk_mul 5 b
  have e3 : (3 : Int32) * nI c = nI (3 * c) := pk_mul 3 c
  rw [e1, e2, e3, nI_add, nI_add]
theorem adI {a b : Nat} (ha : a < 2 ^ 30) (hb : b < 2 ^ 30) : (if 0 ≤ nI a - nI b then nI a - nI b else 0 - (nI a - nI b)) = nI (ad a b) := by
  unfold ad
  by_cases h : b ≤ a
  · have e : nI a - nI b = nI (a - b) := pk_sub h
    rw [e, if_pos (nI_pos' (by omega))]
    congr 1
    omega
  · have hn : nI a - nI b < 0 := pk_sneg hb (by omega)
    rw [if_neg (Int32.not_le.mpr hn)]
    have e : nI b - nI a = nI (b - a) := pk_sub (by omega)
    have e2 : 0 - (nI a - nI b) = nI b - nI a := by
      rw [Int32.zero_sub, Int32.neg_sub]
    rw [e2, e]
    congr 1
    omega
