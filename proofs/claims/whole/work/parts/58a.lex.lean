/-! all rows of m places, in their order; the next row -/
def lexP : Nat → List Nat → List (List Nat)
  | 0, _ => [[]]
  | k + 1, S => S.flatMap (fun x => (lexP k (S.erase x)).map (x :: ·))
def swapQ (p : List Nat) (i j : Nat) : List Nat := (p.set i (p.getD j 0)).set j (p.getD i 0)
def revQ : Nat → List Nat → Nat → Nat → List Nat
  | 0, p, _, _ => p
  | c + 1, p, lo, hi => if hi ≤ lo then p else revQ c (swapQ p lo hi) (lo + 1) (hi - 1)
def nextP (p : List Nat) : Option (List Nat) := match lastI (fun i => p.getD i 0 ≤ p.getD (i + 1) 0) (p.length - 1) with
  | none => none
  | some i => match lastI (fun j => p.getD i 0 ≤ p.getD j 0) p.length with
    | none => none
    | some j => some (revQ p.length (swapQ p i j) (i + 1) (p.length - 1))
def chk : List (List Nat) → Bool
  | [] => false
  | p :: r => match r with
    | [] => decide (nextP p = none)
    | q :: _ => decide (nextP p = some q) && chk r
theorem chk_all : ∀ m, m < 7 → chk (lexP (m + 1) (List.range' 0 (m + 1))) = true := by decide +kernel
