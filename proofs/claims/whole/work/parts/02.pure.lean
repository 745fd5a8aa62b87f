/-! THE PURE STATE: cells by address; an object's fields by class number (vwCl), field number, address; arrays by address. Kinds: below 100 a class of vwCl, 100 int[], 101 long[], 102 Object[]. -/
abbrev PS : Type := (Nat × Nat × (Nat → Option Nat) × (Nat → Nat)) × (Nat → Nat → Nat → Int32) × (Nat → Nat → Nat → Option Nat) × (Nat → Nat → Int32) × (Nat → Nat → Option Nat) × (Nat → Nat → Int64)
/-- fuel, the room's end in cells, in slots, the empty array of all lists, the class object of Object[] -/
abbrev PE : Type := Nat × Nat × Nat × Nat × Nat
def sN (σ : PS) : Nat := σ.1.1
def sS (σ : PS) : Nat := σ.1.2.1
def sK (σ : PS) : Nat → Option Nat := σ.1.2.2.1
def sL (σ : PS) : Nat → Nat := σ.1.2.2.2
def sI (σ : PS) : Nat → Nat → Nat → Int32 := σ.2.1
def sR (σ : PS) : Nat → Nat → Nat → Option Nat := σ.2.2.1
def sA (σ : PS) : Nat → Nat → Int32 := σ.2.2.2.1
def sQ (σ : PS) : Nat → Nat → Option Nat := σ.2.2.2.2.1
def sJ (σ : PS) : Nat → Nat → Int64 := σ.2.2.2.2.2
def pI (ci k a : Nat) (v : Int32) (σ : PS) : PS := (σ.1, (fun c j b => if c = ci ∧ j = k ∧ b = a then v else sI σ c j b), σ.2.2)
def pR (ci k a : Nat) (v : Option Nat) (σ : PS) : PS := (σ.1, σ.2.1, (fun c j b => if c = ci ∧ j = k ∧ b = a then v else sR σ c j b), σ.2.2.2)
def pA (a i : Nat) (v : Int32) (σ : PS) : PS := (σ.1, σ.2.1, σ.2.2.1, (fun b j => if b = a ∧ j = i then v else sA σ b j), σ.2.2.2.2)
def pQ (a i : Nat) (v : Option Nat) (σ : PS) : PS := (σ.1, σ.2.1, σ.2.2.1, σ.2.2.2.1, (fun b j => if b = a ∧ j = i then v else sQ σ b j), σ.2.2.2.2.2)
def pJ (a i : Nat) (v : Int64) (σ : PS) : PS := (σ.1, σ.2.1, σ.2.2.1, σ.2.2.2.1, σ.2.2.2.2.1, (fun b j => if b = a ∧ j = i then v else sJ σ b j))
/-- a row of references, all of it -/
def pQs (a : Nat) (f : Nat → Option Nat) (σ : PS) : PS := (σ.1, σ.2.1, σ.2.2.1, σ.2.2.2.1, (fun b j => if b = a then f j else sQ σ b j), σ.2.2.2.2.2)
/-- a new cell of a kind, of n slots: all that it holds is 0 or null -/
def pN (kd n : Nat) (σ : PS) : PS := ((sN σ + 1, sS σ + n, (fun b => if b = sN σ then some kd else sK σ b), (fun b => if b = sN σ then n else sL σ b)), (fun c j b => if b = sN σ then 0 else sI σ c j b), (fun c j b => if b = sN σ then none else sR σ c j b), (fun b j => if b = sN σ then 0 else sA σ b j), (fun b j => if b = sN σ then none else sQ σ b j), (fun b j => if b = sN σ then 0 else sJ σ b j))
def oK (kd : Nat) (r : Option Nat) (σ : PS) : Option Nat := match r with
  | none => none
  | some a => if sK σ a = some kd then some a else none
def oGi (ci k : Nat) (r : Option Nat) (σ : PS) : Option Int32 := (oK ci r σ).bind fun a => some (sI σ ci k a)
def oGr (ci k : Nat) (r : Option Nat) (σ : PS) : Option (Option Nat) := (oK ci r σ).bind fun a => some (sR σ ci k a)
def oPi (ci k : Nat) (r : Option Nat) (v : Int32) (σ : PS) : Option PS := (oK ci r σ).bind fun a => some (pI ci k a v σ)
def oPr (ci k : Nat) (r : Option Nat) (v : Option Nat) (σ : PS) : Option PS := (oK ci r σ).bind fun a => some (pR ci k a v σ)
def oX (kd : Nat) (r : Option Nat) (i : Int32) (σ : PS) : Option Nat := (oK kd r σ).bind fun a => if i < 0 ∨ sL σ a ≤ i.toNatClampNeg then none else some a
def oAl (r : Option Nat) (i : Int32) (σ : PS) : Option Int32 := (oX 100 r i σ).bind fun a => some (sA σ a i.toNatClampNeg)
def oAs (r : Option Nat) (i v : Int32) (σ : PS) : Option PS := (oX 100 r i σ).bind fun a => some (pA a i.toNatClampNeg v σ)
def oJl (r : Option Nat) (i : Int32) (σ : PS) : Option Int64 := (oX 101 r i σ).bind fun a => some (sJ σ a i.toNatClampNeg)
def oJs (r : Option Nat) (i : Int32) (v : Int64) (σ : PS) : Option PS := (oX 101 r i σ).bind fun a => some (pJ a i.toNatClampNeg v σ)
def oQl (r : Option Nat) (i : Int32) (σ : PS) : Option (Option Nat) := (oX 102 r i σ).bind fun a => some (sQ σ a i.toNatClampNeg)
/-- what a place of an Object[] may take: null, or an Entry or a Group -/
def oIs (v : Option Nat) (σ : PS) : Bool := match v with
  | none => true
  | some b => match sK σ b with
    | none => false
    | some k => decide (k = 2 ∨ k = 3)
def oQs (r : Option Nat) (i : Int32) (v : Option Nat) (σ : PS) : Option PS := (oX 102 r i σ).bind fun a => if oIs v σ = true then some (pQ a i.toNatClampNeg v σ) else none
def oLn (E : PE) (r : Option Nat) (σ : PS) : Option Int32 := match r with
  | none => none
  | some a => if a = E.2.2.2.1 then some 0 else match sK σ a with
    | none => none
    | some k => if k = 100 ∨ k = 101 ∨ k = 102 then some (Int32.ofNat (sL σ a)) else none
def oNw (E : PE) (ci n : Nat) (σ : PS) : Option (Option Nat × PS) := if sN σ + 1 ≤ E.2.1 ∧ sS σ + n ≤ E.2.2.1 then some (some (sN σ), pN ci n σ) else none
def oNa (E : PE) (kd : Nat) (x : Int32) (σ : PS) : Option (Option Nat × PS) := if ¬ x < 0 ∧ x.toNatClampNeg * 8 ≤ 536870912 ∧ sN σ + 1 ≤ E.2.1 ∧ sS σ + x.toNatClampNeg ≤ E.2.2.1 then some (some (sN σ), pN kd x.toNatClampNeg σ) else none
/-- a method's whole run: it makes, never takes away, and stays in the room -/
def oM {α : Type} (E : PE) (σ : PS) (r : Option (α × PS)) : Option (α × PS) := r.bind fun q => if sN σ ≤ sN q.2 ∧ sS σ ≤ sS q.2 ∧ sN q.2 ≤ E.2.1 ∧ sS q.2 ≤ E.2.2.1 then some q else none
theorem oM_of {α : Type} {E : PE} {σ σ' : PS} {r : Option (α × PS)} {v : α} (h : oM E σ r = some (v, σ')) : r = some (v, σ') ∧ sN σ ≤ sN σ' ∧ sS σ ≤ sS σ' ∧ sN σ' ≤ E.2.1 ∧ sS σ' ≤ E.2.2.1 := by
  unfold oM at h
  cases r with
  | none => cases h
  | some q =>
    simp only [Option.bind_some] at h
    split at h
    · next hc => cases h; exact ⟨rfl, hc⟩
    · cases h
theorem oM_to {α : Type} {E : PE} {σ σ' : PS} {r : Option (α × PS)} {v : α} (h : r = some (v, σ')) (h1 : sN σ ≤ sN σ') (h2 : sS σ ≤ sS σ') (h3 : sN σ' ≤ E.2.1) (h4 : sS σ' ≤ E.2.2.1) : oM E σ r = some (v, σ') := by
  subst h
  simp only [oM, Option.bind_some]
  rw [if_pos ⟨h1, h2, h3, h4⟩]
theorem ob_s {α β : Type} {x : Option α} {f : α → Option β} {y : β} (h : x.bind f = some y) : ∃ a, x = some a ∧ f a = some y := by
  cases x with
  | none => cases h
  | some a => exact ⟨a, rfl, h⟩
theorem oK_of {kd : Nat} {r : Option Nat} {σ : PS} {a : Nat} (h : oK kd r σ = some a) : r = some a ∧ sK σ a = some kd := by
  cases r with
  | none => cases h
  | some b =>
    simp only [oK] at h
    split at h
    · next hc => cases h; exact ⟨rfl, hc⟩
    · cases h
theorem oX_of {kd : Nat} {r : Option Nat} {i : Int32} {σ : PS} {a : Nat} (h : oX kd r i σ = some a) : r = some a ∧ sK σ a = some kd ∧ vp_in i (sL σ a) := by
  obtain ⟨b, h1, h2⟩ := ob_s h
  obtain ⟨e1, e2⟩ := oK_of h1
  split at h2
  · cases h2
  · next hc => cases h2; exact ⟨e1, e2, hc⟩
theorem oGi_of {ci k : Nat} {r : Option Nat} {σ : PS} {x : Int32} (h : oGi ci k r σ = some x) : ∃ a, r = some a ∧ sK σ a = some ci ∧ x = sI σ ci k a := by
  obtain ⟨a, h1, h2⟩ := ob_s h
  obtain ⟨e1, e2⟩ := oK_of h1
  cases h2
  exact ⟨a, e1, e2, rfl⟩
theorem oGr_of {ci k : Nat} {r : Option Nat} {σ : PS} {x : Option Nat} (h : oGr ci k r σ = some x) : ∃ a, r = some a ∧ sK σ a = some ci ∧ x = sR σ ci k a := by
  obtain ⟨a, h1, h2⟩ := ob_s h
  obtain ⟨e1, e2⟩ := oK_of h1
  cases h2
  exact ⟨a, e1, e2, rfl⟩
theorem oPi_of {ci k : Nat} {r : Option Nat} {σ τ : PS} {v : Int32} (h : oPi ci k r v σ = some τ) : ∃ a, r = some a ∧ sK σ a = some ci ∧ τ = pI ci k a v σ := by
  obtain ⟨a, h1, h2⟩ := ob_s h
  obtain ⟨e1, e2⟩ := oK_of h1
  cases h2
  exact ⟨a, e1, e2, rfl⟩
theorem oPr_of {ci k : Nat} {r : Option Nat} {σ τ : PS} {v : Option Nat} (h : oPr ci k r v σ = some τ) : ∃ a, r = some a ∧ sK σ a = some ci ∧ τ = pR ci k a v σ := by
  obtain ⟨a, h1, h2⟩ := ob_s h
  obtain ⟨e1, e2⟩ := oK_of h1
  cases h2
  exact ⟨a, e1, e2, rfl⟩
theorem oAl_of {r : Option Nat} {i x : Int32} {σ : PS} (h : oAl r i σ = some x) : ∃ a, r = some a ∧ sK σ a = some 100 ∧ vp_in i (sL σ a) ∧ x = sA σ a i.toNatClampNeg := by
  obtain ⟨a, h1, h2⟩ := ob_s h
  obtain ⟨e1, e2, e3⟩ := oX_of h1
  cases h2
  exact ⟨a, e1, e2, e3, rfl⟩
theorem oAs_of {r : Option Nat} {i x : Int32} {σ τ : PS} (h : oAs r i x σ = some τ) : ∃ a, r = some a ∧ sK σ a = some 100 ∧ vp_in i (sL σ a) ∧ τ = pA a i.toNatClampNeg x σ := by
  obtain ⟨a, h1, h2⟩ := ob_s h
  obtain ⟨e1, e2, e3⟩ := oX_of h1
  cases h2
  exact ⟨a, e1, e2, e3, rfl⟩
theorem oJl_of {r : Option Nat} {i : Int32} {x : Int64} {σ : PS} (h : oJl r i σ = some x) : ∃ a, r = some a ∧ sK σ a = some 101 ∧ vp_in i (sL σ a) ∧ x = sJ σ a i.toNatClampNeg := by
  obtain ⟨a, h1, h2⟩ := ob_s h
  obtain ⟨e1, e2, e3⟩ := oX_of h1
  cases h2
  exact ⟨a, e1, e2, e3, rfl⟩
theorem oJs_of {r : Option Nat} {i : Int32} {x : Int64} {σ τ : PS} (h : oJs r i x σ = some τ) : ∃ a, r = some a ∧ sK σ a = some 101 ∧ vp_in i (sL σ a) ∧ τ = pJ a i.toNatClampNeg x σ := by
  obtain ⟨a, h1, h2⟩ := ob_s h
  obtain ⟨e1, e2, e3⟩ := oX_of h1
  cases h2
  exact ⟨a, e1, e2, e3, rfl⟩
theorem oQl_of {r : Option Nat} {i : Int32} {x : Option Nat} {σ : PS} (h : oQl r i σ = some x) : ∃ a, r = some a ∧ sK σ a = some 102 ∧ vp_in i (sL σ a) ∧ x = sQ σ a i.toNatClampNeg := by
  obtain ⟨a, h1, h2⟩ := ob_s h
  obtain ⟨e1, e2, e3⟩ := oX_of h1
  cases h2
  exact ⟨a, e1, e2, e3, rfl⟩
theorem oQs_of {r : Option Nat} {i : Int32} {v : Option Nat} {σ τ : PS} (h : oQs r i v σ = some τ) : ∃ a, r = some a ∧ sK σ a = some 102 ∧ vp_in i (sL σ a) ∧ oIs v σ = true ∧ τ = pQ a i.toNatClampNeg v σ := by
  obtain ⟨a, h1, h2⟩ := ob_s h
  obtain ⟨e1, e2, e3⟩ := oX_of h1
  split at h2
  · next hc => cases h2; exact ⟨a, e1, e2, e3, hc, rfl⟩
  · cases h2
theorem oIs_of {v : Option Nat} {σ : PS} (h : oIs v σ = true) : v = none ∨ ∃ b k, v = some b ∧ sK σ b = some k ∧ (k = 2 ∨ k = 3) := by
  cases v with
  | none => exact Or.inl rfl
  | some b =>
    simp only [oIs] at h
    cases hk : sK σ b with
    | none => rw [hk] at h; cases h
    | some k => rw [hk] at h; exact Or.inr ⟨b, k, rfl, hk, of_decide_eq_true h⟩
theorem oNw_of {E : PE} {ci n : Nat} {σ τ : PS} {r : Option Nat} (h : oNw E ci n σ = some (r, τ)) : r = some (sN σ) ∧ τ = pN ci n σ ∧ sN σ + 1 ≤ E.2.1 ∧ sS σ + n ≤ E.2.2.1 := by
  unfold oNw at h
  split at h
  · next hc => cases h; exact ⟨rfl, rfl, hc⟩
  · cases h
theorem oNa_of {E : PE} {kd : Nat} {x : Int32} {σ τ : PS} {r : Option Nat} (h : oNa E kd x σ = some (r, τ)) : r = some (sN σ) ∧ τ = pN kd x.toNatClampNeg σ ∧ ¬ x < 0 ∧ x.toNatClampNeg * 8 ≤ 536870912 ∧ sN σ + 1 ≤ E.2.1 ∧ sS σ + x.toNatClampNeg ≤ E.2.2.1 := by
  unfold oNa at h
  split at h
  · next hc => cases h; exact ⟨rfl, rfl, hc⟩
  · cases h
def oCp (r0 : Option Nat) (sp : Int32) (r1 : Option Nat) (dp n : Int32) (σ : PS) : Option PS := (oK 102 r0 σ).bind fun a0 => (oK 102 r1 σ).bind fun a => if (¬ sp < 0 ∧ ¬ dp < 0 ∧ ¬ n < 0) ∧ sp.toNatClampNeg + n.toNatClampNeg ≤ sL σ a0 ∧ dp.toNatClampNeg + n.toNatClampNeg ≤ sL σ a ∧ (List.range n.toNatClampNeg).all (fun i => oIs (sQ σ a0 (sp.toNatClampNeg + i)) σ) = true then some (pQs a (va_cpy (sQ σ a0) (sQ σ a) sp.toNatClampNeg dp.toNatClampNeg n.toNatClampNeg) σ) else none
theorem oCp_of {r0 r1 : Option Nat} {sp dp n : Int32} {σ τ : PS} (h : oCp r0 sp r1 dp n σ = some τ) : ∃ a0 a, r0 = some a0 ∧ r1 = some a ∧ sK σ a0 = some 102 ∧ sK σ a = some 102 ∧ (¬ sp < 0 ∧ ¬ dp < 0 ∧ ¬ n < 0) ∧ sp.toNatClampNeg + n.toNatClampNeg ≤ sL σ a0 ∧ dp.toNatClampNeg + n.toNatClampNeg ≤ sL σ a ∧ (∀ i, i < n.toNatClampNeg → oIs (sQ σ a0 (sp.toNatClampNeg + i)) σ = true) ∧ τ = pQs a (va_cpy (sQ σ a0) (sQ σ a) sp.toNatClampNeg dp.toNatClampNeg n.toNatClampNeg) σ := by
  obtain ⟨a0, h1, h2⟩ := ob_s h
  obtain ⟨a, h3, h4⟩ := ob_s h2
  obtain ⟨e1, e2⟩ := oK_of h1
  obtain ⟨e3, e4⟩ := oK_of h3
  split at h4
  · next hc =>
    cases h4
    exact ⟨a0, a, e1, e3, e2, e4, hc.1, hc.2.1, hc.2.2.1, fun i hi => List.all_eq_true.mp hc.2.2.2 i (List.mem_range.mpr hi), rfl⟩
  · cases h4
/-- the class object of a list's row -/
def oGc (E : PE) (r : Option Nat) (σ : PS) : Option (Option Nat) := (oK 102 r σ).bind fun _ => some (some E.2.2.2.2)
theorem oGc_of {E : PE} {r x : Option Nat} {σ : PS} (h : oGc E r σ = some x) : ∃ a, r = some a ∧ sK σ a = some 102 ∧ x = some E.2.2.2.2 := by
  obtain ⟨a, h1, h2⟩ := ob_s h
  obtain ⟨e1, e2⟩ := oK_of h1
  cases h2
  exact ⟨a, e1, e2, rfl⟩
/-- a cast to the class of number ci -/
def oCa (ci : Nat) (r : Option Nat) (σ : PS) : Option Unit := match r with
  | none => some ()
  | some a => if sK σ a = some ci then some () else none
theorem oCa_of {ci : Nat} {r : Option Nat} {σ : PS} {u : Unit} (h : oCa ci r σ = some u) : r = none ∨ ∃ a, r = some a ∧ sK σ a = some ci := by
  cases r with
  | none => exact Or.inl rfl
  | some a =>
    simp only [oCa] at h
    split at h
    · next hc => exact Or.inr ⟨a, rfl, hc⟩
    · cases h
/-- a divisor -/
def oDv (x y : Int32) : Option Int32 := if y = 0 then none else some (x / y)
def oRm (x y : Int32) : Option Int32 := if y = 0 then none else some (x - x / y * y)
theorem oDv_of {x y z : Int32} (h : oDv x y = some z) : ¬ y = 0 ∧ z = x / y := by
  unfold oDv at h
  split at h
  · cases h
  · next hc => cases h; exact ⟨hc, rfl⟩
theorem oRm_of {x y z : Int32} (h : oRm x y = some z) : ¬ y = 0 ∧ z = x - x / y * y := by
  unfold oRm at h
  split at h
  · cases h
  · next hc => cases h; exact ⟨hc, rfl⟩
