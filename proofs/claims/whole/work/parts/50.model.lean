/-! THE MODEL's STATE: I its ints, X its rows, by field -/
def amL : List Nat := [1, 2, 3, 6, 7, 8, 11, 12, 13, 14, 15, 16, 18, 20, 21]
def alM (k : Nat) : Nat := if k = 3 ∨ k = 21 then 1800 else if k = 14 then 162000 else if k = 15 ∨ k = 16 then 32 else 30
def MB (E : PE) (σ0 σ : PS) (m : Nat) (Ma : Nat → Nat) (I : Nat → Int32) (X : Nat → Nat → Int32) : Prop :=
  Fo E σ0 σ (fun b => b = m) ∧ (sN σ = sN σ0 ∧ sS σ = sS σ0 ∧ sJ σ = sJ σ0) ∧ sK σ m = some 7 ∧ (∀ k ∈ amL, Ar σ 7 k m (Ma k) (alM k)) ∧ (∀ k, sI σ 7 k m = I k) ∧ ∀ k ∈ amL, ∀ i, sA σ (Ma k) i = X k i
section MBS
variable {E : PE} {σ0 σ : PS} {m : Nat} {Ma : Nat → Nat} {I : Nat → Int32} {X : Nat → Nat → Int32} {β : Type} {P : β → PS → Prop}
theorem MB.k (h : MB E σ0 σ m Ma I X) : sK σ m = some 7 := h.2.2.1
theorem MB.ne (h : MB E σ0 σ m Ma I X) {k k' : Nat} (hk : k ∈ amL) (hk' : k' ∈ amL) (hne : k ≠ k') : Ma k ≠ Ma k' := by
  intro z
  have e := (h.2.2.2.1 k' hk').1
  rw [← z] at e
  exact hne (h.1.wf.uo h.k h.k (h.2.2.2.1 k hk).1 e (h.2.2.2.1 k hk).2.1).2.1
theorem MB.pi (h : MB E σ0 σ m Ma I X) (k : Nat) (v : Int32) : MB E σ0 (pI 7 k m v σ) m Ma (up I k v) X := by
  refine ⟨h.1.tr (Fo.pI h.1.wf h.k (by decide)) (fun _ z => z) (fun _ z => z), h.2.1, h.k, h.2.2.2.1, fun j => ?_, h.2.2.2.2.2⟩
  by_cases z : j = k
  · rw [z, gI_s, up_s]
  · rw [gI_n z, up_n z]; exact h.2.2.2.2.1 j
theorem MB.pa (h : MB E σ0 σ m Ma I X) {k : Nat} (hk : k ∈ amL) (j : Nat) (v : Int32) : MB E σ0 (pA (Ma k) j v σ) m Ma I (up X k (up (X k) j v)) := by
  have ha := h.2.2.2.1 k hk
  refine ⟨h.1.tr (Fo.arr h.1.wf (h.1.wf.same rfl rfl rfl) h.k ha.1 ha.2.1 (by omega) Fr.pA) (fun _ z => z) (fun _ z => z), h.2.1, h.k, h.2.2.2.1, h.2.2.2.2.1, fun k' hk' i => ?_⟩
  rw [sA_pA]
  by_cases z : k' = k
  · subst z
    rw [up_s]
    by_cases y : i = j
    · rw [if_pos ⟨rfl, y⟩, y, up_s]
    · rw [if_neg (fun w => y w.2), up_n y]; exact h.2.2.2.2.2 k' hk' i
  · rw [up_n z, if_neg (fun w => h.ne hk' hk z w.1)]
    exact h.2.2.2.2.2 k' hk' i
theorem wm_K {f : Nat → Option (β × PS)} (h : MB E σ0 σ m Ma I X) (w : wp (f m) P) : wp ((oK 7 (some m) σ).bind f) P := wp_K rfl h.k w
theorem wm_gi {f : Int32 → Option (β × PS)} {k : Nat} (h : MB E σ0 σ m Ma I X) (w : wp (f (I k)) P) : wp ((oGi 7 k (some m) σ).bind f) P := wp_gi rfl h.k (by rw [h.2.2.2.2.1 k]; exact w)
theorem wm_gr {f : Option Nat → Option (β × PS)} {k : Nat} (h : MB E σ0 σ m Ma I X) (hk : k ∈ amL) (w : wp (f (some (Ma k))) P) : wp ((oGr 7 k (some m) σ).bind f) P := wp_gr rfl h.k (by rw [(h.2.2.2.1 k hk).1]; exact w)
theorem alM_lt (k : Nat) : alM k < 2 ^ 31 := by
  unfold alM
  split
  · decide
  · split
    · decide
    · split <;> decide
theorem wm_al {f : Int32 → Option (β × PS)} {k j : Nat} {i : Int32} (h : MB E σ0 σ m Ma I X) (hk : k ∈ amL) (hi : i = nI j) (hj : j < alM k) (w : wp (f (X k j)) P) : wp ((oAl (some (Ma k)) i σ).bind f) P := by
  obtain ⟨a1, a2, a3⟩ := h.2.2.2.1 k hk
  have := alM_lt k
  exact wp_al rfl hi a2 (by omega) (by omega) (by rw [h.2.2.2.2.2 k hk j]; exact w)
theorem wm_as {f : PS → Option (β × PS)} {k j : Nat} {i v : Int32} (h : MB E σ0 σ m Ma I X) (hk : k ∈ amL) (hi : i = nI j) (hj : j < alM k) (w : ∀ τ, MB E σ0 τ m Ma I (up X k (up (X k) j v)) → wp (f τ) P) : wp ((oAs (some (Ma k)) i v σ).bind f) P := by
  obtain ⟨a1, a2, a3⟩ := h.2.2.2.1 k hk
  have := alM_lt k
  exact wp_as rfl hi a2 (by omega) (by omega) (w _ (h.pa hk j v))
theorem wm_pi {f : PS → Option (β × PS)} {k : Nat} {v : Int32} (h : MB E σ0 σ m Ma I X) (w : ∀ τ, MB E σ0 τ m Ma (up I k v) X → wp (f τ) P) : wp ((oPi 7 k (some m) v σ).bind f) P := wp_pi rfl h.k (w _ (h.pi k v))
theorem wm_oM {r : Option (β × PS)} (h : MB E σ0 σ m Ma I X) (hO : Ok E σ0) (hP : ∀ a s, P a s → ∃ I' X', MB E σ0 s m Ma I' X') (w : wp r P) : wp (oM E σ r) P := by
  refine wp_oM (wp_mono w (fun a s q => ⟨?_, q⟩))
  obtain ⟨I', X', h'⟩ := hP a s q
  have e1 := h.2.1
  have e2 := h'.2.1
  have o1 := hO.1
  have o2 := hO.2
  exact ⟨by omega, by omega, by omega, by omega⟩
/-- the rows but those of K are as they were -/
def MX (E : PE) (σ0 : PS) (m : Nat) (Ma : Nat → Nat) (I : Nat → Int32) (X : Nat → Nat → Int32) (K : List Nat) (τ : PS) : Prop := ∃ I' X', MB E σ0 τ m Ma I' X' ∧ (∀ k, k ∉ K → I' k = I k) ∧ ∀ k, k ∉ K → X' k = X k
theorem wm_oX {r : Option (β × PS)} {K : List Nat} {Q : β → PS → Prop} (h : MB E σ0 σ m Ma I X) (hO : Ok E σ0) (w : wp r (fun a s => MX E σ0 m Ma I X K s ∧ Q a s)) : wp (oM E σ r) (fun a s => MX E σ0 m Ma I X K s ∧ Q a s) :=
  wm_oM h hO (fun _ _ q => by obtain ⟨⟨I', X', q1, -⟩, -⟩ := q; exact ⟨I', X', q1⟩) w
theorem MX.of (h : MB E σ0 σ m Ma I X) (K : List Nat) : MX E σ0 m Ma I X K σ := ⟨I, X, h, fun _ _ => rfl, fun _ _ => rfl⟩
theorem sp_isIn {E : PE} {σ : PS} (hO : Ok E σ) (v a b : Int32) : f_X6_isIn E v a b σ = some (if v < a ∨ b < v then 0 else 1, σ) := by
  refine oM_rd hO ?_
  unfold g_X6_isIn f_X6_isIn_B14
  by_cases h1 : v < a
  · rw [if_pos h1, if_pos (Or.inl h1)]; rfl
  · rw [if_neg h1]
    by_cases h2 : b < v
    · rw [if_pos h2, if_pos (Or.inr h2)]; rfl
    · rw [if_neg h2, if_neg (fun z => z.elim h1 h2)]; rfl
theorem sp_size6 {E : PE} {σ : PS} (hO : Ok E σ) (v : Int32) : f_X6_size E v σ = some (if 0 ≤ v then v else 0 - v, σ) := by
  refine oM_rd hO ?_
  unfold g_X6_size f_X6_size_B10
  by_cases h1 : 0 ≤ v
  · rw [if_pos h1, if_pos h1]
  · rw [if_neg h1, if_neg h1, Int32.zero_sub]
theorem MB.ok (h : MB E σ0 σ m Ma I X) (hO : Ok E σ0) : Ok E σ := by
  have e := h.2.1
  exact ⟨by rw [e.1]; exact hO.1, by rw [e.2.1]; exact hO.2⟩
/-- a number that may be below 0 -/
theorem out_iff (v : Int32) {L : Nat} (hL : L < 2 ^ 31) : (v < 0 ∨ nI L - 1 < v) ↔ (v < 0 ∨ nI L ≤ v) := by
  by_cases h0 : v < 0
  · exact ⟨fun _ => Or.inl h0, fun _ => Or.inl h0⟩
  · obtain ⟨j, hj, rfl⟩ := nI_of h0
    have e : nI L - 1 < nI j ↔ nI L ≤ nI j := by
      cases L with
      | zero =>
        have e1 : nI 0 - 1 < nI j := by
          have : (nI 0 - 1 : Int32) = -1 := by decide
          rw [this]
          exact Int32.lt_of_lt_of_le (by decide) (nI_pos' hj)
        exact ⟨fun _ => nI_pos' hj, fun _ => e1⟩
      | succ L =>
        rw [nI_pred, nI_ltI (by omega) hj, nI_leI (by omega) hj]
        omega
    exact ⟨fun z => z.elim Or.inl (fun w => Or.inr (e.mp w)), fun z => z.elim Or.inl (fun w => Or.inr (e.mpr w))⟩
theorem if_iff {α : Type} {p q : Prop} [Decidable p] [Decidable q] (h : p ↔ q) (a b : α) : (if p then a else b) = if q then a else b := by
  by_cases hp : p
  · rw [if_pos hp, if_pos (h.mp hp)]
  · rw [if_neg hp, if_neg (fun z => hp (h.mpr z))]
theorem if_01 (p : Prop) [Decidable p] : (if (if p then (0 : Int32) else 1) = 0 ∨ (if p then (0 : Int32) else 1) = 1 then True else False) := by
  by_cases hp : p
  · rw [if_pos hp, if_pos (Or.inl rfl)]; trivial
  · rw [if_neg hp, if_pos (Or.inr rfl)]; trivial
theorem sp_isEntry6 {n : Nat} (h : MB E σ0 σ m Ma I X) (hO : Ok E σ0) (hn : n ≤ 30) (h0 : I 0 = nI n) (v : Int32) : f_X6_isEntry E (some m) v σ = some (if v < 0 ∨ nI n ≤ v then 0 else 1, σ) := by
  refine oM_rd (h.ok hO) ?_
  unfold g_X6_isEntry
  refine e_gi rfl h.k ?_
  rw [h.2.2.2.2.1 0, h0]
  refine bd_rd (sp_isIn (h.ok hO) v 0 (nI n - 1)) ?_
  rw [if_iff (out_iff v (by omega))]
  by_cases hp : v < 0 ∨ nI n ≤ v
  · rw [if_pos hp]; rfl
  · rw [if_neg hp]; rfl
/-! the entries of the model -/
def EV (n : Nat) (kd : Nat → Nat) (bs : Nat → List Nat) (I : Nat → Int32) (X : Nat → Nat → Int32) : Prop := I 0 = nI n ∧ ∀ e, e < n → X 1 e = nI (kd e) ∧ X 2 e = nI (bs e).length ∧ ∀ i, i < (bs e).length → X 3 (60 * e + i) = nI ((bs e).getD i 0)
theorem EV.ko {n : Nat} {kd : Nat → Nat} {bs : Nat → List Nat} {I I' : Nat → Int32} {X X' : Nat → Nat → Int32} (h : EV n kd bs I X) (h0 : I' 0 = I 0) (h1 : X' 1 = X 1) (h2 : X' 2 = X 2) (h3 : X' 3 = X 3) : EV n kd bs I' X' := by
  obtain ⟨a, b⟩ := h
  refine ⟨by rw [h0]; exact a, fun e he => ?_⟩
  obtain ⟨b1, b2, b3⟩ := b e he
  exact ⟨by rw [h1]; exact b1, by rw [h2]; exact b2, fun i hi => by rw [h3]; exact b3 i hi⟩
theorem sx (a b : Nat) : (60 : Int32) * nI a + nI b = nI (60 * a + b) := by
  have : (60 : Int32) * nI a = nI (60 * a) := pk_mul 60 a
  rw [this, nI_add]
/-! marks -/
theorem sp_mkZ {P : Unit → PS → Prop} {k : Nat} {v1 : Int32} (hk : k ∈ amL) (hl : alM k = 32) : ∀ (c f i : Nat) (σ : PS) (X : Nat → Nat → Int32), 32 = i + c → c < f → MB E σ0 σ m Ma I X → (∀ j, j < i → X k j = 0) →
    (∀ τ g, MB E σ0 τ m Ma I (up X k g) → (∀ j, j < 32 → g j = 0) → wp (f_X6_marks_L20 E E.1 (some m) v1 (some (Ma k)) 0 τ) P) →
    wp (f_X6_marks_L2 E f (some m) v1 (some (Ma k)) (nI i) σ) P
  | 0, f, i, σ, X, hc, hf, h, hz, kk => by
    obtain ⟨f, rfl⟩ : ∃ z, f = z + 1 := ⟨f - 1, by omega⟩
    rw [f_X6_marks_L2]
    refine wp_t (show nI 32 ≤ nI i from nI_le (by omega) (by omega)) (kk σ (X k) (by rw [up_id]; exact h) (fun j hj => hz j (by omega)))
  | c + 1, f, i, σ, X, hc, hf, h, hz, kk => by
    obtain ⟨f, rfl⟩ : ∃ z, f = z + 1 := ⟨f - 1, by omega⟩
    rw [f_X6_marks_L2]
    refine wp_f (show ¬ nI 32 ≤ nI i from nI_ge (by omega) (by omega)) (wm_as h hk rfl (by omega) (fun τ h' => ?_))
    rw [nI_1]
    refine sp_mkZ hk hl c f (i + 1) τ _ (by omega) (by omega) h' (fun j hj => ?_) (fun ρ g h2 hg => kk ρ g (by rw [up_up] at h2; exact h2) hg)
    rw [up_s]
    by_cases z : j = i
    · rw [z, up_s]
    · rw [up_n z]; exact hz j (by omega)
theorem mk_of {bs : List Nat} (i : Nat) (h : i + 2 < bs.length) (hb : ∀ x ∈ bs, x < 256) : 7 * bs.getD i 0 + 5 * bs.getD (i + 1) 0 + 3 * bs.getD (i + 2) 0 < 2 ^ 31 := by
  have h1 := getD_lt hb i
  have h2 := getD_lt hb (i + 1)
  have h3 := getD_lt hb (i + 2)
  omega
theorem sp_mkC {P : Unit → PS → Prop} {k e n : Nat} {kd : Nat → Nat} {bs : Nat → List Nat} (hk : k ∈ amL) (hl : alM k = 32) (hk1 : k ≠ 1 ∧ k ≠ 2 ∧ k ≠ 3) (hA : AE n kd bs) (he : e < n) : ∀ (c f i : Nat) (σ : PS) (X : Nat → Nat → Int32), (bs e).length - 2 = i + c → c < f → MB E σ0 σ m Ma I X → EV n kd bs I X → (∀ j, j < 32 → X k j = nI (mc (bs e) j i)) →
    (∀ τ g, MB E σ0 τ m Ma I (up X k g) → (∀ j, j < 32 → g j = nI (marks (bs e) j)) → P () τ) →
    wp (f_X6_marks_L20 E f (some m) (nI e) (some (Ma k)) (nI i) σ) P
  | 0, f, i, σ, X, hc, hf, h, hv, hz, kk => by
    obtain ⟨f, rfl⟩ : ∃ z, f = z + 1 := ⟨f - 1, by omega⟩
    obtain ⟨-, b2, b3⟩ := hv.2 e he
    have hn := hA.1
    have hl60 := (hA.2 e he).2.1
    rw [f_X6_marks_L20]
    refine wm_gr h (by decide) (wm_al h (by decide) rfl (by show e < 30; omega) ?_)
    rw [b2]
    have e2 : nI i + (2 : Int32) = nI (i + 2) := nI_add i 2
    rw [e2]
    refine wp_t (nI_le (by omega) (by omega)) (wp_ret (kk σ (X k) (by rw [up_id]; exact h) (fun j hj => ?_)))
    rw [hz j hj]
    unfold marks
    rw [hc]
    rfl
  | c + 1, f, i, σ, X, hc, hf, h, hv, hz, kk => by
    obtain ⟨f, rfl⟩ : ∃ z, f = z + 1 := ⟨f - 1, by omega⟩
    obtain ⟨-, b2, b3⟩ := hv.2 e he
    have hn := hA.1
    have hl60 := (hA.2 e he).2.1
    have hb256 := (hA.2 e he).2.2
    have hi2 : i + 2 < (bs e).length := by omega
    have hm := mk_of i hi2 hb256
    have hmk : mk (bs e) i < 32 := mk_lt _ _
    rw [f_X6_marks_L20]
    refine wm_gr h (by decide) (wm_al h (by decide) rfl (by show e < 30; omega) ?_)
    rw [b2]
    have e2 : nI i + (2 : Int32) = nI (i + 2) := nI_add i 2
    rw [e2]
    have x0 := sx e i
    have x1 : (60 : Int32) * nI e + nI i + 1 = nI (60 * e + (i + 1)) := by rw [x0]; exact nI_1 _
    have x2 : (60 : Int32) * nI e + nI i + 2 = nI (60 * e + (i + 2)) := by rw [x0]; exact nI_add _ 2
    refine wp_f (nI_ge (by omega) (by omega)) (wm_gr h (by decide) (wm_al h (by decide) x0 (by show 60 * e + i < 1800; omega) (wm_gr h (by decide) (wm_al h (by decide) x1 (by show 60 * e + (i + 1) < 1800; omega) (wm_gr h (by decide) (wm_al h (by decide) x2 (by show 60 * e + (i + 2) < 1800; omega) ?_))))))
    rw [b3 i (by omega), b3 (i + 1) (by omega), b3 (i + 2) (by omega), mkI (getD_lt hb256 _) (getD_lt hb256 _) (getD_lt hb256 _)]
    have hrm : oRm (nI (7 * (bs e).getD i 0 + 5 * (bs e).getD (i + 1) 0 + 3 * (bs e).getD (i + 2) 0)) 32 = some (nI (mk (bs e) i)) := by
      unfold oRm
      rw [if_neg (by decide)]
      exact congrArg some (pk_rem (d := 32) hm (by decide) (by decide))
    rw [hrm]
    refine wm_al h hk rfl (by omega) (wm_as h hk rfl (by omega) (fun τ h' => ?_))
    rw [nI_1]
    refine sp_mkC hk hl hk1 hA he c f (i + 1) τ _ (by omega) (by omega) h' (hv.ko rfl (up_n hk1.1.symm) (up_n hk1.2.1.symm) (up_n hk1.2.2.symm)) (fun j hj => ?_) (fun ρ g h2 hg => kk ρ g (by rw [up_up] at h2; exact h2) hg)
    rw [up_s]
    show up (X k) (mk (bs e) i) (X k (mk (bs e) i) + 1) j = nI (mc (bs e) j i + if mk (bs e) i = j then 1 else 0)
    by_cases z : j = mk (bs e) i
    · rw [z, up_s, hz _ hmk, if_pos rfl, nI_1]
    · rw [up_n z, hz j hj, if_neg (fun w => z w.symm)]
      rfl
theorem sp_marks6 {k e n : Nat} {kd : Nat → Nat} {bs : Nat → List Nat} (hE : 1000 ≤ E.1) (hO : Ok E σ0) (hk : k ∈ amL) (hl : alM k = 32) (hk1 : k ≠ 1 ∧ k ≠ 2 ∧ k ≠ 3) (hA : AE n kd bs) (he : e < n) (h : MB E σ0 σ m Ma I X) (hv : EV n kd bs I X) :
    wp (f_X6_marks E (some m) (nI e) (some (Ma k)) σ) (fun _ τ => ∃ g, MB E σ0 τ m Ma I (up X k g) ∧ ∀ j, j < 32 → g j = nI (marks (bs e) j)) := by
  refine wm_oM h hO (fun _ _ ⟨g, q, _⟩ => ⟨_, _, q⟩) ?_
  unfold g_X6_marks
  refine sp_mkZ hk hl 32 E.1 0 σ X (by omega) (by omega) h (fun j hj => absurd hj (Nat.not_lt_zero _)) (fun τ g h' hg => ?_)
  have hl60 := (hA.2 e he).2.1
  refine sp_mkC hk hl hk1 hA he ((bs e).length - 2) E.1 0 τ (up X k g) (by omega) (by omega) h' (hv.ko rfl (up_n hk1.1.symm) (up_n hk1.2.1.symm) (up_n hk1.2.2.symm)) (fun j hj => ?_) (fun ρ g2 h2 hg2 => ⟨g2, by rw [up_up] at h2; exact h2, hg2⟩)
  rw [up_s, hg j hj]
  rfl
/-- both rows of marks -/
def MK (bs : Nat → List Nat) (X : Nat → Nat → Int32) (a b : Nat) : Prop := ∀ j, j < 32 → X 15 j = nI (marks (bs a) j) ∧ X 16 j = nI (marks (bs b) j)
theorem sp_dsL {n a b : Nat} {kd : Nat → Nat} {bs : Nat → List Nat} (hO : Ok E σ0) (hA : AE n kd bs) (ha : a < n) (hb : b < n) (h : MB E σ0 σ m Ma I X) (hm : MK bs X a b) : ∀ (c f i t : Nat), 32 = i + c → c < f → f_X6_distanceOf_L38 E f (some m) (nI (t + sm (fun j => ad (marks (bs a) j) (marks (bs b) j)) i)) (nI i) σ = some (nI (t + sm (fun j => ad (marks (bs a) j) (marks (bs b) j)) 32), σ)
  | 0, f, i, t, hc, hf => by
    obtain ⟨f, rfl⟩ : ∃ z, f = z + 1 := ⟨f - 1, by omega⟩
    rw [f_X6_distanceOf_L38]
    have : i = 32 := by omega
    subst this
    exact e_t (Int32.le_refl _) rfl
  | c + 1, f, i, t, hc, hf => by
    obtain ⟨f, rfl⟩ : ∃ z, f = z + 1 := ⟨f - 1, by omega⟩
    have ih := sp_dsL hO hA ha hb h hm c f (i + 1) t (by omega) (by omega)
    obtain ⟨m1, m2⟩ := hm i (by omega)
    have l1 := marks_le (bs a) i
    have l2 := marks_le (bs b) i
    have hla := (hA.2 a ha).2.1
    have hlb := (hA.2 b hb).2.1
    obtain ⟨a1, a2, a3⟩ := h.2.2.2.1 15 (by decide)
    obtain ⟨b1, b2, b3⟩ := h.2.2.2.1 16 (by decide)
    have a3 : sL σ (Ma 15) = 32 := a3
    have b3 : sL σ (Ma 16) = 32 := b3
    rw [f_X6_distanceOf_L38]
    refine e_f (show ¬ nI 32 ≤ nI i from nI_ge (by omega) (by omega)) (e_gr rfl h.k (e_al a1 rfl a2 (by omega) (by omega) (e_gr rfl h.k (e_al b1 rfl b2 (by omega) (by omega) ?_))))
    rw [h.2.2.2.2.2 15 (by decide), h.2.2.2.2.2 16 (by decide), m1, m2]
    refine bd_rd (sp_size6 (h.ok hO) _) ?_
    rw [adI (by omega) (by omega), nI_add, nI_1, Nat.add_assoc]
    exact ih
theorem sp_distanceOf {n a b : Nat} {kd : Nat → Nat} {bs : Nat → List Nat} (hE : 1000 ≤ E.1) (hO : Ok E σ0) (hA : AE n kd bs) (ha : a < n) (hb : b < n) (h : MB E σ0 σ m Ma I X) (hv : EV n kd bs I X) :
    wp (f_X6_distanceOf E (some m) (nI a) (nI b) σ) (fun r τ => ∃ g1 g2, r = nI (distN (bs a) (bs b)) ∧ MB E σ0 τ m Ma I (up (up X 15 g1) 16 g2)) := by
  have hla := (hA.2 a ha).2.1
  have hlb := (hA.2 b hb).2.1
  have hn := hA.1
  refine wm_oM h hO (fun _ _ ⟨_, _, _, q⟩ => ⟨_, _, q⟩) ?_
  unfold g_X6_distanceOf
  refine wm_gr h (by decide) (wm_K h (wp_bd (sp_marks6 hE hO (k := 15) (by decide) rfl ⟨by decide, by decide, by decide⟩ hA ha h hv) ?_))
  rintro _ s1 ⟨g1, h1, e1⟩
  have hv1 : EV n kd bs I (up X 15 g1) := hv.ko rfl (up_n (by decide)) (up_n (by decide)) (up_n (by decide))
  refine wm_gr h1 (by decide) (wm_K h1 (wp_bd (sp_marks6 hE hO (k := 16) (by decide) rfl ⟨by decide, by decide, by decide⟩ hA hb h1 hv1) ?_))
  rintro _ s2 ⟨g2, h2, e2⟩
  have hv2 : EV n kd bs I (up (up X 15 g1) 16 g2) := hv1.ko rfl (up_n (by decide)) (up_n (by decide)) (up_n (by decide))
  obtain ⟨-, x2, -⟩ := hv2.2 a ha
  obtain ⟨-, y2, -⟩ := hv2.2 b hb
  refine wm_gr h2 (by decide) (wm_al h2 (by decide) rfl (by show a < 30; omega) (wm_gr h2 (by decide) (wm_al h2 (by decide) rfl (by show b < 30; omega) ?_)))
  rw [x2, y2]
  refine wp_rd (sp_size6 (h2.ok hO) _) ?_
  rw [adI (by omega) (by omega)]
  have mk : MK bs (up (up X 15 g1) 16 g2) a b := fun j hj => ⟨by rw [up_n (by decide), up_s]; exact e1 j hj, by rw [up_s]; exact e2 j hj⟩
  have run := sp_dsL hO hA ha hb h2 mk 32 E.1 0 (ad (bs a).length (bs b).length) (by omega) (by omega)
  exact ⟨_, s2, run, g1, g2, rfl, h2⟩
theorem sp_cmL {n a b : Nat} {kd : Nat → Nat} {bs : Nat → List Nat} (hO : Ok E σ0) (hA : AE n kd bs) (ha : a < n) (hb : b < n) (h : MB E σ0 σ m Ma I X) (hm : MK bs X a b) : ∀ (c f i : Nat), 32 = i + c → c < f → f_X6_commonOf_L23 E f (some m) (nI (sm (fun j => min (marks (bs a) j) (marks (bs b) j)) i)) (nI i) σ = some (nI (commonN (bs a) (bs b)), σ)
  | 0, f, i, hc, hf => by
    obtain ⟨f, rfl⟩ : ∃ z, f = z + 1 := ⟨f - 1, by omega⟩
    rw [f_X6_commonOf_L23]
    have : i = 32 := by omega
    subst this
    exact e_t (Int32.le_refl _) rfl
  | c + 1, f, i, hc, hf => by
    obtain ⟨f, rfl⟩ : ∃ z, f = z + 1 := ⟨f - 1, by omega⟩
    have ih := sp_cmL hO hA ha hb h hm c f (i + 1) (by omega) (by omega)
    obtain ⟨m1, m2⟩ := hm i (by omega)
    have l1 := marks_le (bs a) i
    have l2 := marks_le (bs b) i
    have hla := (hA.2 a ha).2.1
    have hlb := (hA.2 b hb).2.1
    obtain ⟨a1, a2, a3⟩ := h.2.2.2.1 15 (by decide)
    obtain ⟨b1, b2, b3⟩ := h.2.2.2.1 16 (by decide)
    have a3 : sL σ (Ma 15) = 32 := a3
    have b3 : sL σ (Ma 16) = 32 := b3
    rw [f_X6_commonOf_L23]
    refine e_f (show ¬ nI 32 ≤ nI i from nI_ge (by omega) (by omega)) (e_gr rfl h.k (e_al a1 rfl a2 (by omega) (by omega) (e_gr rfl h.k (e_al b1 rfl b2 (by omega) (by omega) ?_))))
    rw [h.2.2.2.2.2 15 (by decide), h.2.2.2.2.2 16 (by decide), m1, m2]
    unfold f_X6_commonOf_B65
    have fin : ∀ v, v = min (marks (bs a) i) (marks (bs b) i) → f_X6_commonOf_L23 E f (some m) (nI (sm (fun j => min (marks (bs a) j) (marks (bs b) j)) i) + nI v) (nI i + 1) σ = some (nI (commonN (bs a) (bs b)), σ) := by
      rintro v rfl
      rw [nI_add, nI_1]
      exact ih
    by_cases z : marks (bs b) i ≤ marks (bs a) i
    · refine e_t (nI_le z (by omega)) (e_gr rfl h.k (e_al b1 rfl b2 (by omega) (by omega) ?_))
      rw [h.2.2.2.2.2 16 (by decide), m2]
      exact fin _ (by omega)
    · refine e_f (nI_ge (by omega) (by omega)) (e_gr rfl h.k (e_al a1 rfl a2 (by omega) (by omega) ?_))
      rw [h.2.2.2.2.2 15 (by decide), m1]
      exact fin _ (by omega)
theorem sp_commonOf {n a b : Nat} {kd : Nat → Nat} {bs : Nat → List Nat} (hE : 1000 ≤ E.1) (hO : Ok E σ0) (hA : AE n kd bs) (ha : a < n) (hb : b < n) (h : MB E σ0 σ m Ma I X) (hv : EV n kd bs I X) :
    wp (f_X6_commonOf E (some m) (nI a) (nI b) σ) (fun r τ => ∃ g1 g2, r = nI (commonN (bs a) (bs b)) ∧ MB E σ0 τ m Ma I (up (up X 15 g1) 16 g2) ∧ MK bs (up (up X 15 g1) 16 g2) a b) := by
  have hn := hA.1
  refine wm_oM h hO (fun _ _ ⟨_, _, _, q, _⟩ => ⟨_, _, q⟩) ?_
  unfold g_X6_commonOf
  refine wm_gr h (by decide) (wm_K h (wp_bd (sp_marks6 hE hO (k := 15) (by decide) rfl ⟨by decide, by decide, by decide⟩ hA ha h hv) ?_))
  rintro _ s1 ⟨g1, h1, e1⟩
  have hv1 : EV n kd bs I (up X 15 g1) := hv.ko rfl (up_n (by decide)) (up_n (by decide)) (up_n (by decide))
  refine wm_gr h1 (by decide) (wm_K h1 (wp_bd (sp_marks6 hE hO (k := 16) (by decide) rfl ⟨by decide, by decide, by decide⟩ hA hb h1 hv1) ?_))
  rintro _ s2 ⟨g2, h2, e2⟩
  have mk : MK bs (up (up X 15 g1) 16 g2) a b := fun j hj => ⟨by rw [up_n (by decide), up_s]; exact e1 j hj, by rw [up_s]; exact e2 j hj⟩
  have run := sp_cmL hO hA ha hb h2 mk 32 E.1 0 (by omega) (by omega)
  exact ⟨_, s2, run, g1, g2, rfl, h2, mk⟩
end MBS
