/-! the model: its row, the chain -/
def Xk (K : List Nat) (X X' : Nat → Nat → Int32) : Prop := ∀ k, k ∉ K → X' k = X k
theorem Xk.rf {K : List Nat} {X : Nat → Nat → Int32} : Xk K X X := fun _ _ => rfl
theorem Xk.tr {K : List Nat} {X X' X2 : Nat → Nat → Int32} (h : Xk K X X') (k : Xk K X' X2) : Xk K X X2 := fun j hj => (k j hj).trans (h j hj)
theorem Xk.wk {K K' : List Nat} {X X' : Nat → Nat → Int32} (h : Xk K X X') (hs : ∀ k, k ∈ K → k ∈ K') : Xk K' X X' := fun j hj => h j (fun z => hj (hs j z))
theorem Xk.u {K : List Nat} {X : Nat → Nat → Int32} {k : Nat} {g : Nat → Int32} (h : k ∈ K) : Xk K X (up X k g) := fun _ hj => up_n (fun z => hj (z ▸ h))
theorem Xk.d {K : List Nat} {X : Nat → Nat → Int32} {g1 g2 : Nat → Int32} (h15 : 15 ∈ K) (h16 : 16 ∈ K) : Xk K X (up (up X 15 g1) 16 g2) := (Xk.u h15).tr (Xk.u h16)
def RW (L : List Nat) (I : Nat → Int32) (X : Nat → Nat → Int32) : Prop := I 19 = nI L.length ∧ ∀ k, k < L.length → X 18 k = nI (L.getD k 0)
theorem RW.ko {L : List Nat} {I : Nat → Int32} {X X' : Nat → Nat → Int32} (h : RW L I X) (h18 : X' 18 = X 18) : RW L I X' := ⟨h.1, fun k hk => by rw [h18]; exact h.2 k hk⟩
/-- the least by distance, then by number -/
def isMin (f : Nat → Nat) (x : Nat) (S : List Nat) : Prop := x ∈ S ∧ ∀ y ∈ S, f x < f y ∨ (f x = f y ∧ x ≤ y)
theorem isMin.uniq {f : Nat → Nat} {x x' : Nat} {S : List Nat} (h : isMin f x S) (h' : isMin f x' S) : x = x' := by
  have a := h.2 x' h'.1
  have b := h'.2 x h.1
  omega
theorem isMin.perm {f : Nat → Nat} {x : Nat} {S S' : List Nat} (h : isMin f x S) (p : S.Perm S') : isMin f x S' := ⟨p.mem_iff.mp h.1, fun y hy => h.2 y (p.mem_iff.mpr hy)⟩
theorem isMin.snoc {f : Nat → Nat} {b x : Nat} {S : List Nat} (h : isMin f b S) (hx : ¬ f x < f b) (hb : f x = f b → b ≤ x) : isMin f b (S ++ [x]) := by
  refine ⟨List.mem_append_left _ h.1, fun y hy => ?_⟩
  rcases List.mem_append.mp hy with w | w
  · exact h.2 y w
  · rw [List.mem_singleton.mp w]
    by_cases z : f x = f b
    · exact Or.inr ⟨z.symm, hb z⟩
    · exact Or.inl (by omega)
theorem isMin.snoc2 {f : Nat → Nat} {b x : Nat} {S : List Nat} (h : isMin f b S) (hx : f x < f b ∨ (f x = f b ∧ x ≤ b)) : isMin f x (S ++ [x]) := by
  refine ⟨List.mem_append_right _ (List.mem_singleton.mpr rfl), fun y hy => ?_⟩
  rcases List.mem_append.mp hy with w | w
  · have := h.2 y w
    omega
  · rw [List.mem_singleton.mp w]
    exact Or.inr ⟨rfl, Nat.le_refl _⟩
theorem isMin.one {f : Nat → Nat} {x : Nat} : isMin f x [x] := ⟨List.mem_singleton.mpr rfl, fun y hy => by rw [List.mem_singleton.mp hy]; exact Or.inr ⟨rfl, Nat.le_refl _⟩⟩
theorem nearL_min (f : Nat → Nat) : ∀ (r pre : List Nat) (b l p : Nat), (pre ++ r).Pairwise (· < ·) → p = pre.length → b < p → l = f ((pre ++ r).getD b 0) → isMin f ((pre ++ r).getD b 0) pre → isMin f ((pre ++ r).getD (nearL f r b l p) 0) (pre ++ r)
  | [], pre, b, l, p, hs, hp, hb, hl, hm => by
    show isMin f ((pre ++ []).getD b 0) (pre ++ [])
    have e : pre ++ [] = pre := List.append_nil _
    rw [e] at hm ⊢
    exact hm
  | x :: r, pre, b, l, p, hs, hp, hb, hl, hm => by
    have e : pre ++ x :: r = (pre ++ [x]) ++ r := by rw [List.append_assoc]; rfl
    have hx : (pre ++ x :: r).getD p 0 = x := by rw [hp, getD_app2 (Nat.le_refl _), Nat.sub_self]; rfl
    have hlt : ∀ y ∈ pre, y < x := fun y hy => (List.pairwise_append.mp hs).2.2 y hy x (List.mem_cons_self ..)
    unfold nearL
    by_cases z : f x < l
    · rw [if_pos z]
      have ih := nearL_min f r (pre ++ [x]) p (f x) (p + 1) (by rw [← e]; exact hs) (by rw [List.length_append, hp]; rfl) (by omega) (by rw [← e, hx]) (by rw [← e, hx]; exact hm.snoc2 (Or.inl (by rw [← hl]; exact z)))
      rw [← e] at ih
      exact ih
    · rw [if_neg z]
      have ih := nearL_min f r (pre ++ [x]) b l (p + 1) (by rw [← e]; exact hs) (by rw [List.length_append, hp]; rfl) (by omega) (by rw [← e]; exact hl) (by rw [← e]; exact hm.snoc (by rw [← hl]; exact z) (fun _ => Nat.le_of_lt (hlt _ hm.1)))
      rw [← e] at ih
      exact ih
theorem nearI_min {f : Nat → Nat} {S : List Nat} (hs : S.Pairwise (· < ·)) (h0 : S ≠ []) : isMin f (S.getD (nearI f S) 0) S := by
  cases S with
  | nil => exact absurd rfl h0
  | cons x r => exact nearL_min f r [x] 0 (f x) 1 hs rfl (by decide) rfl isMin.one
def swapL (L : List Nat) (i j : Nat) : List Nat := (L.set j (L.getD i 0)).set i (L.getD j 0)
theorem swapL_len (L : List Nat) (i j : Nat) : (swapL L i j).length = L.length := by unfold swapL; rw [List.length_set, List.length_set]
theorem set_gd {L : List Nat} {i x : Nat} (h : i < L.length) (t : Nat) : (L.set i x).getD t 0 = if t = i then x else L.getD t 0 := by
  by_cases z : t = i
  · rw [if_pos z, z, List.getD_eq_getElem?_getD, List.getElem?_set, if_pos rfl, if_pos h]
    rfl
  · rw [if_neg z, List.getD_eq_getElem?_getD, List.getElem?_set_ne (fun w => z w.symm), ← List.getD_eq_getElem?_getD]
theorem swapL_at {L : List Nat} {i j : Nat} (hi : i < L.length) (hj : j < L.length) (t : Nat) : (swapL L i j).getD t 0 = if t = i then L.getD j 0 else if t = j then L.getD i 0 else L.getD t 0 := by
  unfold swapL
  rw [set_gd (by rw [List.length_set]; exact hi), set_gd hj]
theorem swapL_split (P R : List Nat) (j : Nat) (hj : j < R.length) : ∃ T, swapL (P ++ R) P.length (P.length + j) = P ++ R.getD j 0 :: T ∧ (R.getD j 0 :: T).Perm R := by
  have e1 : (P ++ R).getD P.length 0 = R.getD 0 0 := by rw [getD_app2 (Nat.le_refl _), Nat.sub_self]
  have e2 : (P ++ R).getD (P.length + j) 0 = R.getD j 0 := by rw [getD_app2 (by omega), Nat.add_sub_cancel_left]
  unfold swapL
  rw [e1, e2, List.set_append, if_neg (by omega), Nat.add_sub_cancel_left, List.set_append, if_neg (Nat.lt_irrefl _), Nat.sub_self]
  cases R with
  | nil => exact absurd hj (Nat.not_lt_zero _)
  | cons r0 R =>
    cases j with
    | zero => exact ⟨R, rfl, List.Perm.refl _⟩
    | succ t =>
      have hj : t < R.length := Nat.lt_of_succ_lt_succ hj
      refine ⟨R.set t r0, rfl, ?_⟩
      show (R.getD t 0 :: R.set t r0).Perm (r0 :: R)
      obtain ⟨x, hx⟩ := at_of hj
      obtain ⟨s1, s2⟩ := set_split (y := r0) hx
      rw [getD_of hx, s2]
      have p1 : (R.take t ++ r0 :: R.drop (t + 1)).Perm (r0 :: (R.take t ++ R.drop (t + 1))) := List.perm_middle
      have p2 : R.Perm (x :: (R.take t ++ R.drop (t + 1))) := by
        have q := @List.perm_middle Nat x (R.take t) (R.drop (t + 1))
        rw [← s1] at q
        exact q
      exact ((List.Perm.cons x p1).trans (List.Perm.swap r0 x _)).trans (List.Perm.cons r0 p2.symm)
theorem seg_snoc {L : List Nat} {i k : Nat} (hk : k < L.length) (hi : i ≤ k) : (L.take (k + 1)).drop i = (L.take k).drop i ++ [L.getD k 0] := by
  rw [List.take_add_one, List.getElem?_eq_getElem hk, List.drop_append_of_le_length (by rw [List.length_take]; omega), getD_at hk]
  rfl
section MBS
variable {E : PE} {σ0 σ : PS} {m : Nat} {Ma : Nat → Nat} {I : Nat → Int32} {X : Nat → Nat → Int32} {β : Type} {n : Nat} {kd : Nat → Nat} {bs bo : Nat → List Nat} {S : Option PK}
theorem EV.kx {K : List Nat} {X' : Nat → Nat → Int32} (h : EV n kd bs I X) (hx : Xk K X X') (h1 : 1 ∉ K) (h2 : 2 ∉ K) (h3 : 3 ∉ K) : EV n kd bs I X' := h.ko rfl (hx 1 h1) (hx 2 h2) (hx 3 h3)
theorem sp_c16 {L : List Nat} {i : Nat} {P : Unit → PS → Prop} {K : Option Nat → Int32 → PS → Option (Unit × PS)} (hE : 1000 ≤ E.1) (hO : Ok E σ0) (hA : AE n kd bs) (hL : ∀ x ∈ L, x < n) (hl : L.length ≤ 30) (hi2 : i + 1 < L.length) : ∀ (c f k b : Nat) (σ : PS) (X : Nat → Nat → Int32), L.length = k + c → c < f → MB E σ0 σ m Ma I X → RW L I X → EV n kd bs I X → i + 1 ≤ b → b < k → isMin (fun y => distN (bs (L.getD i 0)) (bs y)) (L.getD b 0) ((L.take k).drop (i + 1)) →
    (∀ τ X' j, MB E σ0 τ m Ma I X' → Xk [15, 16, 18] X X' → i + 1 ≤ j → j < L.length → isMin (fun y => distN (bs (L.getD i 0)) (bs y)) (L.getD j 0) (L.drop (i + 1)) → RW (swapL L (i + 1) j) I X' → wp (K (some m) (nI (i + 1) + 1) τ) P) →
    wp (f_X6_chain_L16 E K f (some m) (nI (i + 1)) (nI b) (nI k) σ) P
  | 0, f, k, b, σ, X, hc, hf, h, hr, hv, hib, hbk, hm, kk => by
    obtain ⟨f, rfl⟩ : ∃ z, f = z + 1 := ⟨f - 1, by omega⟩
    rw [f_X6_chain_L16]
    refine wm_gi h ?_
    rw [hr.1]
    refine wp_t (nI_le (by omega) (by omega)) (wm_gr h (by decide) (wm_al h (by decide) rfl (by show b < 30; omega) (wm_gr h (by decide) (wm_gr h (by decide) (wm_al h (by decide) rfl (by show i + 1 < 30; omega) (wm_as h (by decide) rfl (by show b < 30; omega) (fun s1 q1 => wm_gr q1 (by decide) (wm_as q1 (by decide) rfl (by show i + 1 < 30; omega) (fun s2 q2 => ?_)))))))))
    rw [up_s] at q2
    refine kk s2 _ b q2 ((Xk.u (by decide)).tr (Xk.u (by decide))) hib (by omega) ?_ ⟨?_, fun t ht => ?_⟩
    · have e : L.take k = L := List.take_of_length_le (by omega)
      rw [e] at hm
      exact hm
    · rw [swapL_len]; exact hr.1
    · rw [swapL_len] at ht
      rw [swapL_at hi2 (by omega), up_s]
      by_cases z : t = i + 1
      · rw [if_pos z, z, up_s, hr.2 b (by omega)]
      · rw [if_neg z, up_n z]
        by_cases y : t = b
        · rw [if_pos y, y, up_s, hr.2 (i + 1) hi2]
        · rw [if_neg y, up_n y, hr.2 t ht]
  | c + 1, f, k, b, σ, X, hc, hf, h, hr, hv, hib, hbk, hm, kk => by
    obtain ⟨f, rfl⟩ : ∃ z, f = z + 1 := ⟨f - 1, by omega⟩
    have hk : k < L.length := by omega
    have hln : ∀ t, t < L.length → L.getD t 0 < n := fun t ht => hL _ (by rw [getD_at ht]; exact List.getElem_mem ht)
    have hia := hln i (by omega)
    have hka := hln k hk
    have hba := hln b (by omega)
    have hn : n ≤ 30 := hA.1
    have d1 := distN_le (hA.2 _ hia).2.1 (hA.2 _ hka).2.1
    have d2 := distN_le (hA.2 _ hia).2.1 (hA.2 _ hba).2.1
    rw [f_X6_chain_L16]
    refine wm_gi h ?_
    rw [hr.1]
    refine wp_f (nI_ge (by omega) (by omega)) (wm_gr h (by decide) (wm_al h (by decide) (nI_pred i) (by show i < 30; omega) (wm_gr h (by decide) (wm_al h (by decide) rfl (by show k < 30; omega) (wm_K h ?_)))))
    rw [hr.2 i (by omega), hr.2 k hk]
    refine wp_bd (sp_distanceOf hE hO hA hia hka h hv) ?_
    rintro r s ⟨g1, g2, rfl, h2⟩
    have xk : Xk [15, 16] X (up (up X 15 g1) 16 g2) := Xk.d (by decide) (by decide)
    generalize up (up X 15 g1) 16 g2 = Y at h2 xk
    have hr2 : RW L I Y := hr.ko (xk 18 (by decide))
    have hv2 : EV n kd bs I Y := hv.kx xk (by decide) (by decide) (by decide)
    refine wm_gr h2 (by decide) (wm_al h2 (by decide) (nI_pred i) (by show i < 30; omega) (wm_gr h2 (by decide) (wm_al h2 (by decide) rfl (by show b < 30; omega) (wm_K h2 ?_))))
    rw [hr2.2 i (by omega), hr2.2 b (by omega)]
    refine wp_bd (sp_distanceOf hE hO hA hia hba h2 hv2) ?_
    rintro r s' ⟨g3, g4, rfl, h3⟩
    have xk2 : Xk [15, 16] X (up (up Y 15 g3) 16 g4) := xk.tr (Xk.d (by decide) (by decide))
    generalize up (up Y 15 g3) 16 g4 = Z at h3 xk2
    have hr3 : RW L I Z := hr.ko (xk2 18 (by decide))
    have hv3 : EV n kd bs I Z := hv.kx xk2 (by decide) (by decide) (by decide)
    have xk3 : Xk [15, 16, 18] X Z := xk2.wk (by decide)
    have et := seg_snoc (L := L) (i := i + 1) hk (by omega)
    unfold f_X6_chain_B93 f_X6_chain_B97 f_X6_chain_B98
    rw [nI_1]
    have go : ∀ b', i + 1 ≤ b' → b' < k + 1 → isMin (fun y => distN (bs (L.getD i 0)) (bs y)) (L.getD b' 0) ((L.take (k + 1)).drop (i + 1)) → wp (f_X6_chain_L16 E K f (some m) (nI (i + 1)) (nI b') (nI (k + 1)) s') P := fun b' b1 b2 b3 => sp_c16 hE hO hA hL hl hi2 c f (k + 1) b' s' Z (by omega) (by omega) h3 hr3 hv3 b1 b2 b3 (fun τ X' j t1 t2 t3 t4 t5 t6 => kk τ X' j t1 (xk3.tr t2) t3 t4 t5 t6)
    rw [et] at go
    by_cases z : distN (bs (L.getD i 0)) (bs (L.getD k 0)) < distN (bs (L.getD i 0)) (bs (L.getD b 0))
    · exact wp_t (nI_lt z (by omega)) (go k (by omega) (by omega) (hm.snoc2 (Or.inl z)))
    · refine wp_f (nI_nlt (by omega) (by omega)) ?_
      by_cases y : distN (bs (L.getD i 0)) (bs (L.getD k 0)) = distN (bs (L.getD i 0)) (bs (L.getD b 0))
      · refine wp_t (congrArg nI y) (wm_gr h3 (by decide) (wm_al h3 (by decide) rfl (by show k < 30; omega) (wm_gr h3 (by decide) (wm_al h3 (by decide) rfl (by show b < 30; omega) ?_))))
        rw [hr3.2 k hk, hr3.2 b (by omega)]
        by_cases x : L.getD b 0 ≤ L.getD k 0
        · exact wp_t (nI_le x (by omega)) (go b hib (by omega) (hm.snoc z (fun _ => x)))
        · exact wp_f (nI_ge (by omega) (by omega)) (go k (by omega) (by omega) (hm.snoc2 (Or.inr ⟨y, by omega⟩)))
      · exact wp_f (fun w => y ((nI_eq (by omega) (by omega)).mp w)) (go b hib (by omega) (hm.snoc z (fun w => absurd w y)))
theorem sp_c2 (hE : 1000 ≤ E.1) (hO : Ok E σ0) (hA : AE n kd bs) : ∀ (c f a : Nat) (pre R rest : List Nat) (σ : PS) (X : Nat → Nat → Int32), R.length = c → c < f → R.Perm rest → rest.Pairwise (· < ·) → (∀ x ∈ pre ++ a :: R, x < n) → pre.length + 1 + c ≤ 30 → MB E σ0 σ m Ma I X → RW (pre ++ a :: R) I X → EV n kd bs I X →
    wp (f_X6_chain_L2 E f (some m) (nI (pre.length + 1)) σ) (fun _ τ => ∃ X', MB E σ0 τ m Ma I X' ∧ Xk [15, 16, 18] X X' ∧ RW (pre ++ a :: chainR (fun x y => distN (bs x) (bs y)) c a rest) I X')
  | 0, f, a, pre, R, rest, σ, X, hc, hf, hp, hs, hL, hl, h, hr, hv => by
    obtain ⟨f, rfl⟩ : ∃ z, f = z + 1 := ⟨f - 1, by omega⟩
    have hR : R = [] := List.eq_nil_of_length_eq_zero hc
    subst hR
    rw [f_X6_chain_L2]
    refine wm_gi h ?_
    have e : (pre ++ [a]).length = pre.length + 1 := by rw [List.length_append]; rfl
    rw [hr.1, e]
    exact wp_t (Int32.le_refl _) (wp_ret ⟨X, h, Xk.rf, hr⟩)
  | c + 1, f, a, pre, R, rest, σ, X, hc, hf, hp, hs, hL, hl, h, hr, hv => by
    obtain ⟨f, rfl⟩ : ∃ z, f = z + 1 := ⟨f - 1, by omega⟩
    have e : (pre ++ a :: R).length = pre.length + 1 + (c + 1) := by rw [List.length_append, List.length_cons]; omega
    have e0 : (pre ++ a :: R).getD pre.length 0 = a := by rw [getD_app2 (Nat.le_refl _), Nat.sub_self]; rfl
    have e1 : pre ++ a :: R = (pre ++ [a]) ++ R := by rw [List.append_assoc]; rfl
    have e2 : (pre ++ [a]).length = pre.length + 1 := by rw [List.length_append]; rfl
    have e3 : (pre ++ a :: R).drop (pre.length + 1) = R := by rw [e1, ← e2, List.drop_left]
    rw [f_X6_chain_L2]
    refine wm_gi h ?_
    rw [hr.1, nI_1]
    refine wp_f (nI_ge (by omega) (by omega)) (sp_c16 (L := pre ++ a :: R) (i := pre.length) hE hO hA hL (by omega) (by omega) c E.1 (pre.length + 1 + 1) (pre.length + 1) σ X (by omega) (by omega) h hr hv (Nat.le_refl _) (by omega) ?_ (fun τ X' j t1 t2 t3 t4 t5 t6 => ?_))
    · rw [seg_snoc (by omega) (Nat.le_refl _), List.drop_eq_nil_of_le (by rw [List.length_take]; omega)]
      exact isMin.one
    · rw [e0, e3] at t5
      obtain ⟨j', rfl⟩ : ∃ j', j = pre.length + 1 + j' := ⟨j - (pre.length + 1), by omega⟩
      have hj' : j' < R.length := by omega
      obtain ⟨T, s1, s2⟩ := swapL_split (pre ++ [a]) R j' hj'
      rw [e2, ← e1] at s1
      have e4 : (pre ++ a :: R).getD (pre.length + 1 + j') 0 = R.getD j' 0 := by rw [e1, getD_app2 (by omega), e2, Nat.add_sub_cancel_left]
      rw [e4] at t5
      rw [s1] at t6
      have hr0 : rest ≠ [] := fun z => by
        have := hp.length_eq
        rw [z, hc] at this
        cases this
      have hmin := nearI_min (f := fun y => distN (bs a) (bs y)) hs hr0
      have hxy := (t5.perm hp).uniq hmin
      have hlt := nearI_lt (f := fun y => distN (bs a) (bs y)) (r := rest) (List.length_pos_iff.mpr hr0)
      have pT : T.Perm (rest.eraseIdx (nearI (fun y => distN (bs a) (bs y)) rest)) := by
        have q := (s2.trans hp).trans (era_perm hlt).symm
        rw [hxy] at q
        exact q.cons_inv
      have hTl : T.length = c := by
        have := s2.length_eq
        rw [List.length_cons] at this
        omega
      have e5 : nI (pre.length + 1) + 1 = nI ((pre ++ [a]).length + 1) := by rw [nI_1, e2]
      rw [e5]
      have e6 : pre ++ a :: chainR (fun x y => distN (bs x) (bs y)) (c + 1) a rest = (pre ++ [a]) ++ R.getD j' 0 :: chainR (fun x y => distN (bs x) (bs y)) c (R.getD j' 0) (rest.eraseIdx (nearI (fun y => distN (bs a) (bs y)) rest)) := by
        rw [List.append_assoc, hxy]
        rfl
      rw [e6]
      refine wp_mono (sp_c2 hE hO hA c f (R.getD j' 0) (pre ++ [a]) T _ τ X' hTl (by omega) pT (hs.sublist (List.eraseIdx_sublist ..)) (fun x hx => hL x ?_) (by omega) t1 t6 (hv.kx t2 (by decide) (by decide) (by decide))) ?_
      · rw [e1]
        rcases List.mem_append.mp hx with w | w
        · exact List.mem_append_left _ w
        · exact List.mem_append_right _ (s2.mem_iff.mp w)
      · rintro _ ρ ⟨X2, u1, u2, u3⟩
        exact ⟨X2, u1, t2.tr u2, u3⟩
theorem sp_chain6 {L : List Nat} (hE : 1000 ≤ E.1) (hO : Ok E σ0) (hA : AE n kd bs) (hs : L.Pairwise (· < ·)) (hL : ∀ x ∈ L, x < n) (hl : L.length ≤ 30) (h : MB E σ0 σ m Ma I X) (hr : RW L I X) (hv : EV n kd bs I X) :
    wp (f_X6_chain E (some m) σ) (fun _ τ => ∃ X', MB E σ0 τ m Ma I X' ∧ Xk [15, 16, 18] X X' ∧ RW (chainL (fun x y => distN (bs x) (bs y)) L) I X') := by
  refine wm_oM h hO (fun _ _ ⟨_, q, _⟩ => ⟨_, _, q⟩) ?_
  unfold g_X6_chain
  cases L with
  | nil =>
    obtain ⟨f, hf⟩ : ∃ z, E.1 = z + 1 := ⟨E.1 - 1, by omega⟩
    rw [hf, f_X6_chain_L2]
    refine wm_gi h ?_
    rw [hr.1]
    exact wp_t (show nI 0 ≤ 1 by decide) (wp_ret ⟨X, h, Xk.rf, hr⟩)
  | cons a r =>
    have hl : r.length + 1 ≤ 30 := hl
    exact sp_c2 hE hO hA r.length E.1 a [] r r σ X rfl (by omega) (List.Perm.refl _) (List.pairwise_cons.mp hs).2 hL (by show 0 + 1 + r.length ≤ 30; omega) h hr hv
/-! alike -/
theorem sp_smL6 {a b : Nat} (hn : n ≤ 30) (ha : a < n) (hb : b < n) (hla : (bs a).length ≤ 60) (hlen : (bs a).length = (bs b).length) (hxa : ∀ x ∈ bs a, x < 256) (hxb : ∀ x ∈ bs b, x < 256) (h : MB E σ0 σ m Ma I X) (hv : EV n kd bs I X) : ∀ (c f k : Nat), (bs a).length = k + c → c + 1 < f → f_X6_isSame_L39 E f (some m) (nI a) (nI b) 1 (nI k) σ = some (if (bs a).drop k = (bs b).drop k then 1 else 0, σ)
  | 0, f, k, hc, hf => by
    obtain ⟨f, rfl⟩ : ∃ z, f = z + 1 := ⟨f - 1, by omega⟩
    rw [f_X6_isSame_L39]
    refine em_gr h (by decide) (em_al h (by decide) rfl (by show a < 30; omega) ?_)
    rw [(hv.2 a ha).2.1]
    refine e_t (nI_le (by omega) (by omega)) ?_
    rw [List.drop_eq_nil_of_le (by omega), List.drop_eq_nil_of_le (by omega), if_pos rfl]
    unfold f_X6_isSame_B93
    rw [if_pos (Or.inr rfl)]
  | c + 1, f, k, hc, hf => by
    obtain ⟨f, rfl⟩ : ∃ z, f = z + 1 := ⟨f - 1, by omega⟩
    have l1 := getD_lt hxa k
    have l2 := getD_lt hxb k
    have hk : k < (bs a).length := by omega
    rw [f_X6_isSame_L39]
    refine em_gr h (by decide) (em_al h (by decide) rfl (by show a < 30; omega) ?_)
    rw [(hv.2 a ha).2.1]
    refine e_f (nI_ge (by omega) (by omega)) (e_f ne01 (em_gr h (by decide) (em_al h (by decide) (sx a k) (by show 60 * a + k < 1800; omega) (em_gr h (by decide) (em_al h (by decide) (sx b k) (by show 60 * b + k < 1800; omega) ?_)))))
    rw [(hv.2 a ha).2.2 k hk, (hv.2 b hb).2.2 k (by omega), drop_cons (T := bs a) hk 0, drop_cons (T := bs b) (by omega) 0]
    unfold f_X6_isSame_B86
    rw [nI_1]
    by_cases z : (bs a).getD k 0 = (bs b).getD k 0
    · refine e_t (congrArg nI z) ?_
      rw [sp_smL6 hn ha hb hla hlen hxa hxb h hv c f (k + 1) (by omega) (by omega), z]
      congr 2
      exact if_iff (by rw [List.cons_inj_right]) _ _
    · refine e_f (fun y => z ((nI_eq (by omega) (by omega)).mp y)) ?_
      rw [if_neg (fun w => z (List.cons.inj w).1)]
      obtain ⟨f, rfl⟩ : ∃ z, f = z + 1 := ⟨f - 1, by omega⟩
      rw [f_X6_isSame_L39]
      refine em_gr h (by decide) (em_al h (by decide) rfl (by show a < 30; omega) ?_)
      unfold f_X6_isSame_B93
      rw [if_pos (Or.inl rfl), if_pos rfl]
      split <;> rfl
theorem sp_isSame {a b : Nat} (hE : 1000 ≤ E.1) (hO : Ok E σ0) (hA : AE n kd bs) (ha : a < n) (hb : b < n) (h : MB E σ0 σ m Ma I X) (hv : EV n kd bs I X) : f_X6_isSame E (some m) (nI a) (nI b) σ = some (if kd a = kd b ∧ bs a = bs b then 1 else 0, σ) := by
  have hn : n ≤ 30 := hA.1
  obtain ⟨a1, a2, a3⟩ := hA.2 a ha
  obtain ⟨b1, b2, b3⟩ := hA.2 b hb
  refine oM_rd (h.ok hO) ?_
  unfold g_X6_isSame f_X6_isSame_B34 f_X6_isSame_B35
  have no : f_X6_isSame_L39 E E.1 (some m) (nI a) (nI b) 0 0 σ = some (0, σ) := by
    obtain ⟨f, hf⟩ : ∃ z, E.1 = z + 1 := ⟨E.1 - 1, by omega⟩
    rw [hf, f_X6_isSame_L39]
    refine em_gr h (by decide) (em_al h (by decide) rfl (by show a < 30; omega) ?_)
    unfold f_X6_isSame_B93
    rw [if_pos (Or.inl rfl), if_pos rfl]
    split <;> rfl
  refine em_gr h (by decide) (em_al h (by decide) rfl (by show a < 30; omega) (em_gr h (by decide) (em_al h (by decide) rfl (by show b < 30; omega) ?_)))
  rw [(hv.2 a ha).1, (hv.2 b hb).1]
  by_cases z : kd a = kd b
  · refine e_t (congrArg nI z) (em_gr h (by decide) (em_al h (by decide) rfl (by show a < 30; omega) (em_gr h (by decide) (em_al h (by decide) rfl (by show b < 30; omega) ?_))))
    rw [(hv.2 a ha).2.1, (hv.2 b hb).2.1]
    by_cases y : (bs a).length = (bs b).length
    · refine e_t (congrArg nI y) ?_
      have := sp_smL6 hn ha hb a2 y a3 b3 h hv (bs a).length E.1 0 (by omega) (by omega)
      rw [List.drop_zero, List.drop_zero] at this
      refine Eq.trans this ?_
      congr 2
      exact if_iff ⟨fun w => ⟨z, w⟩, fun w => w.2⟩ _ _
    · refine e_f (fun w => y ((nI_eq (by omega) (by omega)).mp w)) ?_
      rw [if_neg (fun w => y (congrArg List.length w.2))]
      exact no
  · refine e_f (fun w => z ((nI_eq (by omega) (by omega)).mp w)) ?_
    rw [if_neg (fun w => z w.1)]
    exact no
end MBS
