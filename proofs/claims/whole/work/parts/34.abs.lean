/-! THE DOCUMENT's STATE, packed: n entries, kinds kd, bytes bs, twins tw, bound bd, groups gs -/
def flat (gs : List Grp) : List Nat := gs.flatMap (·.2.1)
theorem flat_cons (q : Grp) (gs : List Grp) : flat (q :: gs) = q.2.1 ++ flat gs := List.flatMap_cons
theorem flat_app (a b : List Grp) : flat (a ++ b) = flat a ++ flat b := List.flatMap_append
/-- the group in which an entry is -/
def gx (e : Nat) : List Grp → Nat
  | [] => 0
  | q :: r => if e ∈ q.2.1 then 0 else gx e r + 1
theorem gx_cons (e : Nat) (q : Grp) (r : List Grp) : gx e (q :: r) = if e ∈ q.2.1 then 0 else gx e r + 1 := rfl
theorem mem_flat {e : Nat} {gs : List Grp} : e ∈ flat gs ↔ ∃ q ∈ gs, e ∈ q.2.1 := List.mem_flatMap
theorem gx_lt (e : Nat) : ∀ gs : List Grp, e ∈ flat gs → gx e gs < gs.length ∧ e ∈ (gs.getD (gx e gs) dG).2.1
  | [], h => nomatch h
  | q :: r, h => by
    rw [gx_cons]
    by_cases z : e ∈ q.2.1
    · rw [if_pos z]; exact ⟨Nat.succ_pos _, z⟩
    · rw [if_neg z]
      rw [flat_cons] at h
      rcases List.mem_append.mp h with h | h
      · exact absurd h z
      · have := gx_lt e r h
        exact ⟨Nat.succ_lt_succ this.1, this.2⟩
theorem gx_ge (e : Nat) : ∀ gs : List Grp, e ∉ flat gs → gx e gs = gs.length
  | [], h => rfl
  | q :: r, h => by
    rw [flat_cons] at h
    rw [gx_cons, if_neg (fun z => h (List.mem_append_left _ z)), gx_ge e r (fun z => h (List.mem_append_right _ z))]
    rfl
/-- another entry in its place -/
def swapG (e hr : Nat) : List Grp → List Grp
  | [] => []
  | q :: r => if e ∈ q.2.1 then (q.1, q.2.1.set (ix e q.2.1) hr, q.2.2) :: r else q :: swapG e hr r
theorem swapG_set (e hr : Nat) : ∀ gs : List Grp, gs.set (gx e gs) ((gs.getD (gx e gs) dG).1, (gs.getD (gx e gs) dG).2.1.set (ix e (gs.getD (gx e gs) dG).2.1) hr, (gs.getD (gx e gs) dG).2.2) = swapG e hr gs
  | [] => rfl
  | q :: r => by
    rw [gx_cons]
    by_cases z : e ∈ q.2.1
    · rw [if_pos z]
      unfold swapG
      rw [if_pos z]
      rfl
    · rw [if_neg z]
      have ih := swapG_set e hr r
      unfold swapG
      rw [if_neg z, ← ih]
      rfl
theorem ix_app (e : Nat) (a b : List Nat) : ix e (a ++ b) = if e ∈ a then ix e a else a.length + ix e b := by
  induction a with
  | nil => rw [if_neg (fun h => nomatch h), List.nil_append, List.length_nil, Nat.zero_add]
  | cons x l ih =>
    rw [List.cons_append, ix_cons, ix_cons, ih]
    by_cases z : x = e
    · rw [if_pos z, if_pos z, if_pos (z ▸ List.mem_cons_self ..)]
    · rw [if_neg z, if_neg z]
      by_cases y : e ∈ l
      · rw [if_pos y, if_pos (List.mem_cons_of_mem _ y)]
      · rw [if_neg y, if_neg (fun w => by rcases List.mem_cons.mp w with w | w; exact z w.symm; exact y w), List.length_cons]
        omega
theorem flat_swap (e hr : Nat) : ∀ gs : List Grp, flat (swapG e hr gs) = (flat gs).set (ix e (flat gs)) hr
  | [] => rfl
  | q :: r => by
    unfold swapG
    rw [flat_cons, ix_app]
    by_cases z : e ∈ q.2.1
    · rw [if_pos z, if_pos z, flat_cons]
      show q.2.1.set (ix e q.2.1) hr ++ flat r = _
      rw [List.set_append, if_pos ((ix_mem e q.2.1).mpr z)]
    · rw [if_neg z, if_neg z, flat_cons, flat_swap e hr r, List.set_append, if_neg (by omega)]
      congr 2
      omega
theorem nodup_len : ∀ (n : Nat) (L : List Nat), L.Nodup → (∀ x ∈ L, x < n) → L.length ≤ n
  | 0, L, _, h => by
    cases L with
    | nil => exact Nat.le_refl _
    | cons a l => exact absurd (h a (List.mem_cons_self ..)) (Nat.not_lt_zero _)
  | n + 1, L, hn, h => by
    by_cases z : n ∈ L
    · have h1 := nodup_len n (L.erase n) (hn.erase n) (fun x hx => by
        have hx2 := (List.Nodup.mem_erase_iff hn).mp hx
        have := h x hx2.2
        have := hx2.1
        omega)
      rw [List.length_erase_of_mem z] at h1
      omega
    · have h1 := nodup_len n L hn (fun x hx => by
        have := h x hx
        by_cases y : x = n
        · exact absurd (y ▸ hx) z
        · omega)
      omega
theorem flat_len : ∀ gs : List Grp, (∀ q ∈ gs, q.2.1 ≠ []) → gs.length ≤ (flat gs).length
  | [], _ => Nat.le_refl _
  | q :: r, h => by
    have h1 := flat_len r (fun p hp => h p (List.mem_cons_of_mem _ hp))
    have h2 := h q (List.mem_cons_self ..)
    rw [flat_cons, List.length_append, List.length_cons]
    have : 0 < q.2.1.length := List.length_pos_iff.mpr h2
    omega
theorem mem_len : ∀ (gs : List Grp) (q : Grp), q ∈ gs → q.2.1.length ≤ (flat gs).length
  | [], q, h => nomatch h
  | p :: r, q, h => by
    rw [flat_cons, List.length_append]
    rcases List.mem_cons.mp h with h | h
    · rw [h]; omega
    · have := mem_len r q h; omega
/-- the state's own order -/
def AI (n : Nat) (kd : Nat → Nat) (bs : Nat → List Nat) (tw : Nat → Nat) (bd : Nat) (gs : List Grp) : Prop :=
  (∀ e, e < n → tw e < n ∧ tw (tw e) = tw e ∧ kd (tw e) = kd e ∧ bs (tw e) = bs e) ∧ (flat gs).Nodup ∧ (∀ e, e ∈ flat gs ↔ e < n ∧ tw e = e) ∧ (∀ q ∈ gs, q.2.1 ≠ [] ∧ (∀ e ∈ q.2.1, kd e = q.1) ∧ (cont bs q.2.1).length ≤ 400) ∧ bd ≤ 400
/-- and that of the entries -/
def AE (n : Nat) (kd : Nat → Nat) (bs : Nat → List Nat) : Prop := n ≤ 30 ∧ ∀ e, e < n → kd e < 6 ∧ (bs e).length ≤ 60 ∧ ∀ x ∈ bs e, x < 256
theorem AI.lens {n : Nat} {kd tw : Nat → Nat} {bs : Nat → List Nat} {bd : Nat} {gs : List Grp} (h : AI n kd bs tw bd gs) : (flat gs).length ≤ n ∧ gs.length ≤ n := by
  have h1 := nodup_len n (flat gs) h.2.1 (fun x hx => ((h.2.2.1 x).mp hx).1)
  have h2 := flat_len gs (fun q hq => (h.2.2.2.1 q hq).1)
  exact ⟨h1, by omega⟩
/-- what putE makes -/
theorem set_split {α : Type} {L : List α} {i : Nat} {x y : α} (h : L[i]? = some x) : L = L.take i ++ x :: L.drop (i + 1) ∧ L.set i y = L.take i ++ y :: L.drop (i + 1) := by
  have hl := lt_of h
  constructor
  · have := List.getElem_cons_drop (as := L) (i := i) hl
    rw [List.getElem?_eq_getElem hl] at h
    cases h
    rw [this, List.take_append_drop]
  · rw [List.set_eq_take_append_cons_drop, if_pos hl]
theorem putE_mem {bs : Nat → List Nat} {bd kind e : Nat} {gs : List Grp} : ∀ q ∈ (putE bs bd kind e gs).1, q ∈ gs ∨ (∃ q0 ∈ gs, q0.1 = kind ∧ q = (q0.1, q0.2.1 ++ [e], q0.2.2) ∧ (cont bs q.2.1).length ≤ bd) ∨ q = (kind, [e], 0) := by
  intro q hq
  unfold putE at hq
  have hins : ∀ k, q ∈ ins gs k (kind, [e], 0) → q ∈ gs ∨ (∃ q0 ∈ gs, q0.1 = kind ∧ q = (q0.1, q0.2.1 ++ [e], q0.2.2) ∧ (cont bs q.2.1).length ≤ bd) ∨ q = (kind, [e], 0) := by
    intro k hq
    have := (ins_perm gs k (kind, [e], 0)).mem_iff.mp hq
    rcases List.mem_cons.mp this with h | h
    · exact Or.inr (Or.inr h)
    · exact Or.inl h
  cases ho : lastG kind gs with
  | none => rw [ho] at hq; exact hins _ hq
  | some l =>
    rw [ho] at hq
    simp only [] at hq
    have hl := lastI_some _ _ _ ho
    obtain ⟨p, hp⟩ := at_of hl.2.1
    have e1 : gs.getD l dG = p := getD_of hp
    by_cases hf : (cont bs (gs.getD l dG).2.1).length + (bs e).length ≤ bd
    · rw [if_pos hf] at hq
      obtain ⟨i, hi⟩ := List.getElem?_of_mem hq
      rw [List.getElem?_set] at hi
      by_cases z : l = i
      · rw [if_pos z, if_pos hl.2.1] at hi
        cases hi
        refine Or.inr (Or.inl ⟨p, List.mem_of_getElem? hp, ?_, ?_, ?_⟩)
        · have := hl.1; rw [e1] at this; exact this
        · rw [e1]
        · show (cont bs ((gs.getD l dG).2.1 ++ [e])).length ≤ bd
          unfold cont at hf ⊢
          rw [List.flatMap_append, List.length_append, List.flatMap_cons, List.flatMap_nil, List.append_nil]
          exact hf
      · rw [if_neg z] at hi
        exact Or.inl (List.mem_of_getElem? hi)
    · rw [if_neg hf] at hq; exact hins _ hq
theorem putE_perm {bs : Nat → List Nat} {bd kind e : Nat} {gs : List Grp} : (flat (putE bs bd kind e gs).1).Perm (e :: flat gs) := by
  have hins : ∀ k, (flat (ins gs k (kind, [e], 0))).Perm (e :: flat gs) := fun k => by
    have := (ins_perm gs k (kind, [e], 0)).flatMap_right (fun q : Grp => q.2.1)
    exact this
  unfold putE
  cases ho : lastG kind gs with
  | none => exact hins _
  | some l =>
    simp only []
    have hl := lastI_some _ _ _ ho
    obtain ⟨p, hp⟩ := at_of hl.2.1
    have e1 : gs.getD l dG = p := getD_of hp
    by_cases hf : (cont bs (gs.getD l dG).2.1).length + (bs e).length ≤ bd
    · rw [if_pos hf, e1]
      obtain ⟨s1, s2⟩ := set_split (y := (p.1, p.2.1 ++ [e], p.2.2)) hp
      show (flat (gs.set l (p.1, p.2.1 ++ [e], p.2.2))).Perm _
      rw [s2]
      have e2 : flat gs = flat (gs.take l) ++ (p.2.1 ++ flat (gs.drop (l + 1))) := by
        have := congrArg flat s1
        rw [flat_app, flat_cons] at this
        exact this
      rw [e2, flat_app, flat_cons]
      show (flat (gs.take l) ++ (p.2.1 ++ [e] ++ flat (gs.drop (l + 1)))).Perm _
      rw [List.append_assoc, ← List.append_assoc, ← List.append_assoc (as := flat (gs.take l))]
      exact List.perm_middle
    · rw [if_neg hf]; exact hins _
theorem putE_home {bs : Nat → List Nat} {bd kind e : Nat} {gs : List Grp} : (putE bs bd kind e gs).2 < (putE bs bd kind e gs).1.length ∧ e ∈ ((putE bs bd kind e gs).1.getD (putE bs bd kind e gs).2 dG).2.1 := by
  have hins : ∀ k, k ≤ gs.length → k < (ins gs k (kind, [e], 0)).length ∧ e ∈ ((ins gs k ((kind, [e], 0) : Grp)).getD k dG).2.1 := fun k hk => by
    refine ⟨by rw [ins_len hk]; omega, ?_⟩
    have : (ins gs k ((kind, [e], 0) : Grp))[k]? = some (kind, [e], 0) := by rw [ins_at hk, if_neg (by omega), if_pos rfl]
    rw [getD_of this]
    exact List.mem_singleton.mpr rfl
  unfold putE
  cases ho : lastG kind gs with
  | none => exact hins _ (Nat.le_refl _)
  | some l =>
    simp only []
    have hl := lastI_some _ _ _ ho
    by_cases hf : (cont bs (gs.getD l dG).2.1).length + (bs e).length ≤ bd
    · rw [if_pos hf]
      refine ⟨by rw [List.length_set]; exact hl.2.1, ?_⟩
      have : (gs.set l ((gs.getD l dG).1, (gs.getD l dG).2.1 ++ [e], (gs.getD l dG).2.2))[l]? = some ((gs.getD l dG).1, (gs.getD l dG).2.1 ++ [e], (gs.getD l dG).2.2) := by rw [List.getElem?_set, if_pos rfl, if_pos hl.2.1]
      rw [getD_of this]
      exact List.mem_append_right _ (List.mem_singleton.mpr rfl)
    · rw [if_neg hf]; exact hins _ (by have := hl.2.1; omega)
/-- an entry that is in no group comes into one -/
theorem AI.put {n : Nat} {kd tw tw' : Nat → Nat} {bs : Nat → List Nat} {bd e : Nat} {gs : List Grp} (h2 : (flat gs).Nodup) (h4 : ∀ q ∈ gs, q.2.1 ≠ [] ∧ (∀ e ∈ q.2.1, kd e = q.1) ∧ (cont bs q.2.1).length ≤ 400) (h5 : bd ≤ 400) (h1 : ∀ e, e < n → tw' e < n ∧ tw' (tw' e) = tw' e ∧ kd (tw' e) = kd e ∧ bs (tw' e) = bs e) (he : e ∉ flat gs) (hl : (bs e).length ≤ 60) (h3 : ∀ i, i ∈ flat gs ∨ i = e ↔ i < n ∧ tw' i = i) : AI n kd bs tw' bd (putE bs bd (kd e) e gs).1 := by
  refine ⟨h1, putE_perm.nodup_iff.mpr (List.nodup_cons.mpr ⟨he, h2⟩), fun i => ?_, fun q hq => ?_, h5⟩
  · rw [putE_perm.mem_iff, List.mem_cons, ← h3 i]
    exact ⟨fun z => z.elim Or.inr Or.inl, fun z => z.elim Or.inr Or.inl⟩
  · rcases putE_mem q hq with z | ⟨q0, z1, z2, z3, z4⟩ | z
    · exact h4 q z
    · refine ⟨?_, fun i hi => ?_, by omega⟩
      · rw [z3]; simp
      · rw [z3] at hi ⊢
        rcases List.mem_append.mp hi with w | w
        · exact (h4 q0 z1).2.1 i w
        · rw [List.mem_singleton.mp w]; exact z2.symm
    · rw [z]
      refine ⟨by simp, fun i hi => ?_, ?_⟩
      · rw [List.mem_singleton.mp hi]
      · show (cont bs [e]).length ≤ 400
        unfold cont
        rw [List.flatMap_cons, List.flatMap_nil, List.append_nil]
        omega
