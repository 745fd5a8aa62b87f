/-! READING -/
def firstF (p : Nat → Prop) [DecidablePred p] : Nat → Nat → Option Nat
  | 0, _ => none
  | k + 1, i => if p i then some i else firstF p k (i + 1)
def lastI (p : Nat → Prop) [DecidablePred p] : Nat → Option Nat
  | 0 => none
  | m + 1 => if p m then some m else lastI p m
theorem firstF_some (p : Nat → Prop) [DecidablePred p] : ∀ (k i j : Nat), firstF p k i = some j → p j ∧ i ≤ j ∧ j < i + k ∧ ∀ q, i ≤ q → q < j → ¬ p q
  | 0, i, j, h => by cases h
  | k + 1, i, j, h => by
    unfold firstF at h
    by_cases hp : p i
    · rw [if_pos hp] at h
      cases h
      exact ⟨hp, Nat.le_refl _, by omega, fun q h1 h2 => by omega⟩
    · rw [if_neg hp] at h
      obtain ⟨h1, h2, h3, h4⟩ := firstF_some p k (i + 1) j h
      refine ⟨h1, by omega, by omega, fun q q1 q2 => ?_⟩
      by_cases z : q = i
      · rw [z]; exact hp
      · exact h4 q (by omega) q2
theorem firstF_none (p : Nat → Prop) [DecidablePred p] : ∀ (k i : Nat), firstF p k i = none → ∀ q, i ≤ q → q < i + k → ¬ p q
  | 0, i, h, q, h1, h2 => by omega
  | k + 1, i, h, q, h1, h2 => by
    unfold firstF at h
    by_cases hp : p i
    · rw [if_pos hp] at h; cases h
    · rw [if_neg hp] at h
      by_cases z : q = i
      · rw [z]; exact hp
      · exact firstF_none p k (i + 1) h q (by omega) (by omega)
theorem firstF_congr {p p' : Nat → Prop} [DecidablePred p] [DecidablePred p'] : ∀ (k i : Nat), (∀ q, i ≤ q → q < i + k → (p q ↔ p' q)) → firstF p k i = firstF p' k i
  | 0, _, _ => rfl
  | k + 1, i, h => by
    unfold firstF
    have ih := firstF_congr (p := p) (p' := p') k (i + 1) (fun q h1 h2 => h q (by omega) (by omega))
    by_cases hp : p i
    · rw [if_pos hp, if_pos ((h i (Nat.le_refl _) (by omega)).mp hp)]
    · rw [if_neg hp, if_neg (fun z => hp ((h i (Nat.le_refl _) (by omega)).mpr z)), ih]
theorem lastI_some (p : Nat → Prop) [DecidablePred p] : ∀ (m j : Nat), lastI p m = some j → p j ∧ j < m ∧ ∀ q, j < q → q < m → ¬ p q
  | 0, j, h => by cases h
  | m + 1, j, h => by
    unfold lastI at h
    by_cases hp : p m
    · rw [if_pos hp] at h
      cases h
      exact ⟨hp, by omega, fun q h1 h2 => by omega⟩
    · rw [if_neg hp] at h
      obtain ⟨h1, h2, h3⟩ := lastI_some p m j h
      refine ⟨h1, by omega, fun q q1 q2 => ?_⟩
      by_cases z : q = m
      · rw [z]; exact hp
      · exact h3 q q1 (by omega)
theorem lastI_none (p : Nat → Prop) [DecidablePred p] : ∀ m, lastI p m = none → ∀ q, q < m → ¬ p q
  | 0, _, q, h2 => by omega
  | m + 1, h, q, h2 => by
    unfold lastI at h
    by_cases hp : p m
    · rw [if_pos hp] at h; cases h
    · rw [if_neg hp] at h
      by_cases z : q = m
      · rw [z]; exact hp
      · exact lastI_none p m h q (by omega)
/-- the place of a number in a row; the row's length where it isn't there -/
def ix (e : Nat) : List Nat → Nat
  | [] => 0
  | a :: l => if a = e then 0 else ix e l + 1
theorem ix_cons (e a : Nat) (l : List Nat) : ix e (a :: l) = if a = e then 0 else ix e l + 1 := rfl
theorem ix_le (e : Nat) : ∀ l, ix e l ≤ l.length
  | [] => Nat.le_refl _
  | a :: l => by
    have := ix_le e l
    unfold ix
    split
    · omega
    · show ix e l + 1 ≤ l.length + 1; omega
theorem ix_mem (e : Nat) : ∀ l, ix e l < l.length ↔ e ∈ l
  | [] => ⟨fun h => absurd h (Nat.not_lt_zero _), fun h => nomatch h⟩
  | a :: l => by
    have ih := ix_mem e l
    unfold ix
    by_cases z : a = e
    · rw [if_pos z]
      exact ⟨fun _ => z ▸ List.mem_cons_self .., fun _ => Nat.succ_pos _⟩
    · rw [if_neg z]
      constructor
      · intro h
        have h : ix e l + 1 < l.length + 1 := h
        exact List.mem_cons_of_mem _ (ih.mp (by omega))
      · intro h
        rcases List.mem_cons.mp h with h | h
        · exact absurd h.symm z
        · have := ih.mpr h
          show ix e l + 1 < l.length + 1
          omega
theorem ix_at (e : Nat) : ∀ l : List Nat, e ∈ l → l.getD (ix e l) 0 = e
  | [], h => nomatch h
  | a :: l, h => by
    unfold ix
    by_cases z : a = e
    · rw [if_pos z]; exact z
    · rw [if_neg z]
      rcases List.mem_cons.mp h with h | h
      · exact absurd h.symm z
      · exact ix_at e l h
theorem m1_lt (n : Nat) : (-1 : Int32) < 0 := by decide
section CBS
variable {E : PE} {σ τ : PS} {A : Nat → Nat} {F : Nat → Int32} {LL : Nat → List Nat} {n : Nat} {Es : Nat → Nat} {ed : Nat → Nat × List Nat × Nat} {GA : Nat → Prop} {gd : Nat → Nat × Nat × List Nat × List (Nat × Nat × Nat)}
theorem CB.f0 (h : CB E σ A F LL n Es ed GA gd) : sR σ 6 0 (A 0) = some (A 1) := h.rt.1.1.2.1
theorem CB.f1 (h : CB E σ A F LL n Es ed GA gd) : sR σ 6 1 (A 0) = some (A 2) := h.rt.1.1.2.2.1
theorem CB.f2 (h : CB E σ A F LL n Es ed GA gd) : sR σ 6 2 (A 0) = some (A 3) := h.rt.1.1.2.2.2.1
theorem CB.f3 (h : CB E σ A F LL n Es ed GA gd) : sR σ 6 3 (A 0) = some (A 4) := h.rt.1.1.2.2.2.2.1
theorem CB.f4 (h : CB E σ A F LL n Es ed GA gd) : sR σ 6 4 (A 0) = some (A 5) := h.rt.1.1.2.2.2.2.2.1
theorem CB.f5 (h : CB E σ A F LL n Es ed GA gd) : sR σ 6 5 (A 0) = some (A 7) := h.rt.1.1.2.2.2.2.2.2
theorem CB.fF (h : CB E σ A F LL n Es ed GA gd) (k : Nat) : sI σ 6 k (A 0) = F k := h.rt.1.2 k
theorem j1 : jl 1 := Or.inl rfl
theorem j2 : jl 2 := Or.inr (Or.inl rfl)
theorem j3 : jl 3 := Or.inr (Or.inr (Or.inl rfl))
theorem j4 : jl 4 := Or.inr (Or.inr (Or.inr (Or.inl rfl)))
theorem j6 : jl 6 := Or.inr (Or.inr (Or.inr (Or.inr rfl)))
theorem sp_isKind (hO : Ok E σ) (v : Int32) : f_X5_isKind E v σ = some (if v < 0 ∨ (6 : Int32) ≤ v then 0 else 1, σ) := by
  refine oM_rd hO ?_
  unfold g_X5_isKind f_X5_isKind_B14
  by_cases h1 : v < 0
  · rw [if_pos h1, if_pos (Or.inl h1)]; rfl
  · rw [if_neg h1]
    by_cases h2 : (6 : Int32) ≤ v
    · rw [if_pos h2, if_pos (Or.inr h2)]; rfl
    · rw [if_neg h2, if_neg (fun z => z.elim h1 h2)]; rfl
theorem sp_isEntry (hO : Ok E σ) (h : CB E σ A F LL n Es ed GA gd) (v : Int32) : f_X5_isEntry E (some (A 0)) v σ = some (if v < 0 ∨ nI (LL 1).length ≤ v then 0 else 1, σ) := by
  refine oM_rd hO ?_
  unfold g_X5_isEntry f_X5_isEntry_B19
  by_cases h1 : v < 0
  · rw [if_pos h1, if_pos (Or.inl h1)]; rfl
  · rw [if_neg h1]
    refine e_gr rfl h.kx (e_K h.f0 (h.l j1).1 ?_)
    rw [h.f0]
    refine bd_rd (sp_size hO (h.l j1)) ?_
    by_cases h2 : nI (LL 1).length ≤ v
    · rw [if_pos h2, if_pos (Or.inr h2)]; rfl
    · rw [if_neg h2, if_neg (fun z => z.elim h1 h2)]; rfl
theorem sp_isGroup (hO : Ok E σ) (h : CB E σ A F LL n Es ed GA gd) (v : Int32) : f_X5_isGroup E (some (A 0)) v σ = some (if v < 0 ∨ nI (LL 2).length ≤ v then 0 else 1, σ) := by
  refine oM_rd hO ?_
  unfold g_X5_isGroup f_X5_isGroup_B19
  by_cases h1 : v < 0
  · rw [if_pos h1, if_pos (Or.inl h1)]; rfl
  · rw [if_neg h1]
    refine e_gr rfl h.kx (e_K h.f1 (h.l j2).1 ?_)
    rw [h.f1]
    refine bd_rd (sp_size hO (h.l j2)) ?_
    by_cases h2 : nI (LL 2).length ≤ v
    · rw [if_pos h2, if_pos (Or.inr h2)]; rfl
    · rw [if_neg h2, if_neg (fun z => z.elim h1 h2)]; rfl
theorem in_n {v : Int32} {L : Nat} (hL : L < 2 ^ 31) : (if v < 0 ∨ nI L ≤ v then (0 : Int32) else 1) = 0 ∨ ((if v < 0 ∨ nI L ≤ v then (0 : Int32) else 1) = 1 ∧ ∃ j, j < L ∧ v = nI j) := by
  rcases pk_ix v hL with h | h | ⟨j, h1, h2⟩
  · rw [if_pos (Or.inl h)]; exact Or.inl rfl
  · rw [if_pos (Or.inr h)]; exact Or.inl rfl
  · rw [if_neg (by rw [h2]; exact fun z => z.elim (nI_pos (by omega)) (nI_ge h1 hL))]
    exact Or.inr ⟨rfl, j, h1, h2⟩
theorem in_y {j L : Nat} (h : j < L) (hL : L < 2 ^ 31) : (if nI j < 0 ∨ nI L ≤ nI j then (0 : Int32) else 1) = 1 := if_neg (fun z => z.elim (nI_pos (by omega)) (nI_ge h hL))
theorem ne01 : ¬ (1 : Int32) = 0 := by decide
theorem CB.len (h : CB E σ A F LL n Es ed GA gd) {j : Nat} (hj : jl j) : (LL j).length ≤ 49 := (h.l hj).len
theorem rg_at {n i : Nat} {Es : Nat → Nat} (h : i < n) : ((List.range n).map Es)[i]? = some (Es i) := by
  rw [List.getElem?_map, List.getElem?_range h]; rfl
theorem CB.getE (h : CB E σ A F LL n Es ed GA gd) (hO : Ok E σ) (h1 : LL 1 = (List.range n).map Es) {i : Nat} (hi : i < n) : f_Jx4a65c_get_915e3 E (some (A 1)) (nI i) σ = some (some (Es i), σ) := by
  have := sp_get (i := i) hO (h.l j1) (by rw [h1, List.length_map, List.length_range]; exact hi)
  rw [this, h1, rg_at hi]
theorem CB.lenE (h1 : LL 1 = (List.range n).map Es) : (LL 1).length = n := by rw [h1, List.length_map, List.length_range]
/-! a group's members -/
theorem sp_bbL {g ml : Nat} {mem : List Nat} {bo : Nat → List Nat} (hO : Ok E σ) (hg : sK σ g = some 3) (hr : sR σ 3 0 g = some ml) (hl : isL E σ ml (mem.map Es)) (he : ∀ i ∈ mem, ∃ nu kd tw, isE σ (Es i) nu kd (bo i) tw) (idx : Nat) (hidx : idx ≤ mem.length) : ∀ (k m i : Nat), idx = i + k → k < m → f_X2_bytesBefore_L4 E m (some g) (nI idx) (nI (cont bo (mem.take i)).length) (nI i) σ = some (nI (cont bo (mem.take idx)).length, σ)
  | 0, m, i, hm, hn => by
    obtain ⟨m, rfl⟩ : ∃ z, m = z + 1 := ⟨m - 1, by omega⟩
    have hll := hl.len
    rw [List.length_map] at hll
    rw [f_X2_bytesBefore_L4]
    have : i = idx := by omega
    subst this
    exact e_t (nI_le (by omega) (by omega)) rfl
  | k + 1, m, i, hm, hn => by
    obtain ⟨m, rfl⟩ : ∃ z, m = z + 1 := ⟨m - 1, by omega⟩
    have hll := hl.len
    rw [List.length_map] at hll
    have hi : i < mem.length := by omega
    obtain ⟨nu, kd, tw, b, mm, g0, -⟩ := he mem[i] (List.getElem_mem hi)
    have hlen : (mem.map Es).length = mem.length := List.length_map ..
    have hget : (mem.map Es)[i]? = some (Es mem[i]) := by rw [List.getElem?_map, List.getElem?_eq_getElem hi]; rfl
    have ih := sp_bbL hO hg hr hl he idx hidx k m (i + 1) (by omega) (by omega)
    rw [f_X2_bytesBefore_L4]
    refine e_f (nI_ge (by omega) (by omega)) (e_gr rfl hg (e_K hr hl.1 ?_))
    rw [hr]
    refine bd_rd (sp_size hO hl) ?_
    rw [hlen]
    refine e_f (nI_ge (by omega) (by omega)) (e_gr rfl hg (e_K hr hl.1 ?_))
    rw [hr]
    refine bd_rd (sp_get hO hl (by omega)) ?_
    rw [hget]
    refine e_ca rfl g0.1 (e_gi rfl g0.1 ?_)
    rw [g0.2.2.2.1, nI_add, nI_1]
    have e : (cont bo (mem.take (i + 1))).length = (cont bo (mem.take i)).length + (bo mem[i]).length := by
      unfold cont
      rw [List.take_succ, List.getElem?_eq_getElem hi, List.flatMap_append, List.length_append]
      show _ + (List.flatMap bo [mem[i]]).length = _
      rw [List.flatMap_cons, List.flatMap_nil, List.append_nil]
    rw [← e]
    exact ih
theorem sp_bytesBefore {g ml : Nat} {mem : List Nat} {bo : Nat → List Nat} (hE : 1000 ≤ E.1) (hO : Ok E σ) (hg : sK σ g = some 3) (hr : sR σ 3 0 g = some ml) (hl : isL E σ ml (mem.map Es)) (he : ∀ i ∈ mem, ∃ nu kd tw, isE σ (Es i) nu kd (bo i) tw) {idx : Nat} (hidx : idx ≤ mem.length) : f_X2_bytesBefore E (some g) (nI idx) σ = some (nI (cont bo (mem.take idx)).length, σ) := by
  have hll := hl.len
  rw [List.length_map] at hll
  exact oM_rd hO (sp_bbL hO hg hr hl he idx hidx idx E.1 0 (by omega) (by omega))
theorem sp_byteCount {g ml : Nat} {mem : List Nat} {bo : Nat → List Nat} (hE : 1000 ≤ E.1) (hO : Ok E σ) (hg : sK σ g = some 3) (hr : sR σ 3 0 g = some ml) (hl : isL E σ ml (mem.map Es)) (he : ∀ i ∈ mem, ∃ nu kd tw, isE σ (Es i) nu kd (bo i) tw) : f_X2_byteCount E (some g) σ = some (nI (cont bo mem).length, σ) := by
  refine oM_rd hO ?_
  unfold g_X2_byteCount
  refine e_gr rfl hg (e_K hr hl.1 ?_)
  rw [hr]
  refine bd_rd (sp_size hO hl) (e_K rfl hg ?_)
  rw [List.length_map]
  refine bd_rd (sp_bytesBefore hE hO hg hr hl he (Nat.le_refl _)) ?_
  rw [List.take_length]
theorem sp_ixL {g ml e : Nat} {mem : List Nat} (hO : Ok E σ) (hg : sK σ g = some 3) (hr : sR σ 3 0 g = some ml) (hl : isL E σ ml (mem.map Es)) (he : ∀ i ∈ mem, ∃ kd bs tw, isE σ (Es i) i kd bs tw) (hb : ∀ i ∈ mem, i < 1000) (hei : e < 1000) : ∀ (k m i : Nat), mem.length = i + k → k < m → f_X2_indexOf_L2 E m (some g) (nI e) (nI i) σ = some (if e ∈ mem.drop i then nI (i + ix e (mem.drop i)) else -1, σ)
  | 0, m, i, hm, hn => by
    obtain ⟨m, rfl⟩ : ∃ z, m = z + 1 := ⟨m - 1, by omega⟩
    have hll := hl.len
    have hlen : (mem.map Es).length = mem.length := List.length_map ..
    rw [f_X2_indexOf_L2]
    refine e_gr rfl hg (e_K hr hl.1 ?_)
    rw [hr]
    refine bd_rd (sp_size hO hl) (e_t (by rw [hlen]; exact nI_le (by omega) (by omega)) ?_)
    rw [List.drop_eq_nil_of_le (by omega), if_neg (fun h => nomatch h)]
  | k + 1, m, i, hm, hn => by
    obtain ⟨m, rfl⟩ : ∃ z, m = z + 1 := ⟨m - 1, by omega⟩
    have hll := hl.len
    have hlen : (mem.map Es).length = mem.length := List.length_map ..
    have hi : i < mem.length := by omega
    obtain ⟨kd, bs, tw, b, mm, g0, -⟩ := he mem[i] (List.getElem_mem hi)
    have hbi := hb mem[i] (List.getElem_mem hi)
    have hget : (mem.map Es)[i]? = some (Es mem[i]) := by rw [List.getElem?_map, List.getElem?_eq_getElem hi]; rfl
    have hdrop : mem.drop i = mem[i] :: mem.drop (i + 1) := List.drop_eq_getElem_cons hi
    have ih := sp_ixL hO hg hr hl he hb hei k m (i + 1) (by omega) (by omega)
    rw [f_X2_indexOf_L2]
    refine e_gr rfl hg (e_K hr hl.1 ?_)
    rw [hr]
    refine bd_rd (sp_size hO hl) (e_f (by rw [hlen]; exact nI_ge (by omega) (by omega)) (e_gr rfl hg (e_K hr hl.1 ?_)))
    rw [hr]
    refine bd_rd (sp_get hO hl (by omega)) ?_
    rw [hget]
    refine e_ca rfl g0.1 (e_gi rfl g0.1 ?_)
    rw [g0.2.1, hdrop]
    by_cases z : mem[i] = e
    · refine e_t (congrArg nI z) ?_
      rw [if_pos (z ▸ List.mem_cons_self ..)]
      rw [ix_cons, if_pos z, Nat.add_zero]
    · refine e_f (fun y => z ((nI_eq (by omega) (by omega)).mp y)) ?_
      rw [nI_1, ih]
      rw [ix_cons, if_neg z]
      by_cases y : e ∈ mem.drop (i + 1)
      · rw [if_pos y, if_pos (List.mem_cons_of_mem _ y)]
        congr 3
        omega
      · rw [if_neg y, if_neg (fun w => by rcases List.mem_cons.mp w with w | w; exact z w.symm; exact y w)]
theorem sp_indexOf {g ml e : Nat} {mem : List Nat} (hE : 1000 ≤ E.1) (hO : Ok E σ) (hg : sK σ g = some 3) (hr : sR σ 3 0 g = some ml) (hl : isL E σ ml (mem.map Es)) (he : ∀ i ∈ mem, ∃ kd bs tw, isE σ (Es i) i kd bs tw) (hb : ∀ i ∈ mem, i < 1000) (hei : e < 1000) : f_X2_indexOf E (some g) (nI e) σ = some (if e ∈ mem then nI (ix e mem) else -1, σ) := by
  have hll := hl.len
  rw [List.length_map] at hll
  have := sp_ixL hO hg hr hl he hb hei mem.length E.1 0 (by omega) (by omega)
  rw [List.drop_zero, Nat.zero_add] at this
  exact oM_rd hO this
theorem sp_gplaceOf {g ml e : Nat} {mem : List Nat} {bo : Nat → List Nat} (hE : 1000 ≤ E.1) (hO : Ok E σ) (hg : sK σ g = some 3) (hr : sR σ 3 0 g = some ml) (hl : isL E σ ml (mem.map Es)) (he : ∀ i ∈ mem, ∃ kd tw, isE σ (Es i) i kd (bo i) tw) (hb : ∀ i ∈ mem, i < 1000) (hei : e < 1000) (hem : e ∈ mem) : f_X2_placeOf E (some g) (nI e) σ = some (nI (cont bo (mem.take (ix e mem))).length, σ) := by
  refine oM_rd hO ?_
  unfold g_X2_placeOf
  have h1 := sp_indexOf (E := E) hE hO hg hr hl (fun i hi => by obtain ⟨a, b, c⟩ := he i hi; exact ⟨a, _, b, c⟩) hb hei
  rw [if_pos hem] at h1
  refine e_K rfl hg (bd_rd h1 (e_K rfl hg (bd_rd (sp_bytesBefore hE hO hg hr hl (fun i hi => by obtain ⟨a, b, c⟩ := he i hi; exact ⟨_, a, b, c⟩) (ix_le e mem)) rfl)))
end CBS
