/-! the GROUPS: kind, members, how often made anew -/
abbrev Grp : Type := Nat × List Nat × Nat
def dG : Grp := (0, [], 0)
def ins {α : Type} (L : List α) (i : Nat) (x : α) : List α := L.take i ++ x :: L.drop i
theorem ins_len {α : Type} {L : List α} {i : Nat} {x : α} (h : i ≤ L.length) : (ins L i x).length = L.length + 1 := by
  unfold ins
  rw [List.length_append, List.length_take, List.length_cons, List.length_drop]
  omega
theorem ins_at {α : Type} {L : List α} {i : Nat} {x : α} (h : i ≤ L.length) (j : Nat) : (ins L i x)[j]? = if j < i then L[j]? else if j = i then some x else L[j - 1]? := by
  unfold ins
  have hl : (L.take i).length = i := by rw [List.length_take]; omega
  by_cases h1 : j < i
  · rw [if_pos h1, List.getElem?_append_left (by omega), List.getElem?_take_of_lt h1]
  · rw [if_neg h1, List.getElem?_append_right (by omega), hl]
    by_cases h2 : j = i
    · rw [if_pos h2, h2, Nat.sub_self]; rfl
    · rw [if_neg h2]
      obtain ⟨q, hq⟩ : ∃ q, j - i = q + 1 := ⟨j - i - 1, by omega⟩
      rw [hq, List.getElem?_cons_succ, List.getElem?_drop]
      congr 1
      omega
theorem ins_map {α β : Type} (f : α → β) (L : List α) (i : Nat) (x : α) : (ins L i x).map f = ins (L.map f) i (f x) := by
  unfold ins
  rw [List.map_append, List.map_cons, List.map_take, List.map_drop]
theorem ins_perm {α : Type} (L : List α) (i : Nat) (x : α) : (ins L i x).Perm (x :: L) := by
  unfold ins
  have := @List.perm_middle α x (L.take i) (L.drop i)
  rw [List.take_append_drop] at this
  exact this
theorem nd_ix : ∀ (L : List Nat), L.Nodup → ∀ (i j a : Nat), L[i]? = some a → L[j]? = some a → i = j
  | [], _, i, j, a, h, _ => by cases h
  | b :: l, hn, i, j, a, h1, h2 => by
    have hc := List.nodup_cons.mp hn
    cases i with
    | zero =>
      cases j with
      | zero => rfl
      | succ j =>
        have e1 : some b = some a := h1
        have e2 : l[j]? = some a := h2
        cases e1
        exact absurd (List.mem_of_getElem? e2) hc.1
    | succ i =>
      cases j with
      | zero =>
        have e1 : some b = some a := h2
        have e2 : l[i]? = some a := h1
        cases e1
        exact absurd (List.mem_of_getElem? e2) hc.1
      | succ j =>
        have := nd_ix l hc.2 i j a h1 h2
        omega
theorem getD_of {α : Type} {L : List α} {i : Nat} {x d : α} (h : L[i]? = some x) : L.getD i d = x := by rw [List.getD_eq_getElem?_getD, h]; rfl
theorem at_of {α : Type} {L : List α} {i : Nat} (h : i < L.length) : ∃ x, L[i]? = some x := ⟨L[i], List.getElem?_eq_getElem h⟩
theorem lt_of {α : Type} {L : List α} {i : Nat} {x : α} (h : L[i]? = some x) : i < L.length := by
  by_cases z : i < L.length
  · exact z
  · rw [List.getElem?_eq_none (by omega)] at h; cases h
theorem map_at {α β : Type} {f : α → β} {L : List α} {i : Nat} {x : α} (h : L[i]? = some x) : (L.map f)[i]? = some (f x) := by rw [List.getElem?_map, h]; rfl
def lastG (kind : Nat) (gs : List Grp) : Option Nat := lastI (fun i => (gs.getD i dG).1 = kind) gs.length
def putE (bs : Nat → List Nat) (bd kind e : Nat) (gs : List Grp) : List Grp × Nat := match lastG kind gs with
  | none => (ins gs gs.length (kind, [e], 0), gs.length)
  | some l => if (cont bs (gs.getD l dG).2.1).length + (bs e).length ≤ bd then (gs.set l ((gs.getD l dG).1, (gs.getD l dG).2.1 ++ [e], (gs.getD l dG).2.2), l) else (ins gs (l + 1) (kind, [e], 0), l + 1)
def encO : Option Nat → Int32
  | none => -1
  | some l => nI l
theorem pm1 (x : Int32) : x + (-1) = x - 1 := by rw [Int32.sub_eq_add_neg]
/-- the groups that there are: in the row, and spare -/
def LV (LL : Nat → List Nat) (GA : Nat → Prop) (G : List (Nat × Grp)) (P : List Nat) : Prop := LL 2 = G.map (·.1) ∧ LL 3 = P ∧ (∀ (i : Nat) (p : Nat × Grp), G[i]? = some p → GA p.1) ∧ (∀ g ∈ P, GA g) ∧ (G.map (·.1) ++ P).Nodup
/-- what the groups of the row hold; V: whose tokens are right -/
def RG (Es : Nat → Nat) (bs : Nat → List Nat) (V : Nat → Prop) (G : List (Nat × Grp)) (gd : Nat → Nat × Nat × List Nat × List (Nat × Nat × Nat)) : Prop := ∀ (i : Nat) (p : Nat × Grp), G[i]? = some p → (gd p.1).1 = p.2.1 ∧ (gd p.1).2.1 = p.2.2.2 ∧ (gd p.1).2.2.1 = p.2.2.1.map Es ∧ (V p.1 → (gd p.1).2.2.2 = toks (cont bs p.2.2.1))
/-- room: u lists' rows, and what groups are more -/
def Bg (σ τ : PS) (t t' u : Nat) : Prop := (sN σ ≤ sN τ ∧ sS σ ≤ sS τ) ∧ sN τ + 6 * t ≤ sN σ + u + 6 * t' ∧ sS τ + 1212 * t ≤ sS σ + 49 * u + 1212 * t' ∧ (t ≤ 30 → t' ≤ 30)
theorem Bg.tr {σ τ ρ : PS} {t t' t'' u u' : Nat} (h : Bg σ τ t t' u) (k : Bg τ ρ t' t'' u') : Bg σ ρ t t'' (u + u') := by
  obtain ⟨⟨a1, a2⟩, a3, a4, a5⟩ := h
  obtain ⟨⟨b1, b2⟩, b3, b4, b5⟩ := k
  exact ⟨⟨by omega, by omega⟩, by omega, by omega, fun z => b5 (a5 z)⟩
theorem Bg.wk {σ τ : PS} {t t' u u' : Nat} (h : Bg σ τ t t' u) (hu : u ≤ u') : Bg σ τ t t' u' := by
  obtain ⟨⟨a1, a2⟩, a3, a4, a5⟩ := h
  exact ⟨⟨a1, a2⟩, by omega, by omega, a5⟩
theorem Gr.bg {σ τ : PS} {m s u t : Nat} (h : Gr σ τ m s) (h1 : m ≤ u) (h2 : s ≤ 49 * u) : Bg σ τ t t u := by
  obtain ⟨a1, a2, a3, a4⟩ := h
  exact ⟨⟨a1, a2⟩, by omega, by omega, fun z => z⟩
theorem Bg.rf {σ : PS} {t : Nat} : Bg σ σ t t 0 := ⟨⟨Nat.le_refl _, Nat.le_refl _⟩, by omega, by omega, fun z => z⟩
section CBS
variable {E : PE} {σ τ : PS} {A : Nat → Nat} {F : Nat → Int32} {LL : Nat → List Nat} {n : Nat} {Es : Nat → Nat} {ed : Nat → Nat × List Nat × Nat} {GA : Nat → Prop} {gd : Nat → Nat × Nat × List Nat × List (Nat × Nat × Nat)} {G : List (Nat × Grp)} {P : List Nat} {bs : Nat → List Nat} {V : Nat → Prop}
theorem LV.ix (h : LV LL GA G P) {i j : Nat} {p q : Nat × Grp} (hi : G[i]? = some p) (hj : G[j]? = some q) (e : p.1 = q.1) : i = j :=
  nd_ix _ (List.nodup_append.mp h.2.2.2.2).1 i j p.1 (map_at hi) (by rw [e]; exact map_at hj)
theorem CB.lenG (h : CB E σ A F LL n Es ed GA gd) (hv : LV LL GA G P) : G.length ≤ 49 := by
  have := h.len j2
  rw [hv.1, List.length_map] at this
  exact this
theorem CB.getG (h : CB E σ A F LL n Es ed GA gd) (hO : Ok E σ) (hv : LV LL GA G P) {i : Nat} {p : Nat × Grp} (hi : G[i]? = some p) : f_Jx4a65c_get_915e3 E (some (A 2)) (nI i) σ = some (some p.1, σ) := by
  have := sp_get (i := i) hO (h.l j2) (by rw [hv.1, List.length_map]; exact lt_of hi)
  rw [this, hv.1, map_at hi]
theorem sp_lastL {kind : Nat} (hk : kind < 1000) (hO : Ok E σ) (h : CB E σ A F LL n Es ed GA gd) (hv : LV LL GA G P) (hR : RG Es bs V G gd) (hkd : ∀ (i : Nat) (p : Nat × Grp), G[i]? = some p → p.2.1 < 1000) : ∀ (m f : Nat), m ≤ G.length → m < f → f_X5_lastGroupOf_L10 E f (some (A 0)) (nI kind) (nI m - 1) σ = some (encO (lastI (fun i => ((G.map (·.2)).getD i dG).1 = kind) m), σ)
  | 0, f, hm, hf => by
    obtain ⟨f, rfl⟩ : ∃ z, f = z + 1 := ⟨f - 1, by omega⟩
    rw [f_X5_lastGroupOf_L10]
    exact e_t (show nI 0 - 1 < 0 by decide) rfl
  | m + 1, f, hm, hf => by
    obtain ⟨f, rfl⟩ : ∃ z, f = z + 1 := ⟨f - 1, by omega⟩
    have hl := h.lenG hv
    have ih := sp_lastL hk hO h hv hR hkd m f (by omega) (by omega)
    obtain ⟨p, hp⟩ := at_of (L := G) (i := m) (by omega)
    have hg := h.g (hv.2.2.1 m p hp)
    rw [f_X5_lastGroupOf_L10, nI_pred]
    refine e_f (nI_pos (by omega)) (e_gr rfl h.kx (e_K h.f1 (h.l j2).1 ?_))
    rw [h.f1]
    refine bd_rd (h.getG hO hv hp) (e_ca rfl hg.1 (e_gi rfl hg.1 ?_))
    rw [hg.2.1, (hR m p hp).1]
    have e1 : ((G.map (·.2)).getD m dG) = p.2 := getD_of (map_at hp)
    have hkp := hkd m p hp
    by_cases z : p.2.1 = kind
    · have e2 : lastI (fun i => ((G.map (·.2)).getD i dG).1 = kind) (m + 1) = some m := if_pos (show ((G.map (·.2)).getD m dG).1 = kind by rw [e1]; exact z)
      rw [e2]
      exact e_t (congrArg nI z) rfl
    · have e2 : lastI (fun i => ((G.map (·.2)).getD i dG).1 = kind) (m + 1) = lastI (fun i => ((G.map (·.2)).getD i dG).1 = kind) m := if_neg (show ¬ ((G.map (·.2)).getD m dG).1 = kind by rw [e1]; exact z)
      rw [e2]
      refine e_f (fun y => z ((nI_eq (by omega) (by omega)).mp y)) ?_
      rw [pm1]
      exact ih
theorem sp_lastGroupOf {kind : Nat} (hE : 1000 ≤ E.1) (hk : kind < 1000) (hO : Ok E σ) (h : CB E σ A F LL n Es ed GA gd) (hv : LV LL GA G P) (hR : RG Es bs V G gd) (hkd : ∀ (i : Nat) (p : Nat × Grp), G[i]? = some p → p.2.1 < 1000) : f_X5_lastGroupOf E (some (A 0)) (nI kind) σ = some (encO (lastG kind (G.map (·.2))), σ) := by
  have hl := h.lenG hv
  refine oM_rd hO ?_
  unfold g_X5_lastGroupOf
  refine e_gr rfl h.kx (e_K h.f1 (h.l j2).1 ?_)
  rw [h.f1]
  refine bd_rd (sp_size hO (h.l j2)) ?_
  rw [hv.1, List.length_map]
  have := sp_lastL hk hO h hv hR hkd G.length E.1 (Nat.le_refl _) (by omega)
  rw [this]
  unfold lastG
  rw [List.length_map]
theorem enc_in {o : Option Nat} {L : Nat} (hL : L < 2 ^ 31) (h : ∀ l, o = some l → l < L) : (if encO o < 0 ∨ nI L ≤ encO o then (0 : Int32) else 1) = if o = none then 0 else 1 := by
  cases o with
  | none => rw [if_pos rfl, if_pos (Or.inl (by decide))]
  | some l =>
    have e : (if some l = none then (0 : Int32) else 1) = 1 := if_neg (fun z => nomatch z)
    rw [e]
    exact in_y (h l rfl) hL
/-- the members of a group, as entries -/
theorem CB.mems (h : CB E σ A F LL n Es ed GA gd) {mem : List Nat} (hb : ∀ i, (ed i).2.1 = bs i) (hm : ∀ i ∈ mem, i < n) : ∀ i ∈ mem, ∃ nu kd tw, isE σ (Es i) nu kd (bs i) tw := fun i hi => ⟨i, (ed i).1, (ed i).2.2, by rw [← hb i]; exact h.e (hm i hi)⟩
theorem cont_le {bs : Nat → List Nat} {mem : List Nat} (h : ∀ i ∈ mem, (bs i).length ≤ 60) : (cont bs mem).length ≤ 60 * mem.length := by
  unfold cont
  induction mem with
  | nil => simp
  | cons a l ih =>
    have h1 := h a (List.mem_cons_self ..)
    have h2 := ih (fun i hi => h i (List.mem_cons_of_mem _ hi))
    rw [List.flatMap_cons, List.length_append, List.length_cons]
    omega
theorem sp_putAtEndOf {kind bd e : Nat} (hE : 1000 ≤ E.1) (hn : n ≤ 1000) (h : CB E σ A F LL n Es ed GA gd) (hv : LV LL GA G P) (hR : RG Es bs V G gd) (hkd : ∀ (i : Nat) (p : Nat × Grp), G[i]? = some p → p.2.1 < 1000) (hmm : ∀ (i : Nat) (p : Nat × Grp), G[i]? = some p → p.2.2.1.length ≤ 30 ∧ ∀ j ∈ p.2.2.1, j < n) (hb : ∀ i, (ed i).2.1 = bs i) (hk : kind < 1000) (he : e < n) (hF : F 7 = nI bd) (hbd : bd ≤ 400) (hGl : G.length ≤ 29) (h1 : sN σ + 8 ≤ E.2.1) (h2 : sS σ + 1310 ≤ E.2.2.1) :
    wp (f_X5_putAtEndOf E (some (A 0)) (nI kind) (some (Es e)) σ) (fun r τ => ∃ (LL' : Nat → List Nat) (GA' : Nat → Prop) (gd' : Nat → Nat × Nat × List Nat × List (Nat × Nat × Nat)) (G' : List (Nat × Grp)) (P' : List Nat) (hm : Nat), r = some hm ∧ CB E τ A F LL' n Es ed GA' gd' ∧ LV LL' GA' G' P' ∧ RG Es bs (fun a => V a ∧ a ≠ hm) G' gd' ∧ G'.map (·.2) = (putE bs bd kind e (G.map (·.2))).1 ∧ (∃ q, G'[(putE bs bd kind e (G.map (·.2))).2]? = some (hm, q)) ∧ (LL' 1 = LL 1 ∧ LL' 4 = LL 4 ∧ LL' 6 = LL 6) ∧ Fc E σ τ ∧ Bg σ τ (G.length + P.length) (G'.length + P'.length) 2) := by
  have hO : Ok E σ := ⟨by omega, by omega⟩
  have hl := h.lenG hv
  have hlg : ∀ l, lastG kind (G.map (·.2)) = some l → l < G.length := fun l hl => by
    have := (lastI_some _ _ _ hl).2.1
    rw [List.length_map] at this
    exact this
  have hG2 : (LL 2).length = G.length := by rw [hv.1, List.length_map]
  have hke := h.ke he
  -- the tail: a fresh group behind place k
  have tail : ∀ (v3 : Int32) (k : Nat), k ≤ G.length → (v3 < 0 ∧ k = G.length) ∨ (∃ l, l < G.length ∧ v3 = nI l ∧ k = l + 1) → putE bs bd kind e (G.map (·.2)) = (ins (G.map (·.2)) k (kind, [e], 0), k) →
      wp (f_X5_putAtEndOf_B57 E (some (A 0)) (nI kind) (some (Es e)) v3 σ) (fun r τ => (sN σ ≤ sN τ ∧ sS σ ≤ sS τ ∧ sN τ ≤ E.2.1 ∧ sS τ ≤ E.2.2.1) ∧ ∃ (LL' : Nat → List Nat) (GA' : Nat → Prop) (gd' : Nat → Nat × Nat × List Nat × List (Nat × Nat × Nat)) (G' : List (Nat × Grp)) (P' : List Nat) (hm : Nat), r = some hm ∧ CB E τ A F LL' n Es ed GA' gd' ∧ LV LL' GA' G' P' ∧ RG Es bs (fun a => V a ∧ a ≠ hm) G' gd' ∧ G'.map (·.2) = (putE bs bd kind e (G.map (·.2))).1 ∧ (∃ q, G'[(putE bs bd kind e (G.map (·.2))).2]? = some (hm, q)) ∧ (LL' 1 = LL 1 ∧ LL' 4 = LL 4 ∧ LL' 6 = LL 6) ∧ Fc E σ τ ∧ Bg σ τ (G.length + P.length) (G'.length + P'.length) 2) := by
    intro v3 k hk2 hv3 hput
    unfold f_X5_putAtEndOf_B57
    refine wp_K rfl h.kx (wp_bd (sp_freshGroup (kind := kind) hE h hv.2.1 hv.2.2.2.1 (by omega) (by omega)) ?_)
    rintro r s ⟨g, GA', rfl, cb, hga, hsub, fc, hsz⟩
    have hs12 : sN s + 2 ≤ E.2.1 ∧ sS s + 98 ≤ E.2.2.1 := by
      rcases hsz with ⟨-, z⟩ | ⟨-, -, z⟩
      · have := z.2.2.1; have := z.2.2.2; exact ⟨by omega, by omega⟩
      · have := z.2.2.1; have := z.2.2.2; exact ⟨by omega, by omega⟩
    have ig : isG E s g kind 0 [] [] := by have := cb.g hga; rw [up_s] at this; exact this
    obtain ⟨ml, r1, r2, run⟩ := ig.addM cb.wf (by simp) (fc.k hke) (by omega) (by omega)
    refine wp_gr rfl ig.1 (wp_K r1 r2 ?_)
    rw [r1]
    refine wp_bd run ?_
    rintro _ s2 ⟨i1, i2, i3⟩
    have cb2 := cb.grp (g := g) (d := (kind, 0, [Es e], [])) hga i2 (fun _ z => z) i1
    have hO2 : Ok E s2 := ⟨by have := i3.2.2.1; omega, by have := i3.2.2.2; omega⟩
    have hLg : (up LL 3 P.dropLast) 2 = G.map (·.1) := by rw [up_n (by decide)]; exact hv.1
    have l2 := cb2.l j2
    rw [hLg] at l2
    have hlen : (G.map (·.1)).length = G.length := List.length_map ..
    refine wp_gr rfl cb2.kx (wp_K rfl cb2.kx (wp_rd (sp_isGroup hO2 cb2 v3) ?_))
    rw [cb2.f1, hLg, hlen]
    have fin : wp (f_X5_putAtEndOf_B99 E (some g) (some (A 2)) (nI k) s2) (fun r τ => (sN σ ≤ sN τ ∧ sS σ ≤ sS τ ∧ sN τ ≤ E.2.1 ∧ sS τ ≤ E.2.2.1) ∧ ∃ (LL' : Nat → List Nat) (GA' : Nat → Prop) (gd' : Nat → Nat × Nat × List Nat × List (Nat × Nat × Nat)) (G' : List (Nat × Grp)) (P' : List Nat) (hm : Nat), r = some hm ∧ CB E τ A F LL' n Es ed GA' gd' ∧ LV LL' GA' G' P' ∧ RG Es bs (fun a => V a ∧ a ≠ hm) G' gd' ∧ G'.map (·.2) = (putE bs bd kind e (G.map (·.2))).1 ∧ (∃ q, G'[(putE bs bd kind e (G.map (·.2))).2]? = some (hm, q)) ∧ (LL' 1 = LL 1 ∧ LL' 4 = LL 4 ∧ LL' 6 = LL 6) ∧ Fc E σ τ ∧ Bg σ τ (G.length + P.length) (G'.length + P'.length) 2) := by
      unfold f_X5_putAtEndOf_B99
      refine wp_K rfl l2.1 (wp_bd (so_addAt cb2.wf l2 (by omega) (by omega) (Or.inr (cb2.g hga).1) (by have := i3.2.2.1; omega) (by have := i3.2.2.2; omega)) ?_)
      rintro _ τ ⟨t1, t2, t3⟩
      have cb3 := cb2.lst j2 t2 t1
      have fcT : Fc E σ τ := (fc.tr (Fc.of i2 (fun b z => by
        rcases ig.parts z with e | e | e
        · exact ⟨_, e.2, by decide⟩
        · exact ⟨_, e.2, by decide⟩
        · exact ⟨_, e.2, by decide⟩))).tr (Fc.one t2 l2.1 (by decide))
      have hdif : ∀ (i : Nat) (p : Nat × Grp), G[i]? = some p → p.1 ≠ g := by
        intro i p hp z
        rcases hsz with ⟨e1, -⟩ | ⟨e1, e2, -⟩
        · have hnd := (List.nodup_append.mp hv.2.2.2.2).2.2
          have m1 : p.1 ∈ G.map (·.1) := List.mem_of_getElem? (map_at hp)
          have m2 : g ∈ P := by rw [e1]; exact List.mem_append_right _ (List.mem_singleton.mpr rfl)
          exact hnd p.1 m1 g m2 z
        · exact e2 (z ▸ hv.2.2.1 i p hp)
      have hsz2 : sN τ ≤ sN s + 2 ∧ sS τ ≤ sS s + 98 ∧ sN s ≤ sN τ ∧ sS s ≤ sS τ := ⟨by have := i3.2.2.1; have := t3.2.2.1; omega, by have := i3.2.2.2; have := t3.2.2.2; omega, by have := i3.1; have := t3.1; omega, by have := i3.2.1; have := t3.2.1; omega⟩
      have hss : sN σ ≤ sN s ∧ sS σ ≤ sS s := by
        rcases hsz with ⟨-, z⟩ | ⟨-, -, z⟩
        · exact ⟨z.1, z.2.1⟩
        · exact ⟨z.1, z.2.1⟩
      refine wp_ret ⟨⟨by omega, by omega, by omega, by omega⟩, up (up LL 3 P.dropLast) 2 (insL (G.map (·.1)) k g), GA', up (up gd g (kind, 0, [], [])) g (kind, 0, [Es e], []), ins G k (g, (kind, [e], 0)), P.dropLast, g, rfl, cb3, ⟨?_, ?_, ?_, ?_, ?_⟩, ?_, ?_, ?_, ⟨?_, ?_, ?_⟩, fcT, ?_⟩
      · rw [up_s, ins_map]; rfl
      · rw [up_n (by decide), up_s]
      · intro i p hp
        rw [ins_at hk2] at hp
        by_cases c1 : i < k
        · rw [if_pos c1] at hp; exact hsub _ (hv.2.2.1 i p hp)
        · rw [if_neg c1] at hp
          by_cases c2 : i = k
          · rw [if_pos c2] at hp; cases hp; exact hga
          · rw [if_neg c2] at hp; exact hsub _ (hv.2.2.1 _ p hp)
      · intro b hb2
        exact hsub b (hv.2.2.2.1 b (List.dropLast_subset _ hb2))
      · rw [ins_map]
        have pm : (ins (G.map (·.1)) k g ++ P.dropLast).Perm (g :: (G.map (·.1) ++ P.dropLast)) := (ins_perm _ _ _).append_right _
        refine pm.nodup_iff.mpr ?_
        rcases hsz with ⟨e1, -⟩ | ⟨e1, e2, -⟩
        · have pm2 : (G.map (·.1) ++ P).Perm (g :: (G.map (·.1) ++ P.dropLast)) := by
            have : (G.map (·.1) ++ P).Perm (G.map (·.1) ++ (g :: P.dropLast)) := by
              refine List.Perm.append_left _ ?_
              have q := @List.perm_append_singleton Nat g P.dropLast
              rw [← e1] at q
              exact q
            exact this.trans List.perm_middle
          exact pm2.nodup_iff.mp hv.2.2.2.2
        · rw [e1]
          show (g :: (G.map (·.1) ++ [])).Nodup
          have hnd := hv.2.2.2.2
          rw [e1] at hnd
          refine List.nodup_cons.mpr ⟨fun z => ?_, hnd⟩
          rw [List.append_nil] at z
          obtain ⟨i, hi⟩ := List.getElem?_of_mem z
          rw [List.getElem?_map] at hi
          cases hq : G[i]? with
          | none => rw [hq] at hi; cases hi
          | some p => rw [hq] at hi; exact hdif i p hq (Option.some.inj hi)
      · intro i p hp
        rw [ins_at hk2] at hp
        have old : ∀ j : Nat, G[j]? = some p → (up (up gd g (kind, 0, [], [])) g (kind, 0, [Es e], []) p.1).1 = p.2.1 ∧ (up (up gd g (kind, 0, [], [])) g (kind, 0, [Es e], []) p.1).2.1 = p.2.2.2 ∧ (up (up gd g (kind, 0, [], [])) g (kind, 0, [Es e], []) p.1).2.2.1 = p.2.2.1.map Es ∧ (V p.1 ∧ p.1 ≠ g → (up (up gd g (kind, 0, [], [])) g (kind, 0, [Es e], []) p.1).2.2.2 = toks (cont bs p.2.2.1)) := by
          intro j hj
          have hne := hdif j p hj
          rw [up_n hne, up_n hne]
          obtain ⟨a1, a2, a3, a4⟩ := hR j p hj
          exact ⟨a1, a2, a3, fun z => a4 z.1⟩
        by_cases c1 : i < k
        · rw [if_pos c1] at hp; exact old i hp
        · rw [if_neg c1] at hp
          by_cases c2 : i = k
          · rw [if_pos c2] at hp
            cases hp
            rw [up_s]
            exact ⟨rfl, rfl, rfl, fun z => absurd rfl z.2⟩
          · rw [if_neg c2] at hp; exact old _ hp
      · rw [ins_map, hput]
      · rw [hput]
        refine ⟨(kind, [e], 0), ?_⟩
        show (ins G k (g, (kind, [e], 0)))[k]? = _
        rw [ins_at hk2, if_neg (by omega), if_pos rfl]
      · rw [up_n (by decide), up_n (by decide)]
      · rw [up_n (by decide), up_n (by decide)]
      · rw [up_n (by decide), up_n (by decide)]
      · rw [ins_len hk2]
        rcases hsz with ⟨e1, z⟩ | ⟨e1, -, z⟩
        · have hpl : P.length = P.dropLast.length + 1 := by
            have := congrArg List.length e1
            rw [List.length_append] at this
            exact this
          have := z.2.2.1
          have := z.2.2.2
          exact ⟨⟨by omega, by omega⟩, by omega, by omega, fun _ => by omega⟩
        · have hpl : P.length = 0 := by rw [e1]; rfl
          have hpl2 : P.dropLast.length = 0 := by rw [e1]; rfl
          have := z.2.2.1
          have := z.2.2.2
          exact ⟨⟨by omega, by omega⟩, by omega, by omega, fun _ => by omega⟩
    rcases hv3 with ⟨z1, z2⟩ | ⟨l, z1, z2, z3⟩
    · rw [if_pos (Or.inl z1)]
      refine wp_t rfl (wp_gr rfl cb2.kx (wp_K cb2.f1 l2.1 ?_))
      rw [cb2.f1]
      refine wp_rd (sp_size hO2 l2) ?_
      rw [hlen]
      subst z2
      exact fin
    · rw [z2, in_y z1 (by omega)]
      refine wp_f ne01 ?_
      show wp (f_X5_putAtEndOf_B99 E (some g) (some (A 2)) (nI l + 1) s2) _
      rw [nI_1, ← z3]
      exact fin
  refine wp_oM (E := E) ?_
  unfold g_X5_putAtEndOf
  refine wp_K rfl h.kx (wp_rd (sp_lastGroupOf hE hk hO h hv hR hkd) (wp_K rfl h.kx (wp_rd (sp_isGroup hO h _) ?_)))
  rw [hG2, enc_in (by omega) hlg]
  cases ho : lastG kind (G.map (·.2)) with
  | none =>
    rw [if_pos rfl]
    refine wp_t rfl (tail (-1) G.length (Nat.le_refl _) (Or.inl ⟨by decide, rfl⟩) ?_)
    unfold putE
    rw [ho, List.length_map]
  | some l =>
    rw [show (if some l = none then (0 : Int32) else 1) = 1 from if_neg (fun z => nomatch z)]
    have hll := hlg l ho
    obtain ⟨p, hp⟩ := at_of hll
    have hg := h.g (hv.2.2.1 l p hp)
    obtain ⟨k1, k2, k3, k4⟩ := hR l p hp
    obtain ⟨g1, g2, g3, ml, t, ⟨r1, r2⟩, q1, q2⟩ := id hg
    rw [k3] at r2
    have e1 : ((G.map (·.2)).getD l dG) = p.2 := getD_of (map_at hp)
    have hm := hmm l p hp
    have hcl : (cont bs p.2.2.1).length ≤ 60 * 30 := by
      have := cont_le (bs := bs) (mem := p.2.2.1) (fun i hi => by
        obtain ⟨b, m, g0, -⟩ := h.e (hm.2 i hi)
        have := g0.lens
        rw [hb] at this
        exact this)
      have := hm.1
      omega
    obtain ⟨eb, em, e0, -⟩ := h.e he
    have hel := e0.lens
    refine wp_f ne01 (wp_gr rfl h.kx (wp_K h.f1 (h.l j2).1 ?_))
    rw [h.f1]
    refine wp_rd (h.getG hO hv hp) (wp_ca rfl g1 (wp_K rfl g1 (wp_rd (sp_byteCount hE hO g1 r1 r2 (h.mems hb hm.2)) (wp_gi rfl hke (wp_gi rfl h.kx ?_)))))
    rw [h.fF, hF, e0.2.2.2.1, nI_add]
    rw [hb] at hel ⊢
    by_cases hfit : (cont bs p.2.2.1).length + (bs e).length ≤ bd
    · refine wp_f (nI_nlt hfit (by omega)) ?_
      obtain ⟨ml', r1', r2', run⟩ := hg.addM h.wf (by rw [k3, List.length_map]; omega) hke (by omega) (by omega)
      refine wp_gr rfl g1 (wp_K r1' r2' ?_)
      rw [r1']
      refine wp_bd run ?_
      rintro _ τ ⟨i1, i2, i3⟩
      have cb := h.grp (g := p.1) (d := ((gd p.1).1, (gd p.1).2.1, (gd p.1).2.2.1 ++ [Es e], (gd p.1).2.2.2)) (hv.2.2.1 l p hp) i2 (fun _ z => z) i1
      have hput : putE bs bd kind e (G.map (·.2)) = ((G.map (·.2)).set l (p.2.1, p.2.2.1 ++ [e], p.2.2.2), l) := by
        unfold putE
        rw [ho]
        simp only []
        rw [e1, if_pos hfit]
      have hset : (G.set l (p.1, (p.2.1, p.2.2.1 ++ [e], p.2.2.2))).map (·.1) = G.map (·.1) := by
        rw [List.map_set]
        apply List.ext_getElem?
        intro j
        rw [List.getElem?_set]
        by_cases z : l = j
        · subst z
          rw [if_pos rfl, if_pos (by rw [List.length_map]; exact hll), map_at hp]
        · rw [if_neg z]
      refine wp_ret ⟨⟨i3.1, i3.2.1, by have := i3.2.2.1; omega, by have := i3.2.2.2; omega⟩, LL, GA, _, G.set l (p.1, (p.2.1, p.2.2.1 ++ [e], p.2.2.2)), P, p.1, rfl, cb, ⟨by rw [hset]; exact hv.1, hv.2.1, ?_, hv.2.2.2.1, by rw [hset]; exact hv.2.2.2.2⟩, ?_, ?_, ?_, ⟨rfl, rfl, rfl⟩, ?_, ?_⟩
      · intro i q hq
        rw [List.getElem?_set] at hq
        by_cases z : l = i
        · subst z
          rw [if_pos rfl, if_pos hll] at hq
          cases hq
          exact hv.2.2.1 l p hp
        · rw [if_neg z] at hq; exact hv.2.2.1 i q hq
      · intro i q hq
        rw [List.getElem?_set] at hq
        by_cases z : l = i
        · subst z
          rw [if_pos rfl, if_pos hll] at hq
          cases hq
          rw [up_s]
          refine ⟨k1, k2, ?_, fun y => absurd rfl y.2⟩
          show (gd p.1).2.2.1 ++ [Es e] = (p.2.2.1 ++ [e]).map Es
          rw [k3, List.map_append]
          rfl
        · rw [if_neg z] at hq
          have hne : q.1 ≠ p.1 := fun y => z (hv.ix hp hq y.symm)
          rw [up_n hne]
          obtain ⟨a1, a2, a3, a4⟩ := hR i q hq
          exact ⟨a1, a2, a3, fun y => a4 y.1⟩
      · rw [hput, List.map_set]
      · rw [hput]
        refine ⟨(p.2.1, p.2.2.1 ++ [e], p.2.2.2), ?_⟩
        show (G.set l _)[l]? = _
        rw [List.getElem?_set, if_pos rfl, if_pos hll]
      · refine Fc.of i2 (fun b z => ?_)
        rcases hg.parts z with e | e | e
        · exact ⟨_, e.2, by decide⟩
        · exact ⟨_, e.2, by decide⟩
        · exact ⟨_, e.2, by decide⟩
      · rw [List.length_set]
        exact i3.bg (by omega) (by omega)
    · refine wp_t (nI_lt (by omega) (by omega)) (tail (nI l) (l + 1) (by omega) (Or.inr ⟨l, hll, rfl, rfl⟩) ?_)
      unfold putE
      rw [ho]
      simp only []
      rw [e1, if_neg hfit]
end CBS
