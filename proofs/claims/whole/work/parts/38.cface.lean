/-! THE CLASS's FACE: its state between calls -/
/-- not packed -/
def CQ (E : PE) (σ : PS) (A : Nat → Nat) (F : Nat → Int32) (n : Nat) (Es kd : Nat → Nat) (bs : Nat → List Nat) (tw : Nat → Nat) (Gl P : List Nat) : Prop :=
  ∃ LL GA gd, CB E σ A F LL n Es (fun i => (kd i, bs i, tw i)) GA gd ∧ (LL 2 = Gl ∧ LL 3 = P ∧ (∀ g ∈ Gl ++ P, GA g) ∧ (Gl ++ P).Nodup) ∧ LL 1 = (List.range n).map Es
/-- the object between two calls; S: bound, twins, groups where it is packed; t: the groups that were made -/
def CI (E : PE) (σ : PS) (A : Nat → Nat) (n : Nat) (kd : Nat → Nat) (bs : Nat → List Nat) (S : Option (Nat × (Nat → Nat) × List Grp)) (t : Nat) : Prop :=
  ∃ F Es, match S with
    | none => F 6 = 0 ∧ ∃ tw Gl P, (∀ i, i < n → tw i < 1000) ∧ CQ E σ A F n Es kd bs tw Gl P ∧ Gl.length + P.length = t
    | some s => F 6 = 1 ∧ F 7 = nI s.1 ∧ ∃ G P Ln, CP E σ A F n Es kd bs bs s.2.1 (fun _ => True) G P Ln ∧ G.map (·.2) = s.2.2 ∧ G.length + P.length = t
section CPS
variable {E : PE} {σ τ : PS} {A : Nat → Nat} {F : Nat → Int32} {LL : Nat → List Nat} {n : Nat} {Es kd tw : Nat → Nat} {ed : Nat → Nat × List Nat × Nat} {GA : Nat → Prop} {gd : Nat → Nat × Nat × List Nat × List (Nat × Nat × Nat)} {G : List (Nat × Grp)} {P Ln : List Nat} {bs bo : Nat → List Nat} {V : Nat → Prop}
theorem CP.cq (h : CP E σ A F n Es kd bs bo tw V G P Ln) : CQ E σ A F n Es kd bs tw (G.map (·.1)) P := by
  obtain ⟨LL, GA, gd, c, hv, hR, h1, h4⟩ := h
  refine ⟨LL, GA, gd, c, ⟨hv.1, hv.2.1, fun g hg => ?_, hv.2.2.2.2⟩, h1⟩
  rcases List.mem_append.mp hg with hg | hg
  · obtain ⟨i, hi⟩ := List.getElem?_of_mem hg
    rw [List.getElem?_map] at hi
    cases hq : G[i]? with
    | none => rw [hq] at hi; cases hi
    | some p => rw [hq] at hi; cases hi; exact hv.2.2.1 i p hq
  · exact hv.2.2.2.1 g hg
theorem sp_packChanged {bd e : Nat} (hE : 1000 ≤ E.1) (hA : AE n kd bs) (h : CP E σ A F n Es kd bs bo tw (fun _ => True) G P Ln) (hI : AI n kd bo tw bd (G.map (·.2))) (he : e < n) (hl : (bs e).length = (bo e).length) (hb2 : ∀ i, i ≠ e → bs i = bo i) (hF : F 7 = nI bd) (h1 : sN σ + 8 ≤ E.2.1) (h2 : sS σ + 1310 ≤ E.2.2.1) :
    wp (f_X5_packChanged E (some (A 0)) (some (Es e)) σ) (fun _ τ => ∃ (G' : List (Nat × Grp)) (P' : List Nat), CP E τ A F n Es kd bs bs (chgG n kd bs bd tw (G.map (·.2)) e).1 (fun _ => True) G' P' Ln ∧ G'.map (·.2) = anewG (chgG n kd bs bd tw (G.map (·.2)) e).2.1 (chgG n kd bs bd tw (G.map (·.2)) e).2.2 ∧ Fc E σ τ ∧ Bg σ τ (G.length + P.length) (G'.length + P'.length) 2) := by
  have hn := hA.1
  have hO : Ok E σ := ⟨by omega, by omega⟩
  have hI2 := chg_AI hI he hl (hA.2 e he).2.1 hb2
  refine wp_oM (E := E) ?_
  unfold g_X5_packChanged f_X5_packChanged_B28
  refine wp_K rfl h.kx (wp_bd (wp_eq (Q := fun r τ => Ok E τ ∧ ∃ (G' : List (Nat × Grp)) (P' : List Nat) (hm : Nat), r = some hm ∧ CP E τ A F n Es kd bs bs (chgG n kd bs bd tw (G.map (·.2)) e).1 (fun a => a ≠ hm) G' P' Ln ∧ G'.map (·.2) = (chgG n kd bs bd tw (G.map (·.2)) e).2.1 ∧ (∃ q, G'[(chgG n kd bs bd tw (G.map (·.2)) e).2.2]? = some (hm, q)) ∧ Fc E σ τ ∧ Bg σ τ (G.length + P.length) (G'.length + P'.length) 2) (sp_homeOfChanged hE hA h hI he hb2 hF h1 h2) (fun r τ hq hp => ⟨(mo_X5_homeOfChanged hq).2.2, hp⟩)) ?_)
  rintro r s ⟨hOs, G', P', hm, rfl, c, e1, ⟨q, hq⟩, fc, bg⟩
  generalize hch : chgG n kd bs bd tw (G.map (·.2)) e = ch at *
  obtain ⟨LL, GA, gd, cb, hv, hR, hl1, h4⟩ := c
  obtain ⟨k1, k2, k3, -⟩ := hR _ _ hq
  have hqm : q ∈ ch.2.1 := by rw [← e1]; exact List.mem_of_getElem? (map_at (f := (·.2)) hq)
  have hga := hv.2.2.1 _ _ hq
  refine wp_f (fun z => nomatch z) (wp_gr rfl cb.kx (wp_K cb.f5 cb.km ?_))
  rw [cb.f5]
  refine wp_bd (sp_makeRow hE (by omega) hOs cb hga k3 (fun i hi => ((hI2.2.2.1 i).mp (mem_flat.mpr ⟨q, hqm, hi⟩)).1) (hI2.2.2.2.1 q hqm).2.2) ?_
  rintro _ s2 ⟨c2, f2, g2⟩
  have gG := c2.g hga
  rw [up_s] at gG
  refine wp_gi rfl gG.1 (wp_pi rfl gG.1 ?_)
  rw [gG.2.2.1, nI_1]
  have fo : Fo E s2 (pI 3 3 hm (nI ((gd hm).2.1 + 1)) s2) (fun b => b = hm) := Fo.pI c2.wf gG.1 (by decide)
  have c3 := c2.grp (g := hm) (d := ((gd hm).1, (gd hm).2.1 + 1, (gd hm).2.2.1, toks (cont bs q.2.1))) hga fo (fun b z => Or.inl z) (by
    obtain ⟨g1, g2, g3, ml, t, ⟨r1, r2⟩, q1, q2⟩ := gG
    exact ⟨g1, by rw [gI_n (by decide)]; exact g2, gI_s, ml, t, ⟨r1, r2.ko fo (kne r2.1 g1 (by decide))⟩, q1, q2.ko fo (kne q2.1 g1 (by decide))⟩)
  have hh := lt_of hq
  have hset : (G'.set ch.2.2 (hm, (q.1, q.2.1, q.2.2 + 1))).map (·.1) = G'.map (·.1) := by
    rw [List.map_set]
    apply List.ext_getElem?
    intro j
    rw [List.getElem?_set]
    by_cases z : ch.2.2 = j
    · subst z
      rw [if_pos rfl, if_pos (by rw [List.length_map]; exact hh), map_at hq]
    · rw [if_neg z]
  have bg2 : Bg s (pI 3 3 hm (nI ((gd hm).2.1 + 1)) s2) (G'.length + P'.length) (G'.length + P'.length) 0 := g2.bg (by omega) (by omega)
  have bgT : Bg σ (pI 3 3 hm (nI ((gd hm).2.1 + 1)) s2) (G.length + P.length) (G'.length + P'.length) 2 := bg.tr bg2
  refine wp_ret ⟨⟨bgT.1.1, bgT.1.2, ?_, ?_⟩, G'.set ch.2.2 (hm, (q.1, q.2.1, q.2.2 + 1)), P', ⟨LL, GA, _, c3, ⟨by rw [hset]; exact hv.1, hv.2.1, ?_, hv.2.2.2.1, by rw [hset]; exact hv.2.2.2.2⟩, ?_, hl1, h4⟩, ?_, ?_, ?_⟩
  · have := g2.2.2.1; have := hOs.1; show sN s2 ≤ _; omega
  · have := g2.2.2.2; have := hOs.2; show sS s2 ≤ _; omega
  · intro i p hp
    rw [List.getElem?_set] at hp
    by_cases z : ch.2.2 = i
    · rw [if_pos z, if_pos hh] at hp
      cases hp
      exact hga
    · rw [if_neg z] at hp; exact hv.2.2.1 i p hp
  · intro i p hp
    rw [List.getElem?_set] at hp
    by_cases z : ch.2.2 = i
    · rw [if_pos z, if_pos hh] at hp
      cases hp
      rw [up_s]
      refine ⟨k1, ?_, k3, fun _ => rfl⟩
      show (gd hm).2.1 + 1 = q.2.2 + 1
      rw [k2]
    · rw [if_neg z] at hp
      have hne : p.1 ≠ hm := fun y => z (hv.ix hq hp y.symm)
      rw [up_n hne, up_n hne]
      obtain ⟨a1, a2, a3, a4⟩ := hR i p hp
      exact ⟨a1, a2, a3, fun _ => a4 hne⟩
  · unfold anewG
    rw [List.map_set, ← e1, gf_at hq]
  · exact (fc.tr f2).tr (Fc.one fo gG.1 (by decide))
  · rw [List.length_set]; exact bgT
end CPS
