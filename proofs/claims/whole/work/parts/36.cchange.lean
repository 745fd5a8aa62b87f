/-! the class at a changed byte -/
theorem wp_eq {α : Type} {m : Option (α × PS)} {P Q : α → PS → Prop} (h : wp m P) (k : ∀ a s, m = some (a, s) → P a s → Q a s) : wp m Q := by
  obtain ⟨a, s, h1, h2⟩ := h
  exact ⟨a, s, h1, k a s h1 h2⟩
/-- the class's whole state; bo: the bytes of which the rows of tokens tell -/
def CP (E : PE) (σ : PS) (A : Nat → Nat) (F : Nat → Int32) (n : Nat) (Es kd : Nat → Nat) (bs bo : Nat → List Nat) (tw : Nat → Nat) (V : Nat → Prop) (G : List (Nat × Grp)) (P Ln : List Nat) : Prop :=
  ∃ LL GA gd, CB E σ A F LL n Es (fun i => (kd i, bs i, tw i)) GA gd ∧ LV LL GA G P ∧ RG Es bo V G gd ∧ LL 1 = (List.range n).map Es ∧ LL 4 = Ln
theorem isE.tw {σ : PS} {e num kd tw t : Nat} {bs : List Nat} (h : isE σ e num kd bs tw) : isE (pI 2 5 e (nI t) σ) e num kd bs t := by
  obtain ⟨b, m, ⟨h1, h2, h3, h4, h5, h6, h7, h8, h9⟩, h10⟩ := h
  exact ⟨b, m, ⟨h1, by rw [gI_n (by decide)]; exact h2, by rw [gI_n (by decide)]; exact h3, by rw [gI_n (by decide)]; exact h4, gI_s, h6, h7, h8, h9⟩, h10⟩
section CPS
variable {E : PE} {σ τ : PS} {A : Nat → Nat} {F : Nat → Int32} {LL : Nat → List Nat} {n : Nat} {Es kd tw : Nat → Nat} {ed : Nat → Nat × List Nat × Nat} {GA : Nat → Prop} {gd : Nat → Nat × Nat × List Nat × List (Nat × Nat × Nat)} {G : List (Nat × Grp)} {P Ln : List Nat} {bs bo : Nat → List Nat} {V : Nat → Prop}
theorem gf_at {G : List (Nat × Grp)} {i : Nat} {p : Nat × Grp} (h : G[i]? = some p) : (G.map (·.2)).getD i dG = p.2 := getD_of (map_at h)
theorem sp_gnL {e : Nat} (hE : 1000 ≤ E.1) (hei : e < 1000) (hO : Ok E σ) (h : CB E σ A F LL n Es ed GA gd) (hv : LV LL GA G P) (hR : RG Es bo V G gd) (hn : n ≤ 1000) (hmm : ∀ (i : Nat) (p : Nat × Grp), G[i]? = some p → ∀ j ∈ p.2.2.1, j < n) : ∀ (k f i : Nat), G.length = i + k → k < f → f_X5_groupNumberOf_L2 E f (some (A 0)) (nI e) (nI i) σ = some (if e ∈ flat ((G.map (·.2)).drop i) then nI (i + gx e ((G.map (·.2)).drop i)) else -1, σ)
  | 0, f, i, hm, hf => by
    obtain ⟨f, rfl⟩ : ∃ z, f = z + 1 := ⟨f - 1, by omega⟩
    have hl := h.lenG hv
    rw [f_X5_groupNumberOf_L2]
    refine e_gr rfl h.kx (e_K h.f1 (h.l j2).1 ?_)
    rw [h.f1]
    refine bd_rd (sp_size hO (h.l j2)) (e_t (by rw [hv.1, List.length_map]; exact nI_le (by omega) (by omega)) ?_)
    rw [List.drop_eq_nil_of_le (by rw [List.length_map]; omega), if_neg (fun z => nomatch z)]
  | k + 1, f, i, hm, hf => by
    obtain ⟨f, rfl⟩ : ∃ z, f = z + 1 := ⟨f - 1, by omega⟩
    have hl := h.lenG hv
    have ih := sp_gnL hE hei hO h hv hR hn hmm k f (i + 1) (by omega) (by omega)
    obtain ⟨p, hp⟩ := at_of (L := G) (i := i) (by omega)
    have hg := h.g (hv.2.2.1 i p hp)
    obtain ⟨k1, k2, k3, k4⟩ := hR i p hp
    obtain ⟨g1, g2, g3, ml, t, ⟨r1, r2⟩, q1, q2⟩ := id hg
    rw [k3] at r2
    have hm' := hmm i p hp
    have hdrop : (G.map (·.2)).drop i = p.2 :: (G.map (·.2)).drop (i + 1) := by
      have := drop_cons (T := G.map (·.2)) (i := i) (by rw [List.length_map]; omega) dG
      rw [gf_at hp] at this
      exact this
    have idx := sp_indexOf (E := E) hE hO g1 r1 r2 (fun j hj => ⟨_, _, _, h.e (hm' j hj)⟩) (fun j hj => by have := hm' j hj; omega) hei
    rw [f_X5_groupNumberOf_L2]
    refine e_gr rfl h.kx (e_K h.f1 (h.l j2).1 ?_)
    rw [h.f1]
    refine bd_rd (sp_size hO (h.l j2)) (e_f (by rw [hv.1, List.length_map]; exact nI_ge (by omega) (by omega)) (e_gr rfl h.kx (e_K h.f1 (h.l j2).1 ?_)))
    rw [h.f1]
    refine bd_rd (h.getG hO hv hp) (e_ca rfl g1 (e_K rfl g1 (bd_rd idx ?_)))
    rw [hdrop, flat_cons, gx_cons]
    have hll := r2.len
    rw [List.length_map] at hll
    by_cases z : e ∈ p.2.2.1
    · rw [if_pos z, if_pos z, if_pos (List.mem_append_left _ z)]
      have := ix_le e p.2.2.1
      refine e_f (fun y => ?_) rfl
      have hz : nI (ix e p.2.2.1) < 0 := by rw [y]; decide
      exact nI_pos (by omega) hz
    · rw [if_neg z, if_neg z]
      refine e_t rfl ?_
      rw [nI_1, ih]
      by_cases y : e ∈ flat ((G.map (·.2)).drop (i + 1))
      · rw [if_pos y, if_pos (List.mem_append_right _ y)]
        congr 3
        omega
      · rw [if_neg y, if_neg (fun w => by rcases List.mem_append.mp w with w | w; exact z w; exact y w)]
theorem sp_groupNumberOf {e : Nat} (hE : 1000 ≤ E.1) (hei : e < 1000) (hO : Ok E σ) (h : CB E σ A F LL n Es ed GA gd) (hv : LV LL GA G P) (hR : RG Es bo V G gd) (hn : n ≤ 1000) (hmm : ∀ (i : Nat) (p : Nat × Grp), G[i]? = some p → ∀ j ∈ p.2.2.1, j < n) : f_X5_groupNumberOf E (some (A 0)) (nI e) σ = some (if e ∈ flat (G.map (·.2)) then nI (gx e (G.map (·.2))) else -1, σ) := by
  have hl := h.lenG hv
  have := sp_gnL hE hei hO h hv hR hn hmm G.length E.1 0 (by omega) (by omega)
  rw [List.drop_zero, Nat.zero_add] at this
  exact oM_rd hO this
theorem sp_ltL {e : Nat} (hE : 1000 ≤ E.1) (hei : e < 1000) (hO : Ok E σ) (h : CB E σ A F LL n Es ed GA gd) (h1 : LL 1 = (List.range n).map Es) (hn : n ≤ 1000) (htw : ∀ i, i < n → (ed i).2.2 < 1000) : ∀ (k f i : Nat), n = i + k → k < f → f_X5_leastTwinOf_L2 E f (some (A 0)) (nI e) (nI i) σ = some (encO (firstF (fun j => j ≠ e ∧ (ed j).2.2 = e) k i), σ)
  | 0, f, i, hm, hf => by
    obtain ⟨f, rfl⟩ : ∃ z, f = z + 1 := ⟨f - 1, by omega⟩
    rw [f_X5_leastTwinOf_L2]
    refine e_gr rfl h.kx (e_K h.f0 (h.l j1).1 ?_)
    rw [h.f0]
    refine bd_rd (sp_size hO (h.l j1)) (e_t (by rw [CB.lenE h1]; exact nI_le (by omega) (by omega)) rfl)
  | k + 1, f, i, hm, hf => by
    obtain ⟨f, rfl⟩ : ∃ z, f = z + 1 := ⟨f - 1, by omega⟩
    have ih := sp_ltL hE hei hO h h1 hn htw k f (i + 1) (by omega) (by omega)
    obtain ⟨b, m, g0, -⟩ := h.e (show i < n by omega)
    have ht := htw i (by omega)
    have hF : firstF (fun j => j ≠ e ∧ (ed j).2.2 = e) (k + 1) i = if i ≠ e ∧ (ed i).2.2 = e then some i else firstF (fun j => j ≠ e ∧ (ed j).2.2 = e) k (i + 1) := rfl
    rw [f_X5_leastTwinOf_L2, hF]
    refine e_gr rfl h.kx (e_K h.f0 (h.l j1).1 ?_)
    rw [h.f0]
    refine bd_rd (sp_size hO (h.l j1)) (e_f (by rw [CB.lenE h1]; exact nI_ge (by omega) (by omega)) ?_)
    by_cases z : i = e
    · refine e_t (congrArg nI z) ?_
      rw [if_neg (fun y => y.1 z)]
      unfold f_X5_leastTwinOf_B38
      rw [nI_1]
      exact ih
    · refine e_f (fun y => z ((nI_eq (by omega) (by omega)).mp y)) (e_gr rfl h.kx (e_K h.f0 (h.l j1).1 ?_))
      rw [h.f0]
      refine bd_rd (h.getE hO h1 (by omega)) (e_ca rfl g0.1 (e_gi rfl g0.1 ?_))
      rw [g0.2.2.2.2.1]
      by_cases w : (ed i).2.2 = e
      · refine e_t (congrArg nI w) ?_
        rw [if_pos ⟨z, w⟩]
        rfl
      · refine e_f (fun y => w ((nI_eq (by omega) (by omega)).mp y)) ?_
        rw [if_neg (fun y => w y.2)]
        unfold f_X5_leastTwinOf_B38
        rw [nI_1]
        exact ih
theorem sp_leastTwinOf {e : Nat} (hE : 1000 ≤ E.1) (hei : e < 1000) (hO : Ok E σ) (h : CB E σ A F LL n Es ed GA gd) (h1 : LL 1 = (List.range n).map Es) (hn : n ≤ 100) (htw : ∀ i, i < n → (ed i).2.2 < 1000) : f_X5_leastTwinOf E (some (A 0)) (nI e) σ = some (encO (firstF (fun j => j ≠ e ∧ (ed j).2.2 = e) n 0), σ) :=
  oM_rd hO (sp_ltL hE hei hO h h1 (by omega) htw n E.1 0 (by omega) (by omega))
theorem sp_exchange {g k a e hr : Nat} {mem : List Nat} {T : List (Nat × Nat × Nat)} (hE : 1000 ≤ E.1) (hw : Wf E σ) (hO : Ok E σ) (h : isG E σ g k a (mem.map Es) T) (he : ∀ i ∈ mem, ∃ kd bs tw, isE σ (Es i) i kd bs tw) (hb : ∀ i ∈ mem, i < 1000) (hei : e < 1000) (hem : e ∈ mem) (hk : sK σ (Es hr) = some 2) :
    wp (f_X2_exchange E (some g) (nI e) (some (Es hr)) σ) (fun _ τ => isG E τ g k a ((mem.set (ix e mem) hr).map Es) T ∧ Fo E σ τ (gA σ g) ∧ Gr σ τ 0 0) := by
  obtain ⟨g1, g2, g3, ml, t, ⟨r1, r2⟩, q1, q2⟩ := h
  have idx := sp_indexOf (E := E) hE hO g1 r1 r2 he hb hei
  rw [if_pos hem] at idx
  have hix := (ix_mem e mem).mpr hem
  have hll := r2.len
  rw [List.length_map] at hll
  refine wp_oM (E := E) ?_
  unfold g_X2_exchange f_X2_exchange_B21
  refine wp_K rfl g1 (wp_rd idx (wp_f (fun y => ?_) (wp_gr rfl g1 (wp_K r1 r2.1 ?_))))
  · have hz : nI (ix e mem) < 0 := by rw [y]; decide
    exact nI_pos (by omega) hz
  rw [r1]
  refine wp_bd (so_set hw hO r2 (by rw [List.length_map]; exact hix) (Or.inl hk)) ?_
  rintro _ τ ⟨-, t1, t2, t3⟩
  have hne : g ≠ ml := kne g1 r2.1 (by decide)
  obtain ⟨dg, -⟩ := t2.2.2 g 3 g1 (by omega) hne
  rw [← List.map_set] at t1
  exact wp_ret ⟨t3.bk hO.1 hO.2, ⟨t2.k g1, by rw [dg.2.1]; exact g2, by rw [dg.2.1]; exact g3, ml, t, ⟨by rw [dg.2.2.1]; exact r1, t1⟩, by rw [dg.2.2.1]; exact q1, q2.ko t2 (kne q2.1 r2.1 (by decide))⟩, t2.wk (fun b z => by rw [z]; exact Or.inr (Or.inl r1)), t3⟩
/-- the twins of one that get another -/
def hW (e hr i : Nat) (ed : Nat → Nat × List Nat × Nat) : Nat → Nat × List Nat × Nat := fun j => if i ≤ j ∧ j ≠ e ∧ (ed j).2.2 = e then ((ed j).1, (ed j).2.1, hr) else ed j
theorem sp_hoL {e hr : Nat} (hn : n ≤ 1000) (he : e < n) (hhr : hr < n) (h1 : LL 1 = (List.range n).map Es) : ∀ (k f i : Nat) (σ : PS) (ed : Nat → Nat × List Nat × Nat), n = i + k → k < f → Ok E σ → CB E σ A F LL n Es ed GA gd → (∀ j, j < n → (ed j).2.2 < 1000) →
    wp (f_X5_handOver_L39 E f (some (A 0)) (some (Es e)) (some (Es hr)) (nI i) σ) (fun _ τ => CB E τ A F LL n Es (hW e hr i ed) GA gd ∧ Fc E σ τ ∧ Gr σ τ 0 0)
  | 0, f, i, σ, ed, hm, hf, hO, h, htw => by
    obtain ⟨f, rfl⟩ : ∃ z, f = z + 1 := ⟨f - 1, by omega⟩
    rw [f_X5_handOver_L39]
    refine wp_gr rfl h.kx (wp_K h.f0 (h.l j1).1 ?_)
    rw [h.f0]
    refine wp_rd (sp_size hO (h.l j1)) (wp_t (by rw [CB.lenE h1]; exact nI_le (by omega) (by omega)) (wp_ret ⟨?_, Fc.rf h.wf, Gr.rf⟩))
    refine ⟨h.1, h.2.1, h.2.2.1, fun j hj => ?_, h.2.2.2.2⟩
    have : hW e hr i ed j = ed j := if_neg (fun z => by omega)
    rw [this]
    exact h.e hj
  | k + 1, f, i, σ, ed, hm, hf, hO, h, htw => by
    obtain ⟨f, rfl⟩ : ∃ z, f = z + 1 := ⟨f - 1, by omega⟩
    have hi : i < n := by omega
    obtain ⟨b, m, g0, -⟩ := h.e hi
    obtain ⟨be, me, ge, -⟩ := h.e he
    obtain ⟨bh, mh, gh, -⟩ := h.e hhr
    have ht := htw i hi
    have same : ¬ (i ≠ e ∧ (ed i).2.2 = e) → hW e hr (i + 1) ed = hW e hr i ed := fun z => by
      funext j
      unfold hW
      by_cases w : i + 1 ≤ j ∧ j ≠ e ∧ (ed j).2.2 = e
      · rw [if_pos w, if_pos ⟨by omega, w.2⟩]
      · rw [if_neg w, if_neg (fun y => ?_)]
        by_cases v : j = i
        · subst v; exact z y.2
        · exact w ⟨by omega, y.2⟩
    have go : ¬ (i ≠ e ∧ (ed i).2.2 = e) → wp (f_X5_handOver_L39 E f (some (A 0)) (some (Es e)) (some (Es hr)) (nI (i + 1)) σ) (fun _ τ => CB E τ A F LL n Es (hW e hr i ed) GA gd ∧ Fc E σ τ ∧ Gr σ τ 0 0) := fun z => by
      have ih := sp_hoL (e := e) (hr := hr) hn he hhr h1 k f (i + 1) σ ed (by omega) (by omega) hO h htw
      rw [same z] at ih
      exact ih
    rw [f_X5_handOver_L39]
    refine wp_gr rfl h.kx (wp_K h.f0 (h.l j1).1 ?_)
    rw [h.f0]
    refine wp_rd (sp_size hO (h.l j1)) (wp_f (by rw [CB.lenE h1]; exact nI_ge (by omega) (by omega)) (wp_gi rfl ge.1 ?_))
    rw [ge.2.1]
    unfold f_X5_handOver_B101
    rw [nI_1]
    by_cases z : i = e
    · exact wp_t (congrArg nI z) (go (fun y => y.1 z))
    · refine wp_f (fun y => z ((nI_eq (by omega) (by omega)).mp y)) (wp_gr rfl h.kx (wp_K h.f0 (h.l j1).1 ?_))
      rw [h.f0]
      refine wp_rd (h.getE hO h1 hi) (wp_ca rfl g0.1 (wp_gi rfl g0.1 (wp_gi rfl ge.1 ?_)))
      rw [g0.2.2.2.2.1, ge.2.1]
      by_cases w : (ed i).2.2 = e
      · refine wp_t (congrArg nI w) (wp_gr rfl h.kx (wp_K h.f0 (h.l j1).1 ?_))
        rw [h.f0]
        refine wp_rd (h.getE hO h1 hi) (wp_ca rfl g0.1 (wp_gi rfl gh.1 (wp_pi rfl g0.1 ?_)))
        rw [gh.2.1]
        have fo : Fo E σ (pI 2 5 (Es i) (nI hr) σ) (fun b => b = Es i) := Fo.pI h.wf g0.1 (by decide)
        have cb := h.ent (d := ((ed i).1, (ed i).2.1, hr)) hn hi fo (h.e hi).tw
        refine wp_mono (sp_hoL (e := e) (hr := hr) hn he hhr h1 k f (i + 1) _ _ (by omega) (by omega) hO cb (fun j hj => ?_)) ?_
        · by_cases v : j = i
          · subst v; rw [up_s]; show hr < 1000; omega
          · rw [up_n v]; exact htw j hj
        · rintro _ τ ⟨t1, t2, t3⟩
          have ee : hW e hr (i + 1) (up ed i ((ed i).1, (ed i).2.1, hr)) = hW e hr i ed := by
            funext j
            unfold hW
            by_cases v : j = i
            · subst v
              rw [up_s, if_neg (fun y => by omega), if_pos ⟨Nat.le_refl _, z, w⟩]
            · rw [up_n v]
              by_cases u : i + 1 ≤ j ∧ j ≠ e ∧ (ed j).2.2 = e
              · rw [if_pos u, if_pos ⟨by omega, u.2⟩]
              · rw [if_neg u, if_neg (fun y => u ⟨by omega, y.2⟩)]
          rw [ee] at t1
          exact ⟨t1, (Fc.one fo g0.1 (by decide)).tr t2, t3⟩
      · exact wp_f (fun y => w ((nI_eq (by omega) (by omega)).mp y)) (go (fun y => w y.2))
theorem CP.wf (h : CP E σ A F n Es kd bs bo tw V G P Ln) : Wf E σ := by obtain ⟨LL, GA, gd, c, -⟩ := h; exact c.wf
theorem CP.tw1 (h : CP E σ A F n Es kd bs bo tw V G P Ln) (hn : n ≤ 1000) {e t : Nat} (he : e < n) : CP E (pI 2 5 (Es e) (nI t) σ) A F n Es kd bs bo (up tw e t) V G P Ln ∧ Fc E σ (pI 2 5 (Es e) (nI t) σ) := by
  obtain ⟨LL, GA, gd, c, hv, hR, h1, h4⟩ := h
  have fo : Fo E σ (pI 2 5 (Es e) (nI t) σ) (fun b => b = Es e) := Fo.pI c.wf (c.ke he) (by decide)
  have cb := c.ent (d := (kd e, bs e, t)) hn he fo (c.e he).tw
  have ee : up (fun i => (kd i, bs i, tw i)) e (kd e, bs e, t) = fun i => (kd i, bs i, up tw e t i) := by
    funext i
    by_cases z : i = e
    · rw [z, up_s, up_s]
    · rw [up_n z, up_n z]
  rw [ee] at cb
  exact ⟨⟨LL, GA, gd, cb, hv, hR, h1, h4⟩, Fc.one fo (c.ke he) (by decide)⟩
theorem so_put {kind bd e : Nat} (hE : 1000 ≤ E.1) (hn : n ≤ 1000) (h : CP E σ A F n Es kd bs bs tw V G P Ln) (hkd : ∀ (i : Nat) (p : Nat × Grp), G[i]? = some p → p.2.1 < 1000) (hmm : ∀ (i : Nat) (p : Nat × Grp), G[i]? = some p → p.2.2.1.length ≤ 30 ∧ ∀ j ∈ p.2.2.1, j < n) (hk : kind < 1000) (he : e < n) (hF : F 7 = nI bd) (hbd : bd ≤ 400) (hGl : G.length ≤ 29) (h1 : sN σ + 8 ≤ E.2.1) (h2 : sS σ + 1310 ≤ E.2.2.1) :
    wp (f_X5_putAtEndOf E (some (A 0)) (nI kind) (some (Es e)) σ) (fun r τ => ∃ (G' : List (Nat × Grp)) (P' : List Nat) (hm : Nat), r = some hm ∧ CP E τ A F n Es kd bs bs tw (fun a => V a ∧ a ≠ hm) G' P' Ln ∧ G'.map (·.2) = (putE bs bd kind e (G.map (·.2))).1 ∧ (∃ q, G'[(putE bs bd kind e (G.map (·.2))).2]? = some (hm, q)) ∧ Fc E σ τ ∧ Bg σ τ (G.length + P.length) (G'.length + P'.length) 2 ∧ Ok E τ) := by
  obtain ⟨LL, GA, gd, c, hv, hR, hl1, h4⟩ := h
  refine wp_eq (sp_putAtEndOf hE hn c hv hR hkd hmm (fun _ => rfl) hk he hF hbd hGl h1 h2) ?_
  rintro r τ hq ⟨LL', GA', gd', G', P', hm, a1, a2, a3, a4, a5, a6, ⟨a7, a8, -⟩, a9, a10⟩
  exact ⟨G', P', hm, a1, ⟨LL', GA', gd', a2, a3, a4, a7.trans hl1, a8.trans h4⟩, a5, a6, a9, a10, (mo_X5_putAtEndOf hq).2.2⟩
/-- what the state's order says of the groups -/
def GI (n : Nat) (G : List (Nat × Grp)) : Prop := ∀ (i : Nat) (p : Nat × Grp), G[i]? = some p → p.2.1 < 1000 ∧ p.2.2.1.length ≤ 30 ∧ ∀ j ∈ p.2.2.1, j < n
theorem sp_handOver {e hr : Nat} (hE : 1000 ≤ E.1) (hn : n ≤ 100) (hO : Ok E σ) (h : CP E σ A F n Es kd bs bo tw (fun _ => True) G P Ln) (hG : GI n G) (hnd : (flat (G.map (·.2))).Nodup) (htw : ∀ j, j < n → tw j < 1000) (he : e < n) (hhr : hr < n) (hne : hr ≠ e) (hef : e ∈ flat (G.map (·.2))) (hb1 : bs hr = bo e) (hb2 : ∀ i, i ≠ e → bs i = bo i) :
    wp (f_X5_handOver E (some (A 0)) (some (Es e)) (some (Es hr)) σ) (fun _ τ => ∃ (G' : List (Nat × Grp)), CP E τ A F n Es kd bs bs (twH tw e hr) (fun _ => True) G' P Ln ∧ G'.map (·.2) = swapG e hr (G.map (·.2)) ∧ G'.length = G.length ∧ Fc E σ τ ∧ Gr σ τ 0 0) := by
  obtain ⟨LL, GA, gd, c, hv, hR, hl1, h4⟩ := h
  have hgl := c.lenG hv
  obtain ⟨be, me, ge, -⟩ := c.e he
  obtain ⟨x1, x2⟩ := gx_lt e _ hef
  have hgi : gx e (G.map (·.2)) < G.length := by rw [List.length_map] at x1; exact x1
  obtain ⟨p, hp⟩ := at_of hgi
  rw [gf_at hp] at x2
  have hg := c.g (hv.2.2.1 _ p hp)
  obtain ⟨k1, k2, k3, k4⟩ := hR _ p hp
  obtain ⟨m1, m2, m3⟩ := hG _ p hp
  have gn := sp_groupNumberOf (e := e) hE (by omega) hO c hv hR (by omega) (fun i p hp => (hG i p hp).2.2)
  rw [if_pos hef] at gn
  refine wp_oM (E := E) ?_
  unfold g_X5_handOver
  refine wp_gi rfl ge.1 (wp_K rfl c.kx ?_)
  rw [ge.2.1]
  refine wp_rd gn (wp_K rfl c.kx (wp_rd (sp_isGroup hO c _) ?_))
  rw [show (LL 2).length = G.length by rw [hv.1, List.length_map], in_y hgi (by omega)]
  refine wp_f ne01 (wp_gr rfl c.kx (wp_K c.f1 (c.l j2).1 ?_))
  rw [c.f1]
  refine wp_rd (c.getG hO hv hp) (wp_ca rfl hg.1 (wp_gi rfl ge.1 (wp_K rfl hg.1 ?_)))
  rw [ge.2.1]
  rw [k3] at hg
  refine wp_bd (sp_exchange (e := e) (hr := hr) (Es := Es) hE c.wf hO hg (fun i hi => ⟨_, _, _, c.e (m3 i hi)⟩) (fun i hi => by have := m3 i hi; omega) (by omega) x2 (c.ke hhr)) ?_
  rintro _ s ⟨i1, i2, i3⟩
  have cb := c.grp (g := p.1) (d := ((gd p.1).1, (gd p.1).2.1, (p.2.2.1.set (ix e p.2.2.1) hr).map Es, (gd p.1).2.2.2)) (hv.2.2.1 _ p hp) i2 (fun _ z => z) i1
  unfold f_X5_handOver_B36
  refine wp_mono (sp_hoL (e := e) (hr := hr) (by omega) he hhr hl1 n E.1 0 s _ (by omega) (by omega) (i3.ok hO.1 hO.2) cb htw) ?_
  rintro _ τ ⟨t1, t2, t3⟩
  have ee : hW e hr 0 (fun i => (kd i, bs i, tw i)) = fun i => (kd i, bs i, twH tw e hr i) := by
    funext j
    unfold hW twH
    by_cases z : j ≠ e ∧ tw j = e
    · rw [if_pos ⟨Nat.zero_le _, z⟩, if_pos z]
    · rw [if_neg (fun y => z y.2), if_neg z]
  rw [ee] at t1
  have hset : (G.set (gx e (G.map (·.2))) (p.1, (p.2.1, p.2.2.1.set (ix e p.2.2.1) hr, p.2.2.2))).map (·.1) = G.map (·.1) := by
    rw [List.map_set]
    apply List.ext_getElem?
    intro j
    rw [List.getElem?_set]
    by_cases z : gx e (G.map (·.2)) = j
    · subst z
      rw [if_pos rfl, if_pos (by rw [List.length_map]; exact hgi), map_at hp]
    · rw [if_neg z]
  have sz : Gr σ τ (0 + 0) (0 + 0) := i3.tr t3
  refine ⟨sz.bk hO.1 hO.2, G.set (gx e (G.map (·.2))) (p.1, (p.2.1, p.2.2.1.set (ix e p.2.2.1) hr, p.2.2.2)), ⟨LL, GA, _, t1, ⟨by rw [hset]; exact hv.1, hv.2.1, ?_, hv.2.2.2.1, by rw [hset]; exact hv.2.2.2.2⟩, ?_, hl1, h4⟩, ?_, List.length_set, ?_, sz⟩
  · intro i q hq
    rw [List.getElem?_set] at hq
    by_cases z : gx e (G.map (·.2)) = i
    · rw [if_pos z, if_pos hgi] at hq
      cases hq
      exact hv.2.2.1 _ p hp
    · rw [if_neg z] at hq; exact hv.2.2.1 i q hq
  · intro i q hq
    rw [List.getElem?_set] at hq
    by_cases z : gx e (G.map (·.2)) = i
    · rw [if_pos z, if_pos hgi] at hq
      cases hq
      rw [up_s]
      refine ⟨k1, k2, rfl, fun _ => ?_⟩
      show (gd p.1).2.2.2 = toks (cont bs (p.2.2.1.set (ix e p.2.2.1) hr))
      rw [cont_swap (bo := bo) (nd_sub hnd (List.mem_of_getElem? (map_at hp))) x2 hb1 hb2]
      exact k4 trivial
    · rw [if_neg z] at hq
      have hnep : q.1 ≠ p.1 := fun y => z (hv.ix hp hq y.symm)
      rw [up_n hnep]
      obtain ⟨a1, a2, a3, a4⟩ := hR i q hq
      refine ⟨a1, a2, a3, fun _ => ?_⟩
      rw [a4 trivial]
      congr 1
      refine (cont_congr (fun j hj => hb2 j (fun y => ?_))).symm
      subst y
      exact z (gx_uniq j _ i q.2 hnd (map_at hq) hj)
  · rw [List.map_set, ← swapG_set, gf_at hp]
  · refine (Fc.of i2 (fun b z => ?_)).tr t2
    rcases hg.parts z with e | e | e
    · exact ⟨_, e.2, by decide⟩
    · exact ⟨_, e.2, by decide⟩
    · exact ⟨_, e.2, by decide⟩
end CPS
