theorem Bg.room {E : PE} {σ0 σ : PS} {t0 t u : Nat} (h : Bg σ0 σ t0 t u) (ht : t0 ≤ 30) (hu : u ≤ 200) (h1 : sN σ0 + 1000 ≤ E.2.1) (h2 : sS σ0 + 60000 ≤ E.2.2.1) : sN σ + 300 ≤ E.2.1 ∧ sS σ + 10000 ≤ E.2.2.1 ∧ t ≤ 30 := by
  obtain ⟨⟨a1, a2⟩, a3, a4, a5⟩ := h
  have := a5 ht
  exact ⟨by omega, by omega, this⟩
section CPS
variable {E : PE} {σ τ σ0 : PS} {A : Nat → Nat} {F : Nat → Int32} {LL : Nat → List Nat} {n : Nat} {Es kd tw : Nat → Nat} {ed : Nat → Nat × List Nat × Nat} {GA : Nat → Prop} {gd : Nat → Nat × Nat × List Nat × List (Nat × Nat × Nat)} {G : List (Nat × Grp)} {P Ln : List Nat} {bs bo : Nat → List Nat} {V : Nat → Prop} {S : Option PK} {t t0 bd : Nat}
theorem sp_glL {kind : Nat} {ln : List Nat} (hE : 1000 ≤ E.1) (hA : AE n kd bs) (hkind : kind < 100) (hF : F 7 = nI bd) (hbd : bd ≤ 400) (ht0 : t0 ≤ 30) (hr1 : sN σ0 + 1000 ≤ E.2.1) (hr2 : sS σ0 + 60000 ≤ E.2.2.1) (hll : ln.length ≤ 30) (hnd : ln.Nodup) (hln : ∀ e ∈ ln, e < n ∧ kd e = kind) : ∀ (k f i u : Nat) (σ : PS) (G : List (Nat × Grp)) (P D : List Nat), ln.length = i + k → k < f → CP E σ A F n Es kd bs bs tw (fun _ => False) G P (ln.map Es) → PV n kd bs (G.map (·.2)) D → (∀ e ∈ ln.drop i, e ∉ D) → Bg σ0 σ t0 (G.length + P.length) u → u + 2 * k ≤ 200 →
    wp (f_X5_groupLine_L2 E f (some (A 0)) (nI kind) (nI i) σ) (fun _ τ => ∃ (G' : List (Nat × Grp)) (P' : List Nat), CP E τ A F n Es kd bs bs tw (fun _ => False) G' P' (ln.map Es) ∧ G'.map (·.2) = putAll bs bd kind (G.map (·.2)) (ln.drop i) ∧ Fc E σ τ ∧ Bg σ0 τ t0 (G'.length + P'.length) (u + 2 * k) ∧ sN σ ≤ sN τ ∧ sS σ ≤ sS τ)
  | 0, f, i, u, σ, G, P, D, hm, hf, h, hP, hD, hB, hu => by
    obtain ⟨f, rfl⟩ : ∃ z, f = z + 1 := ⟨f - 1, by omega⟩
    obtain ⟨b1, b2, b3⟩ := hB.room ht0 (by omega) hr1 hr2
    have hO : Ok E σ := ⟨by omega, by omega⟩
    obtain ⟨LL, GA, gd, c, hv, hR, h1, h4⟩ := id h
    have l4 := c.l j4
    rw [h4] at l4
    rw [f_X5_groupLine_L2]
    refine wp_gr rfl c.kx (wp_K c.f3 l4.1 ?_)
    rw [c.f3]
    refine wp_rd (sp_size hO l4) (wp_t (by rw [List.length_map]; exact nI_le (by omega) (by omega)) (wp_ret ⟨G, P, h, ?_, Fc.rf c.wf, hB, Nat.le_refl _, Nat.le_refl _⟩))
    rw [List.drop_eq_nil_of_le (by omega)]
    rfl
  | k + 1, f, i, u, σ, G, P, D, hm, hf, h, hP, hD, hB, hu => by
    obtain ⟨f, rfl⟩ : ∃ z, f = z + 1 := ⟨f - 1, by omega⟩
    obtain ⟨b1, b2, b3⟩ := hB.room ht0 (by omega) hr1 hr2
    have hO : Ok E σ := ⟨by omega, by omega⟩
    have hi : i < ln.length := by omega
    obtain ⟨LL, GA, gd, c, hv, hR, h1, h4⟩ := id h
    have l4 := c.l j4
    rw [h4] at l4
    have hlm : (ln.map Es).length = ln.length := List.length_map ..
    have hget : (ln.map Es)[i]? = some (Es ln[i]) := by rw [List.getElem?_map, List.getElem?_eq_getElem hi]; rfl
    obtain ⟨hin, hik⟩ := hln _ (List.getElem_mem hi)
    have hdr : ln.drop i = ln[i] :: ln.drop (i + 1) := List.drop_eq_getElem_cons hi
    have hiD : ln[i] ∉ D := hD _ (by rw [hdr]; exact List.mem_cons_self ..)
    have hst := hP.put hbd hin (hA.2 _ hin).2.1 hiD
    rw [hik] at hst
    have gis := GI.of (hP.gis hA.1 (fun e he => (hA.2 e he).1))
    have hGl : G.length ≤ 29 := by
      have e1 := hst.len.2
      have e2 := hP.len.1
      rw [List.length_cons] at e1
      rw [List.length_map] at e2
      have := hA.1
      omega
    rw [f_X5_groupLine_L2]
    refine wp_gr rfl c.kx (wp_K c.f3 l4.1 ?_)
    rw [c.f3]
    refine wp_rd (sp_size hO l4) (wp_f (by rw [hlm]; exact nI_ge hi (by omega)) (wp_gr rfl c.kx (wp_K c.f3 l4.1 ?_)))
    rw [c.f3]
    refine wp_rd (sp_get hO l4 (by omega)) ?_
    rw [hget]
    refine wp_ca rfl (c.ke hin) (wp_K rfl c.kx (wp_bd (so_put (kind := kind) (bd := bd) (e := ln[i]) hE (by have := hA.1; omega) h (fun i p hp => (gis i p hp).1) (fun i p hp => (gis i p hp).2) (by omega) hin hF hbd hGl (by omega) (by omega)) ?_))
    rintro r s ⟨G', P', hmm, a1, a2, a3, a4, a5, a6, a7⟩
    have a2' : CP E s A F n Es kd bs bs tw (fun _ => False) G' P' (ln.map Es) := a2.tok (fun _ _ _ z => z.elim)
    have bg2 := hB.tr a6
    rw [nI_1]
    have hnd2 : ln[i] ∉ ln.drop (i + 1) := by
      have : (ln.drop i).Nodup := List.Sublist.nodup (List.drop_sublist i ln) hnd
      rw [hdr] at this
      exact (List.nodup_cons.mp this).1
    refine wp_mono (sp_glL hE hA hkind hF hbd ht0 hr1 hr2 hll hnd hln k f (i + 1) (u + 2) s G' P' (ln[i] :: D) (by omega) (by omega) a2' (by rw [a3]; exact hst) (fun e he w => ?_) bg2 (by omega)) ?_
    · rcases List.mem_cons.mp w with w | w
      · exact hnd2 (w ▸ he)
      · exact hD e (by rw [hdr]; exact List.mem_cons_of_mem _ he) w
    · rintro _ τ ⟨G2, P2, u1, u2, u3, u4, u5, u6⟩
      refine ⟨G2, P2, u1, ?_, a5.tr u3, u4.wk (by omega), Nat.le_trans a6.1.1 u5, Nat.le_trans a6.1.2 u6⟩
      rw [u2, a3, hdr]
      rfl
/-- whose rows are made -/
def Vi (G : List (Nat × Grp)) (i a : Nat) : Prop := ∃ (j : Nat) (q : Grp), j < i ∧ G[j]? = some (a, q)
theorem sp_rwL (hE : 1000 ≤ E.1) (hA : AE n kd bs) (hP : ∀ q ∈ G.map (·.2), (cont bs q.2.1).length ≤ 400 ∧ ∀ j ∈ q.2.1, j < n) : ∀ (k f i : Nat) (σ : PS), G.length = i + k → k < f → Ok E σ → CP E σ A F n Es kd bs bs tw (Vi G i) G P Ln →
    wp (f_X5_pack_L79 E f (some (A 0)) (nI i) σ) (fun r τ => r = nI G.length ∧ CP E τ A F n Es kd bs bs tw (fun _ => True) G P Ln ∧ Fc E σ τ ∧ Gr σ τ 0 0)
  | 0, f, i, σ, hm, hf, hO, h => by
    obtain ⟨f, rfl⟩ : ∃ z, f = z + 1 := ⟨f - 1, by omega⟩
    have hT : CP E σ A F n Es kd bs bs tw (fun _ => True) G P Ln := h.tok (fun j p hp _ => ⟨⟨j, p.2, by have := lt_of hp; omega, hp⟩, rfl⟩)
    obtain ⟨LL, GA, gd, c, hv, hR, h1, h4⟩ := h
    have hgl := c.lenG hv
    rw [f_X5_pack_L79]
    refine wp_gr rfl c.kx (wp_K c.f1 (c.l j2).1 ?_)
    rw [c.f1]
    refine wp_rd (sp_size hO (c.l j2)) (wp_t (by rw [hv.1, List.length_map]; exact nI_le (by omega) (by omega)) (wp_gr rfl c.kx (wp_K c.f1 (c.l j2).1 ?_)))
    rw [c.f1]
    refine wp_rd (sp_size hO (c.l j2)) (wp_ret ⟨by rw [hv.1, List.length_map], hT, Fc.rf c.wf, Gr.rf⟩)
  | k + 1, f, i, σ, hm, hf, hO, h => by
    obtain ⟨f, rfl⟩ : ∃ z, f = z + 1 := ⟨f - 1, by omega⟩
    obtain ⟨LL, GA, gd, c, hv, hR, h1, h4⟩ := h
    have hgl := c.lenG hv
    obtain ⟨p, hp⟩ := at_of (L := G) (i := i) (by omega)
    have hga := hv.2.2.1 i p hp
    obtain ⟨k1, k2, k3, -⟩ := hR i p hp
    have hpq := hP p.2 (List.mem_of_getElem? (map_at (f := (·.2)) hp))
    rw [f_X5_pack_L79]
    refine wp_gr rfl c.kx (wp_K c.f1 (c.l j2).1 ?_)
    rw [c.f1]
    refine wp_rd (sp_size hO (c.l j2)) (wp_f (by rw [hv.1, List.length_map]; exact nI_ge (by omega) (by omega)) (wp_gr rfl c.kx (wp_gr rfl c.kx (wp_K c.f1 (c.l j2).1 ?_))))
    rw [c.f1, c.f5]
    refine wp_rd (c.getG hO hv hp) (wp_ca rfl (c.g hga).1 (wp_K rfl c.km (wp_bd (sp_makeRow hE (by have := hA.1; omega) hO c hga k3 hpq.2 hpq.1) ?_)))
    rintro _ s ⟨c2, f2, g2⟩
    rw [nI_1]
    have cp : CP E s A F n Es kd bs bs tw (Vi G (i + 1)) G P Ln := by
      refine ⟨LL, GA, _, c2, hv, fun j q hq => ?_, h1, h4⟩
      by_cases z : j = i
      · subst z
        cases hp.symm.trans hq
        rw [up_s]
        exact ⟨k1, k2, k3, fun _ => rfl⟩
      · have hne : q.1 ≠ p.1 := fun y => z (hv.ix hq hp y)
        rw [up_n hne]
        obtain ⟨a1, a2, a3, a4⟩ := hR j q hq
        refine ⟨a1, a2, a3, fun y => a4 ?_⟩
        obtain ⟨j', q', y1, y2⟩ := y
        have : j' = j := hv.ix y2 hq rfl
        exact ⟨j', q', by omega, y2⟩
    refine wp_mono (sp_rwL hE hA hP k f (i + 1) s (by omega) (by omega) (g2.ok hO.1 hO.2) cp) ?_
    rintro r τ ⟨u1, u2, u3, u4⟩
    exact ⟨u1, u2, f2.tr u3, g2.tr u4⟩
theorem sp_pkL {way : Nat} (hE : 1000 ≤ E.1) (hA : AE n kd bs) (hway : way ≤ 2) (htw : ∀ j, j < n → tw j < 1000) (hF : F 7 = nI bd) (hbd : bd ≤ 400) (ht0 : t0 ≤ 30) (hr1 : sN σ0 + 1000 ≤ E.2.1) (hr2 : sS σ0 + 60000 ≤ E.2.2.1) : ∀ (c k f : Nat) (σ : PS) (G : List (Nat × Grp)) (P D Ln : List Nat), c + k = 6 → c < f → CP E σ A F n Es kd bs bs tw (fun _ => False) G P Ln → PK2 n kd bs tw k (G.map (·.2)) D → Bg σ0 σ t0 (G.length + P.length) (30 + 4 * D.length) →
    wp (f_X5_pack_L43 E f (some (A 0)) (nI way) (nI k) σ) (fun r τ => ∃ (G' : List (Nat × Grp)) (P' Ln' : List Nat), r = nI G'.length ∧ CP E τ A F n Es kd bs bs tw (fun _ => True) G' P' Ln' ∧ G'.map (·.2) = packF n kd bs bd tw way c k (G.map (·.2)) ∧ Fc E σ τ ∧ Bg σ0 τ t0 (G'.length + P'.length) 150)
  | 0, k, f, σ, G, P, D, Ln, hm, hf, h, hP, hB => by
    obtain ⟨f, rfl⟩ : ∃ z, f = z + 1 := ⟨f - 1, by omega⟩
    have hDl := hP.1.len.2
    have hn := hA.1
    obtain ⟨b1, b2, b3⟩ := hB.room ht0 (by omega) hr1 hr2
    have hO : Ok E σ := ⟨by omega, by omega⟩
    rw [f_X5_pack_L43]
    refine wp_t (show nI 6 ≤ nI k from nI_le (by omega) (by omega)) ?_
    have hgl : G.length ≤ 30 := by omega
    have h0 : CP E σ A F n Es kd bs bs tw (Vi G 0) G P Ln := h.tok (fun _ _ _ z => by obtain ⟨j, q, y, -⟩ := z; omega)
    have hPq : ∀ q ∈ G.map (·.2), (cont bs q.2.1).length ≤ 400 ∧ ∀ j ∈ q.2.1, j < n := fun q hq => ⟨(hP.1.2.2.2 q hq).2.2, fun j hj => hP.1.2.2.1 j (hP.1.1.mem_iff.mp (mem_flat.mpr ⟨q, hq, hj⟩))⟩
    refine wp_mono (sp_rwL hE hA hPq G.length E.1 0 σ (by omega) (by omega) hO h0) ?_
    rintro r τ ⟨u1, u2, u3, u4⟩
    have bg : Bg σ0 τ t0 (G.length + P.length) (30 + 4 * D.length + 0) := hB.tr (u4.bg (by omega) (by omega))
    exact ⟨G, P, Ln, u1, u2, rfl, u3, bg.wk (by omega)⟩
  | c + 1, k, f, σ, G, P, D, Ln, hm, hf, h, hP, hB => by
    obtain ⟨f, rfl⟩ : ∃ z, f = z + 1 := ⟨f - 1, by omega⟩
    have hDl := hP.1.len.2
    have hn := hA.1
    obtain ⟨b1, b2, b3⟩ := hB.room ht0 (by omega) hr1 hr2
    have hO : Ok E σ := ⟨by omega, by omega⟩
    have hbl : ∀ e, e < n → (bs e).length ≤ 60 := fun e he => (hA.2 e he).2.1
    have hst := hP.step (bd := bd) (way := way) hbd hbl
    have hkl : D.length + (keptK n kd tw k).length ≤ n := by
      have := hst.1.len.2
      rw [List.length_append, List.length_reverse, (arrF_perm way (fun x y => distN (bs x) (bs y)) (keptK n kd tw k)).length_eq] at this
      omega
    obtain ⟨LL, GA, gd, cb, hv, hR, h1, h4⟩ := id h
    have hkr : (List.range' 0 n).filter (fun e => kd e = k ∧ tw e = e) = keptK n kd tw k := by unfold keptK; rw [List.range_eq_range']
    rw [f_X5_pack_L43]
    refine wp_f (show ¬ nI 6 ≤ nI k from nI_ge (by omega) (by omega)) (wp_K rfl cb.kx ?_)
    -- line up
    have line : wp (f_X5_lineUpKept E (some (A 0)) (nI k) σ) (fun _ τ => CB E τ A F (up LL 4 ((keptK n kd tw k).map Es)) n Es (fun i => (kd i, bs i, tw i)) GA gd ∧ Fc E σ τ ∧ Gr σ τ (keptK n kd tw k).length (49 * (keptK n kd tw k).length)) := by
      refine wp_oM (E := E) ?_
      unfold g_X5_lineUpKept
      refine wp_gr rfl cb.kx (wp_K cb.f3 (cb.l j4).1 ?_)
      rw [cb.f3]
      refine wp_bd (so_clear (by omega) cb.wf hO (cb.l j4)) ?_
      rintro _ s ⟨t1, t2, t3⟩
      have c2 := cb.lst j4 t2 t1
      have s1 := t3.2.2.1
      have s2 := t3.2.2.2
      have run := sp_luL (kind := k) (bs := bs) (kd := kd) (tw := tw) (A := A) (F := F) (LL := LL) hE hn (by omega) (fun j hj => by have := (hA.2 j hj).1; omega) htw h1 n E.1 0 s [] (by omega) (by omega) c2 (Nat.le_refl _) (by rw [hkr]; omega) (by rw [hkr]; omega)
      rw [hkr, List.nil_append] at run
      refine wp_mono run ?_
      rintro _ τ ⟨u1, u2, u3⟩
      have sz : Gr σ τ (keptK n kd tw k).length (49 * (keptK n kd tw k).length) := (t3.tr u3).wk (by omega) (by omega)
      exact ⟨sz.bk (by omega) (by omega), u1, (Fc.one t2 (cb.l j4).1 (by decide)).tr u2, sz⟩
    refine wp_bd line ?_
    rintro _ s1 ⟨c1, f1, g1⟩
    have q1 := g1.2.2.1
    have q2 := g1.2.2.2
    refine wp_gr rfl c1.kx (wp_gr rfl c1.kx (wp_K c1.f4 c1.ka ?_))
    rw [c1.f4, c1.f3]
    refine wp_bd (sp_arrange (ln := keptK n kd tw k) hE hway (keptK_nd n kd tw k) (by omega) (fun i hi => (keptK_mem.mp hi).1) hbl c1 up_s (by omega) (by omega)) ?_
    rintro _ s2 ⟨⟨L6, c2⟩, f2, g2⟩
    rw [show up (up (up LL 4 ((keptK n kd tw k).map Es)) 6 L6) 4 ((arrF way (fun x y => distN (bs x) (bs y)) (keptK n kd tw k)).map Es) = up (up LL 6 L6) 4 ((arrF way (fun x y => distN (bs x) (bs y)) (keptK n kd tw k)).map Es) from by
      funext j
      by_cases z4 : j = 4
      · rw [z4, up_s, up_s]
      · rw [up_n z4, up_n z4]
        by_cases z6 : j = 6
        · rw [z6, up_s, up_s]
        · rw [up_n z6, up_n z6, up_n z4]] at c2
    have hpa := arrF_perm way (fun x y => distN (bs x) (bs y)) (keptK n kd tw k)
    generalize hln : arrF way (fun x y => distN (bs x) (bs y)) (keptK n kd tw k) = ln at *
    have hlen := hpa.length_eq
    have cp2 : CP E s2 A F n Es kd bs bs tw (fun _ => False) G P (ln.map Es) := ⟨_, GA, gd, c2, ⟨by rw [up_n (by decide), up_n (by decide)]; exact hv.1, by rw [up_n (by decide), up_n (by decide)]; exact hv.2.1, hv.2.2.1, hv.2.2.2.1, hv.2.2.2.2⟩, hR, by rw [up_n (by decide), up_n (by decide)]; exact h1, up_s⟩
    have bg2 : Bg σ0 s2 t0 (G.length + P.length) (30 + 4 * D.length + (keptK n kd tw k).length + (keptK n kd tw k).length) := (hB.tr (g1.bg (u := (keptK n kd tw k).length) (by omega) (by omega))).tr (g2.bg (u := (keptK n kd tw k).length) (by omega) (by omega))
    obtain ⟨b4, b5, b6⟩ := bg2.room ht0 (by omega) hr1 hr2
    refine wp_K rfl c2.kx ?_
    have grp : wp (f_X5_groupLine E (some (A 0)) (nI k) s2) (fun _ τ => Ok E τ ∧ ∃ (G' : List (Nat × Grp)) (P' : List Nat), CP E τ A F n Es kd bs bs tw (fun _ => False) G' P' (ln.map Es) ∧ G'.map (·.2) = putAll bs bd k (G.map (·.2)) ln ∧ Fc E s2 τ ∧ Bg σ0 τ t0 (G'.length + P'.length) (30 + 4 * D.length + (keptK n kd tw k).length + (keptK n kd tw k).length + 2 * ln.length)) := by
      have run := sp_glL (kind := k) (ln := ln) (bd := bd) (tw := tw) hE hA (by omega) hF hbd ht0 hr1 hr2 (by omega) (hpa.nodup_iff.mpr (keptK_nd n kd tw k)) (fun e he => by have := keptK_mem.mp (hpa.mem_iff.mp he); exact ⟨this.1, this.2.1⟩) ln.length E.1 0 _ s2 G P D (by omega) (by omega) cp2 hP.1 (fun e he w => by
        rw [List.drop_zero] at he
        have e1 := keptK_mem.mp (hpa.mem_iff.mp he)
        have e2 := (hP.2 e).mp w
        omega) bg2 (by omega)
      rw [List.drop_zero] at run
      refine wp_oM (E := E) (wp_mono run ?_)
      rintro _ τ ⟨G', P', v1, v2, v3, v4, v5, v6⟩
      obtain ⟨x1, x2, x3⟩ := v4.room ht0 (by omega) hr1 hr2
      exact ⟨⟨v5, v6, by omega, by omega⟩, ⟨by omega, by omega⟩, G', P', v1, v2, v3, v4⟩
    refine wp_bd grp ?_
    rintro _ s3 ⟨hO3, G', P', v1, v2, v3, v4⟩
    rw [nI_1]
    have hst2 : PK2 n kd bs tw (k + 1) (G'.map (·.2)) (ln.reverse ++ D) := by rw [v2]; exact hst
    refine wp_mono (sp_pkL hE hA hway htw hF hbd ht0 hr1 hr2 c (k + 1) f s3 G' P' (ln.reverse ++ D) (ln.map Es) (by omega) (by omega) v1 hst2 (v4.wk (by rw [List.length_append, List.length_reverse]; omega))) ?_
    rintro r τ ⟨G2, P2, Ln2, w1, w2, w3, w4, w5⟩
    refine ⟨G2, P2, Ln2, w1, w2, ?_, ((f1.tr f2).tr v3).tr w4, w5⟩
    rw [w3, v2]
    show _ = packF n kd bs bd tw way c (k + 1) (putAll bs bd k (G.map (·.2)) (arrF way (fun x y => distN (bs x) (bs y)) (keptK n kd tw k)))
    rw [hln]
theorem sp_pack (hE : 1000 ≤ E.1) (hA : AST (n, kd, bs, S)) (h : CI E σ A n kd bs S t) (ht : t ≤ 30) (hr1 : sN σ + 1000 ≤ E.2.1) (hr2 : sS σ + 60000 ≤ E.2.2.1) (b w : Int32) : wp (f_X5_pack E (some (A 0)) b w σ) (CE E σ A t 200 (aPack b w (n, kd, bs, S))) := by
  have hn : n ≤ 30 := hA.1.1
  have hO : Ok E σ := ⟨by omega, by omega⟩
  have hrf : sN σ ≤ sN σ ∧ sS σ ≤ sS σ ∧ sN σ ≤ E.2.1 ∧ sS σ ≤ E.2.2.1 := ⟨Nat.le_refl _, Nat.le_refl _, hO.1, hO.2⟩
  have bad : wp (f_X5_pack_B21 E σ) (fun a s => (sN σ ≤ sN s ∧ sS σ ≤ sS s ∧ sN s ≤ E.2.1 ∧ sS s ≤ E.2.2.1) ∧ CE E σ A t 200 (-1, (n, kd, bs, S)) a s) := wp_ret ⟨hrf, CE.rd h h.wf⟩
  refine wp_oM (E := E) ?_
  unfold g_X5_pack aPack
  by_cases z1 : b < 1
  · rw [if_pos z1, if_pos (show b < 1 ∨ 400 < b ∨ w < 0 ∨ ¬ w ≤ 2 from Or.inl z1)]; exact bad
  · rw [if_neg z1]
    by_cases z2 : 400 < b
    · rw [if_pos z2, if_pos (show b < 1 ∨ 400 < b ∨ w < 0 ∨ ¬ w ≤ 2 from Or.inr (Or.inl z2))]; exact bad
    · rw [if_neg z2]
      by_cases z3 : w < 0
      · rw [if_pos z3, if_pos (show b < 1 ∨ 400 < b ∨ w < 0 ∨ ¬ w ≤ 2 from Or.inr (Or.inr (Or.inl z3)))]; exact bad
      · rw [if_neg z3]
        by_cases z4 : w ≤ 2
        · rw [if_pos z4, if_neg (show ¬ (b < 1 ∨ 400 < b ∨ w < 0 ∨ ¬ w ≤ 2) from fun q => q.elim z1 (fun q => q.elim z2 (fun q => q.elim z3 (fun q => q z4))))]
          have h0 : ¬ b < 0 := fun q => z1 (Int32.lt_trans q (by decide))
          obtain ⟨bd, hbd0, rfl⟩ := nI_of h0
          obtain ⟨way, hway, rfl⟩ := nI_of2 (M := 2) (n := 2) (by decide) z3 z4
          have hbd : bd ≤ 400 := by
            have : ¬ nI 400 < nI bd := z2
            have := (not_congr (nI_ltI (by decide) hbd0)).mp this
            omega
          rw [cl_nI hbd0, cl_nI (show way < 2 ^ 31 by omega)]
          obtain ⟨F, Es, tw, Gl, P, htw, ⟨LL, GA, gd, c, ⟨hg2, hg3, hga, hnd⟩, h1⟩, hlt⟩ := h.cq hA
          have c1 := c.pX 6 1
          have c2 := c1.pX 7 (nI bd)
          refine wp_pi rfl c.kx (wp_pi rfl c.kx (wp_K rfl c2.kx ?_))
          have f1 : Fc E σ (pI 6 7 (A 0) (nI bd) (pI 6 6 (A 0) 1 σ)) := (Fc.one (Fo.pI c.wf c.kx (by decide)) c.kx (by decide)).tr (Fc.one (Fo.pI c1.wf c1.kx (by decide)) c1.kx (by decide))
          have ft : wp (f_X5_findTwins E (some (A 0)) (pI 6 7 (A 0) (nI bd) (pI 6 6 (A 0) 1 σ))) (fun _ τ => CB E τ A (up (up F 6 1) 7 (nI bd)) LL n Es (fun i => (kd i, bs i, twF kd bs i)) GA gd ∧ Fc E (pI 6 7 (A 0) (nI bd) (pI 6 6 (A 0) 1 σ)) τ ∧ Gr σ τ 0 0) := by
            refine wp_oM (E := E) (wp_mono (sp_ftL hE hn (fun j hj => by have := (hA.1.2 j hj).1; show kd j < 100; exact Nat.lt_of_lt_of_le this (by decide)) h1 n E.1 0 _ tw (by omega) (by omega) hO c2 (fun j hj => absurd hj (Nat.not_lt_zero _))) ?_)
            rintro _ τ ⟨u1, u2, u3⟩
            exact ⟨u3.bk (E := E) hO.1 hO.2, u1, u2, u3⟩
          refine wp_bd ft ?_
          rintro _ s1 ⟨c3, f3, g3⟩
          refine wp_K rfl c3.kx ?_
          have q1 := g3.2.2.1
          have q2 := g3.2.2.2
          have hO1 : Ok E s1 := ⟨by omega, by omega⟩
          have dg : wp (f_X5_dropGroups E (some (A 0)) s1) (fun _ τ => CB E τ A (up (up F 6 1) 7 (nI bd)) (up (up LL 3 (P ++ Gl)) 2 []) n Es (fun i => (kd i, bs i, twF kd bs i)) GA gd ∧ Fc E s1 τ ∧ Gr s1 τ Gl.length (49 * Gl.length)) := by
            have cc : CB E s1 A (up (up F 6 1) 7 (nI bd)) (up LL 3 (P ++ Gl.take 0)) n Es (fun i => (kd i, bs i, twF kd bs i)) GA gd := by
              have : up LL 3 (P ++ Gl.take 0) = LL := by rw [List.take_zero, List.append_nil, ← hg3]; exact up_id LL 3
              rw [this]; exact c3
            refine wp_oM (E := E) (wp_mono (sp_dgL (Gl := Gl) (P := P) hE hg2 (fun g hg => hga g (List.mem_append_left _ hg)) (by omega) Gl.length E.1 0 s1 (by omega) (by omega) cc (by omega) (by omega)) ?_)
            rintro _ τ ⟨u1, u2, u3⟩
            exact ⟨u3.bk (E := E) (by omega) (by omega), u1, u2, u3⟩
          refine wp_bd dg ?_
          rintro _ s2 ⟨c4, f4, g4⟩
          have cp : CP E s2 A (up (up F 6 1) 7 (nI bd)) n Es kd bs bs (twF kd bs) (fun _ => False) [] (P ++ Gl) (LL 4) := by
            refine ⟨_, GA, gd, c4, ⟨by rw [up_s]; rfl, by rw [up_n (by decide), up_s], fun i p hp => (nomatch hp), fun g hg => ?_, ?_⟩, fun i p hp => (nomatch hp), by rw [up_n (by decide), up_n (by decide)]; exact h1, by rw [up_n (by decide), up_n (by decide)]⟩
            · rcases List.mem_append.mp hg with w | w
              · exact hga g (List.mem_append_right _ w)
              · exact hga g (List.mem_append_left _ w)
            · show (P ++ Gl).Nodup
              exact (List.perm_append_comm.nodup_iff).mp hnd
          have bg : Bg σ s2 t (([] : List (Nat × Grp)).length + (P ++ Gl).length) (30 + 4 * ([] : List Nat).length) := by
            have e1 : ([] : List (Nat × Grp)).length + (P ++ Gl).length = t := by rw [List.length_append]; show 0 + (P.length + Gl.length) = t; omega
            rw [e1]
            have e2 : Gr σ s2 (0 + Gl.length) (0 + 49 * Gl.length) := g3.tr g4
            exact e2.bg (u := 30) (by omega) (by omega)
          have twl : ∀ j, j < n → twF kd bs j < 1000 := fun j hj => by have := (twF_le (kd := kd) (bs := bs) j).1; omega
          have hf7 : up (up F 6 1) 7 (nI bd) 7 = nI bd := up_s
          refine wp_mono (sp_pkL (σ0 := σ) (way := way) (bd := bd) hE hA.1 hway twl hf7 hbd ht hr1 hr2 6 0 E.1 s2 [] (P ++ Gl) [] (LL 4) (by omega) (by omega) cp PK2.nil bg) ?_
          rintro r τ ⟨G', P', Ln', w1, w2, w3, w4, w5⟩
          obtain ⟨x1, x2, x3⟩ := w5.room (E := E) ht (by omega) hr1 hr2
          have hlen : G'.length = (packF n kd bs bd (twF kd bs) way 6 0 []).length := by rw [← List.length_map (f := (·.2)) (as := G'), w3]; rfl
          refine ⟨⟨w5.1.1, w5.1.2, by omega, by omega⟩, ?_, ((f1.tr f3).tr f4).tr w4, G'.length + P'.length, ⟨up (up F 6 1) 7 (nI bd), Es, ?_, hf7, G', P', Ln', w2, w3, rfl⟩, w5.wk (by omega)⟩
          · rw [w1, hlen]
          · rw [up_n (show (6 : Nat) ≠ 7 by decide), up_s]
        · rw [if_neg z4, if_pos (show b < 1 ∨ 400 < b ∨ w < 0 ∨ ¬ w ≤ 2 from Or.inr (Or.inr (Or.inr z4)))]; exact bad
end CPS
