section CPS
variable {E : PE} {σ τ : PS} {A : Nat → Nat} {F : Nat → Int32} {LL : Nat → List Nat} {n : Nat} {Es kd tw : Nat → Nat} {ed : Nat → Nat × List Nat × Nat} {GA : Nat → Prop} {gd : Nat → Nat × Nat × List Nat × List (Nat × Nat × Nat)} {G : List (Nat × Grp)} {P Ln : List Nat} {bs bo : Nat → List Nat} {V : Nat → Prop}
theorem GI.of (h : GIs n (G.map (·.2))) : GI n G := fun i p hp => h p.2 (List.mem_of_getElem? (map_at hp))
theorem CP.ent (h : CP E σ A F n Es kd bs bo tw V G P Ln) {e : Nat} (he : e < n) : isE σ (Es e) e (kd e) (bs e) (tw e) := by obtain ⟨LL, GA, gd, c, -⟩ := h; exact c.e he
theorem CP.kx (h : CP E σ A F n Es kd bs bo tw V G P Ln) : sK σ (A 0) = some 6 := by obtain ⟨LL, GA, gd, c, -⟩ := h; exact c.kx
theorem CP.tok (h : CP E σ A F n Es kd bs bo tw V G P Ln) {V' : Nat → Prop} (hc : ∀ (i : Nat) (p : Nat × Grp), G[i]? = some p → V' p.1 → V p.1 ∧ cont bs p.2.2.1 = cont bo p.2.2.1) : CP E σ A F n Es kd bs bs tw V' G P Ln := by
  obtain ⟨LL, GA, gd, c, hv, hR, h1, h4⟩ := h
  refine ⟨LL, GA, gd, c, hv, fun i p hp => ?_, h1, h4⟩
  obtain ⟨a1, a2, a3, a4⟩ := hR i p hp
  refine ⟨a1, a2, a3, fun z => ?_⟩
  obtain ⟨b1, b2⟩ := hc i p hp z
  rw [b2]
  exact a4 b1
theorem sp_homeOfChanged {bd e : Nat} (hE : 1000 ≤ E.1) (hA : AE n kd bs) (h : CP E σ A F n Es kd bs bo tw (fun _ => True) G P Ln) (hI : AI n kd bo tw bd (G.map (·.2))) (he : e < n) (hb2 : ∀ i, i ≠ e → bs i = bo i) (hF : F 7 = nI bd) (h1 : sN σ + 8 ≤ E.2.1) (h2 : sS σ + 1310 ≤ E.2.2.1) :
    wp (f_X5_homeOfChanged E (some (A 0)) (some (Es e)) σ) (fun r τ => ∃ (G' : List (Nat × Grp)) (P' : List Nat) (hm : Nat), r = some hm ∧ CP E τ A F n Es kd bs bs (chgG n kd bs bd tw (G.map (·.2)) e).1 (fun a => a ≠ hm) G' P' Ln ∧ G'.map (·.2) = (chgG n kd bs bd tw (G.map (·.2)) e).2.1 ∧ (∃ q, G'[(chgG n kd bs bd tw (G.map (·.2)) e).2.2]? = some (hm, q)) ∧ Fc E σ τ ∧ Bg σ τ (G.length + P.length) (G'.length + P'.length) 2) := by
  have hn := hA.1
  have hO : Ok E σ := ⟨by omega, by omega⟩
  have hbd := hI.2.2.2.2
  have gis := hI.gis hn (fun e he => (hA.2 e he).1)
  have hke := (hA.2 e he).1
  obtain ⟨be, me, ge, gm⟩ := h.ent he
  have isEe := h.ent he
  have twl : ∀ j, j < n → tw j < n := fun j hj => (hI.1 j hj).1
  have gl : G.length ≤ n := by have := hI.lens.2; rw [List.length_map] at this; exact this
  refine wp_oM (E := E) ?_
  unfold g_X5_homeOfChanged
  refine wp_K rfl ge.1 (wp_rd (sp_isKept hO isEe (by omega) (by have := twl e he; omega)) ?_)
  by_cases z : tw e = e
  · rw [if_pos z]
    have hef : e ∈ flat (G.map (·.2)) := (hI.2.2.1 e).mpr ⟨he, z⟩
    obtain ⟨LL, GA, gd, c, hv, hR, hl1, h4⟩ := id h
    refine wp_f ne01 (wp_gi rfl ge.1 (wp_K rfl c.kx ?_))
    rw [ge.2.1]
    have lt := sp_leastTwinOf (e := e) hE (by omega) hO c hl1 (by omega) (fun i hi => by have := twl i hi; show tw i < 1000; omega)
    refine wp_rd lt (wp_K rfl c.kx (wp_rd (sp_isEntry hO c _) ?_))
    have hho : firstF (fun j => j ≠ e ∧ tw j = e) n 0 = heirOf n tw e := rfl
    rw [CB.lenE hl1, enc_in (by omega) (fun l hl => by have := (firstF_some _ _ _ _ hl).2.2.1; omega)]
    show wp (if (if heirOf n tw e = none then (0 : Int32) else 1) = 0 then _ else _) _
    cases ho : heirOf n tw e with
    | none =>
      rw [if_pos rfl]
      obtain ⟨x1, x2⟩ := gx_lt e _ hef
      have hgi : gx e (G.map (·.2)) < G.length := by rw [List.length_map] at x1; exact x1
      obtain ⟨p, hp⟩ := at_of hgi
      have gn := sp_groupNumberOf (e := e) hE (by omega) hO c hv hR (by omega) (fun i p hp => (GI.of gis i p hp).2.2)
      rw [if_pos hef] at gn
      refine wp_t rfl (wp_gi rfl ge.1 (wp_K rfl c.kx ?_))
      rw [ge.2.1]
      refine wp_rd gn (wp_K rfl c.kx (wp_rd (sp_isGroup hO c _) ?_))
      rw [show (LL 2).length = G.length by rw [hv.1, List.length_map], in_y hgi (by omega)]
      refine wp_f ne01 (wp_gr rfl c.kx (wp_K c.f1 (c.l j2).1 ?_))
      rw [c.f1]
      have ech : chgG n kd bs bd tw (G.map (·.2)) e = (tw, G.map (·.2), gx e (G.map (·.2))) := by unfold chgG; rw [if_pos z, ho]
      rw [ech]
      refine wp_rd (c.getG hO hv hp) (wp_ca rfl (c.g (hv.2.2.1 _ p hp)).1 (wp_ret ⟨⟨Nat.le_refl _, Nat.le_refl _, hO.1, hO.2⟩, G, P, p.1, rfl, h.tok (fun i q hq hne => ⟨trivial, ?_⟩), rfl, ⟨p.2, hp⟩, Fc.rf c.wf, Bg.rf.wk (by omega)⟩))
      refine cont_congr (fun j hj => hb2 j (fun y => hne ?_))
      subst y
      have := gx_uniq j _ i q.2 hI.2.1 (map_at hq) hj
      rw [this] at hp
      cases hp.symm.trans hq
      rfl
    | some hr =>
      obtain ⟨⟨b1, b2⟩, -, b3, -⟩ := firstF_some _ _ _ _ ho
      have b3 : hr < n := by omega
      rw [show (if some hr = none then (0 : Int32) else 1) = 1 from if_neg (fun z => nomatch z)]
      refine wp_f ne01 (wp_gr rfl c.kx (wp_K c.f0 (c.l j1).1 ?_))
      rw [c.f0]
      have hen : encO (firstF (fun j => j ≠ e ∧ tw j = e) n 0) = nI hr := by rw [hho, ho]; rfl
      rw [hen]
      have bsr : bs hr = bo e := by rw [hb2 hr b1, ← (hI.1 hr b3).2.2.2, b2]
      refine wp_rd (c.getE hO hl1 b3) (wp_ca rfl (c.ke b3) (wp_K rfl c.kx (wp_bd (sp_handOver (e := e) (hr := hr) hE (by omega) hO h (GI.of gis) hI.2.1 (fun j hj => by have := twl j hj; omega) he b3 b1 hef bsr hb2) ?_)))
      rintro _ s ⟨G0, c0, eG, hlen, fc, sz⟩
      obtain ⟨be2, me2, ge2, gm2⟩ := c0.ent he
      refine wp_gi rfl ge2.1 (wp_K rfl c0.kx ?_)
      rw [ge2.2.2.1]
      obtain ⟨R, p1, p2⟩ := swap_flat (hr := hr) hI.2.1 hef
      have nR := List.nodup_cons.mp (p1.nodup_iff.mp hI.2.1)
      have hrR : hr ∉ R := fun w => b1 (((hI.2.2.1 hr).mp (p1.mem_iff.mpr (List.mem_cons_of_mem _ w))).2.symm.trans b2)
      have gl0 : G0.length + 1 ≤ n := by
        have e1 := AI.free (n := n) (L := flat (swapG e hr (G.map (·.2)))) (e := e) (p2.nodup_iff.mpr (List.nodup_cons.mpr ⟨hrR, nR.2⟩)) (fun x hx => by
          rcases List.mem_cons.mp (p2.mem_iff.mp hx) with w | w
          · rw [w]; exact b3
          · exact ((hI.2.2.1 x).mp (p1.mem_iff.mpr (List.mem_cons_of_mem _ w))).1) he (fun w => by
          rcases List.mem_cons.mp (p2.mem_iff.mp w) with w | w
          · exact b1 w.symm
          · exact nR.1 w)
        have e2 := flat_len _ (swapG_ne (e := e) (hr := hr) (fun q hq => (hI.2.2.2.1 q hq).1))
        rw [swapG_len, List.length_map] at e2
        omega
      have gi0 : GI n G0 := GI.of (by rw [eG]; exact gis.swap b3)
      have ss1 := sz.2.2.1
      have ss2 := sz.2.2.2
      refine wp_bd (so_put (kind := kd e) (bd := bd) (e := e) hE (by omega) c0 (fun i p hp => (gi0 i p hp).1) (fun i p hp => (gi0 i p hp).2) (by omega) he hF hbd (by omega) (by omega) (by omega)) ?_
      rintro r τ ⟨G', P', hm, a1, a2, a3, a4, a5, a6, a7⟩
      have ech : chgG n kd bs bd tw (G.map (·.2)) e = (twH tw e hr, (putE bs bd (kd e) e (swapG e hr (G.map (·.2)))).1, (putE bs bd (kd e) e (swapG e hr (G.map (·.2)))).2) := by unfold chgG; rw [if_pos z, ho]
      rw [ech]
      rw [eG] at a3 a4
      have bg : Bg σ τ (G.length + P.length) (G'.length + P'.length) 2 := by
        have := (sz.bg (t := G.length + P.length) (u := 0) (by omega) (by omega)).tr (by rw [← hlen]; exact a6)
        exact this.wk (by omega)
      refine wp_ret ⟨⟨bg.1.1, bg.1.2, a7.1, a7.2⟩, G', P', hm, a1, a2.tok (fun i q _ hne => ⟨⟨trivial, hne⟩, rfl⟩), a3, a4, fc.tr a5, bg⟩
  · rw [if_neg z]
    have hef : e ∉ flat (G.map (·.2)) := fun w => z ((hI.2.2.1 e).mp w).2
    refine wp_t rfl (wp_gi rfl ge.1 (wp_pi rfl ge.1 (wp_gi rfl ge.1 (wp_K rfl h.kx ?_))))
    rw [ge.2.1, gI_n (by decide), ge.2.2.1]
    obtain ⟨c1, f1⟩ := h.tw1 (t := e) (by omega) he
    have c2 := c1.tok (V' := fun _ => True) (fun i q hq _ => ⟨trivial, cont_congr (fun j hj => hb2 j (fun y => hef (by rw [← y]; exact mem_flat.mpr ⟨q.2, List.mem_of_getElem? (map_at hq), hj⟩)))⟩)
    have gl0 : G.length + 1 ≤ n := by
      have e1 := AI.free hI.2.1 (fun x hx => ((hI.2.2.1 x).mp hx).1) he hef
      have e2 := flat_len _ (fun q hq => (hI.2.2.2.1 q hq).1)
      rw [List.length_map] at e2
      omega
    refine wp_bd (so_put (kind := kd e) (bd := bd) (e := e) hE (by omega) c2 (fun i p hp => (GI.of gis i p hp).1) (fun i p hp => (GI.of gis i p hp).2) (by omega) he hF hbd (by omega) h1 h2) ?_
    rintro r τ ⟨G', P', hm, a1, a2, a3, a4, a5, a6, a7⟩
    have ech : chgG n kd bs bd tw (G.map (·.2)) e = (up tw e e, (putE bs bd (kd e) e (G.map (·.2))).1, (putE bs bd (kd e) e (G.map (·.2))).2) := by unfold chgG; rw [if_neg z]
    rw [ech]
    refine wp_ret ⟨⟨a6.1.1, a6.1.2, a7.1, a7.2⟩, G', P', hm, a1, a2.tok (fun i q _ hne => ⟨⟨trivial, hne⟩, rfl⟩), a3, a4, f1.tr a5, a6⟩
end CPS
