theorem place_le {bs : Nat → List Nat} {mem : List Nat} {t : Nat} (h : t ∈ mem) : (cont bs (mem.take (ix t mem))).length + (bs t).length ≤ (cont bs mem).length := by
  obtain ⟨s1, -⟩ := set_split (y := t) (ix_get h)
  have e2 : cont bs mem = cont bs (mem.take (ix t mem)) ++ (bs t ++ cont bs (mem.drop (ix t mem + 1))) := by
    have := congrArg (cont bs) s1
    rw [cont_app, cont_cons] at this
    exact this
  rw [e2, List.length_append, List.length_append]
  omega
theorem cont_lt {bs : Nat → List Nat} {mem : List Nat} {n : Nat} (hm : ∀ i ∈ mem, i < n) (hb : ∀ e, e < n → ∀ x ∈ bs e, x < 256) : ∀ x ∈ cont bs mem, x < 256 := by
  intro x hx
  obtain ⟨i, hi, hx⟩ := List.mem_flatMap.mp hx
  exact hb i (hm i hi) x hx
section CPS
variable {E : PE} {σ τ : PS} {A : Nat → Nat} {F : Nat → Int32} {LL : Nat → List Nat} {n : Nat} {Es kd tw : Nat → Nat} {ed : Nat → Nat × List Nat × Nat} {GA : Nat → Prop} {gd : Nat → Nat × Nat × List Nat × List (Nat × Nat × Nat)} {G : List (Nat × Grp)} {P Ln : List Nat} {bs bo : Nat → List Nat} {V : Nat → Prop} {S : Option PK} {t : Nat}
theorem sp_access (hE : 1000 ≤ E.1) (hA : AST (n, kd, bs, S)) (hO : Ok E σ) (h : CI E σ A n kd bs S t) (v : Int32) : f_X5_access E (some (A 0)) v σ = some (aAccess v (n, kd, bs, S), σ) := by
  have hn : n ≤ 30 := hA.1.1
  obtain ⟨F, Es, LL, GA, gd, tw, c, h1, hS0, hS1⟩ := h.rd
  refine oM_rd hO ?_
  unfold g_X5_access f_X5_access_B56 aAccess
  refine e_K rfl c.kx (bd_rd (sp_isEntry hO c v) ?_)
  rw [CB.lenE h1]
  rcases in2 v (L := n) (by omega) with ⟨e1, e2⟩ | ⟨e1, e2, j, j1', rfl⟩
  · rw [e2, if_pos rfl, if_pos e1]
  · rw [e2, if_neg ne01, if_neg e1]
    refine e_gi rfl c.kx ?_
    rw [c.fF]
    cases S with
    | none => rw [hS0 rfl]; exact e_t rfl rfl
    | some s =>
      obtain ⟨f6, -, htw, G, P, hv, hR, hG⟩ := hS1 s rfl
      have hI : AI n kd bs s.2.1 s.1 s.2.2 := hA.2 s rfl
      have hk : ∀ e, e < n → kd e < 6 := fun e he => (hA.1.2 e he).1
      obtain ⟨p, hp, q1, x2, hgi, gn, ⟨T, r1, r2⟩, g1, hpl, hpm⟩ := sp_look hE hn hk hO c hv hR hG htw hI j1'
      have hgl := c.lenG hv
      obtain ⟨b, m, g0, -⟩ := c.e j1'
      have et : sI σ 2 5 (Es j) = nI (s.2.1 j) := by rw [g0.2.2.2.2.1]; show nI (tw j) = _; rw [htw]
      have hbl : (bs j).length ≤ 60 := g0.lens
      rw [f6]
      refine e_f ne01 (e_gr rfl c.kx (e_K c.f0 (c.l j1).1 ?_))
      rw [c.f0]
      refine bd_rd (c.getE hO h1 j1') (e_ca rfl g0.1 (e_gi rfl g0.1 (e_K rfl c.kx ?_)))
      rw [et]
      refine bd_rd gn (e_gi rfl g0.1 ?_)
      rw [g0.2.2.2.1]
      show _ = some (nI (till (toks (contG bs s.2.2 (gx (s.2.1 (cl (nI j))) s.2.2))) (if (bs (cl (nI j))).length = 0 then 0 else placeN bs s.2.1 s.2.2 (cl (nI j)) + (bs (cl (nI j))).length)), σ)
      rw [cl_nI (by omega)]
      by_cases hz : (bs j).length = 0
      · rw [if_pos hz, till_0]
        refine e_t ?_ rfl
        show nI (bs j).length = 0
        rw [hz]
        rfl
      · rw [if_neg hz]
        refine e_f (show ¬ nI (bs j).length = 0 from nI_ne0 (by omega) (by omega)) (e_K rfl c.kx (bd_rd (sp_isGroup hO c _) ?_))
        rw [show (LL 2).length = G.length by rw [hv.1, List.length_map], in_y hgi (by omega)]
        refine e_f ne01 (e_gr rfl c.kx (e_K c.f1 (c.l j2).1 ?_))
        rw [c.f1]
        have hpll : placeN bs s.2.1 s.2.2 j ≤ 400 := by
          unfold placeN
          rw [q1]
          have := place_le (bs := bs) x2
          have := (hI.2.2.2.1 p.2 hpm).2.2
          omega
        refine bd_rd (c.getG hO hv hp) (e_ca rfl g1 (e_gr rfl g1 (e_K rfl c.kx (bd_rd (sp_xplaceOf hE hn hk hO c hv hR hG htw hI j1') (e_gi rfl g0.1 (e_K r1 r2.1 ?_))))))
        rw [g0.2.2.2.1, nI_add, r1]
        refine bd_rd (sp_tokensTill hE hO r2 (toks_many _) (by show placeN bs s.2.1 s.2.2 j + (bs j).length ≤ 100000; omega)) ?_
        unfold contG
        rw [q1]
theorem sp_isByteOf (hn : n ≤ 30) (hO : Ok E σ) (c : CB E σ A F LL n Es (fun i => (kd i, bs i, tw i)) GA gd) (h1 : LL 1 = (List.range n).map Es) (v i : Int32) : f_X5_isByteOf E (some (A 0)) v i σ = some (if v < 0 ∨ nI n ≤ v then 0 else if i < 0 ∨ nI (bs (cl v)).length ≤ i then 0 else 1, σ) := by
  refine oM_rd hO ?_
  unfold g_X5_isByteOf f_X5_isByteOf_B34
  refine e_K rfl c.kx (bd_rd (sp_isEntry hO c v) ?_)
  rw [CB.lenE h1]
  rcases in2 v (L := n) (by omega) with ⟨e1, e2⟩ | ⟨e1, e2, j, j1', rfl⟩
  · rw [e2, if_pos rfl, if_pos e1]; rfl
  · rw [e2, if_neg ne01, if_neg e1, cl_nI (by omega)]
    by_cases z : i < 0
    · rw [if_pos z, if_pos (Or.inl z)]; rfl
    · rw [if_neg z]
      refine e_gr rfl c.kx (e_K c.f0 (c.l j1).1 ?_)
      rw [c.f0]
      obtain ⟨b, m, g0, -⟩ := c.e j1'
      refine bd_rd (c.getE hO h1 j1') (e_ca rfl g0.1 (e_gi rfl g0.1 ?_))
      rw [g0.2.2.2.1]
      by_cases y : nI (bs j).length ≤ i
      · rw [if_pos (show nI (bs j).length ≤ i from y), if_pos (Or.inr y)]; rfl
      · rw [if_neg (show ¬ nI (bs j).length ≤ i from y), if_neg (fun w => w.elim z y)]; rfl
theorem sp_open (hE : 1000 ≤ E.1) (hA : AST (n, kd, bs, S)) (hO : Ok E σ) (h : CI E σ A n kd bs S t) (v i : Int32) : f_X5_open E (some (A 0)) v i σ = some (aOpen v i (n, kd, bs, S), σ) := by
  have hn : n ≤ 30 := hA.1.1
  obtain ⟨F, Es, LL, GA, gd, tw, c, h1, hS0, hS1⟩ := h.rd
  refine oM_rd hO ?_
  unfold g_X5_open aOpen
  refine e_K rfl c.kx (bd_rd (sp_isByteOf hn hO c h1 v i) ?_)
  rcases in2 v (L := n) (by omega) with ⟨e1, e2⟩ | ⟨e1, e2, j, j1', rfl⟩
  · rw [if_pos e1, if_pos rfl, if_pos e1]
  · rw [if_neg e1, if_neg e1, cl_nI (show j < 2 ^ 31 by omega)]
    obtain ⟨b, m, g0, -⟩ := c.e j1'
    have hbl : (bs j).length ≤ 60 := g0.lens
    show (if (if i < 0 ∨ nI (bs j).length ≤ i then (0 : Int32) else 1) = 0 then _ else _) = some (if i < 0 ∨ nI (bs j).length ≤ i then _ else _, σ)
    rcases in2 i (L := (bs j).length) (by omega) with ⟨d1, d2⟩ | ⟨d1, d2, k, k1', rfl⟩
    · rw [d2, if_pos rfl, if_pos d1]
    · rw [d2, if_neg ne01, if_neg d1]
      refine e_gi rfl c.kx ?_
      rw [c.fF]
      cases S with
      | none => rw [hS0 rfl]; exact e_t rfl rfl
      | some s =>
        obtain ⟨f6, -, htw, G, P, hv, hR, hG⟩ := hS1 s rfl
        have hI : AI n kd bs s.2.1 s.1 s.2.2 := hA.2 s rfl
        have hk : ∀ e, e < n → kd e < 6 := fun e he => (hA.1.2 e he).1
        obtain ⟨p, hp, q1, x2, hgi, gn, ⟨T, r1, r2⟩, g1, hpl, hpm⟩ := sp_look hE hn hk hO c hv hR hG htw hI j1'
        have hgl := c.lenG hv
        have et : sI σ 2 5 (Es j) = nI (s.2.1 j) := by rw [g0.2.2.2.2.1]; show nI (tw j) = _; rw [htw]
        rw [f6]
        refine e_f ne01 (e_gr rfl c.kx (e_K c.f0 (c.l j1).1 ?_))
        rw [c.f0]
        refine bd_rd (c.getE hO h1 j1') (e_ca rfl g0.1 (e_gi rfl g0.1 (e_K rfl c.kx ?_)))
        rw [et]
        refine bd_rd gn (e_K rfl c.kx (bd_rd (sp_isGroup hO c _) ?_))
        rw [show (LL 2).length = G.length by rw [hv.1, List.length_map], in_y hgi (by omega)]
        refine e_f ne01 (e_gr rfl c.kx (e_K c.f1 (c.l j2).1 ?_))
        rw [c.f1]
        have hpll : placeN bs s.2.1 s.2.2 j + k < (cont bs p.2.2.1).length := by
          unfold placeN
          rw [q1]
          have h2 := place_le (bs := bs) x2
          have h3 : bs (s.2.1 j) = bs j := (hI.1 j j1').2.2.2
          rw [h3] at h2
          omega
        refine bd_rd (c.getG hO hv hp) (e_ca rfl g1 (e_gr rfl g1 (e_K rfl c.kx (bd_rd (sp_xplaceOf hE hn hk hO c hv hR hG htw hI j1') (e_K r1 r2.1 ?_)))))
        rw [nI_add, r1]
        have hc400 : (cont bs p.2.2.1).length ≤ 400 := (hI.2.2.2.1 p.2 hpm).2.2
        refine bd_rd (sp_unpack hE hO r2 hc400 (cont_lt (n := n) (fun i hi => ((hI.2.2.1 i).mp (mem_flat.mpr ⟨p.2, hpm, hi⟩)).1) (fun e he => (hA.1.2 e he).2.2)) hpll) ?_
        show some (_, σ) = some (nI ((contG bs s.2.2 (gx (s.2.1 j) s.2.2)).getD (placeN bs s.2.1 s.2.2 j + cl (nI k)) 0), σ)
        rw [cl_nI (by omega)]
        unfold contG
        rw [q1]
theorem sp_orderL (hn : n ≤ 1000) (hO : Ok E σ) (c : CB E σ A F LL n Es ed GA gd) (hv : LV LL GA G P) (hR : RG Es bo V G gd) (gis : GI n G) : ∀ (k f g left : Nat), G.length = g + k → k < f → left < 2 ^ 31 → f_X5_order_L20 E f (some (A 0)) (nI left) (nI g) σ = some (if left < (flat ((G.map (·.2)).drop g)).length then nI ((flat ((G.map (·.2)).drop g)).getD left 0) else -1, σ)
  | 0, f, g, left, hm, hf, hl => by
    obtain ⟨f, rfl⟩ : ∃ z, f = z + 1 := ⟨f - 1, by omega⟩
    have hgl := c.lenG hv
    rw [f_X5_order_L20]
    refine e_gr rfl c.kx (e_K c.f1 (c.l j2).1 ?_)
    rw [c.f1]
    refine bd_rd (sp_size hO (c.l j2)) (e_t (by rw [hv.1, List.length_map]; exact nI_le (by omega) (by omega)) ?_)
    rw [List.drop_eq_nil_of_le (by rw [List.length_map]; omega), if_neg (show ¬ left < (flat []).length from Nat.not_lt_zero _)]
  | k + 1, f, g, left, hm, hf, hl => by
    obtain ⟨f, rfl⟩ : ∃ z, f = z + 1 := ⟨f - 1, by omega⟩
    have hgl := c.lenG hv
    obtain ⟨p, hp⟩ := at_of (L := G) (i := g) (by omega)
    have hg := c.g (hv.2.2.1 g p hp)
    obtain ⟨k1, k2, k3, k4⟩ := hR g p hp
    obtain ⟨g1, g2, g3, ml, t, ⟨r1, r2⟩, q1, q2⟩ := id hg
    rw [k3] at r2
    obtain ⟨m1, m2, m3⟩ := gis g p hp
    have hdrop : (G.map (·.2)).drop g = p.2 :: (G.map (·.2)).drop (g + 1) := by
      have := drop_cons (T := G.map (·.2)) (i := g) (by rw [List.length_map]; omega) dG
      rw [gf_at hp] at this
      exact this
    have ih := sp_orderL hn hO c hv hR gis k f (g + 1) (left - p.2.2.1.length) (by omega) (by omega) (by omega)
    rw [f_X5_order_L20]
    refine e_gr rfl c.kx (e_K c.f1 (c.l j2).1 ?_)
    rw [c.f1]
    refine bd_rd (sp_size hO (c.l j2)) (e_f (by rw [hv.1, List.length_map]; exact nI_ge (by omega) (by omega)) (e_gr rfl c.kx (e_K c.f1 (c.l j2).1 ?_)))
    rw [c.f1]
    refine bd_rd (c.getG hO hv hp) (e_ca rfl g1 (e_gr rfl g1 (e_K r1 r2.1 ?_)))
    rw [r1]
    refine bd_rd (sp_size hO r2) ?_
    rw [List.length_map, hdrop, flat_cons, List.length_append]
    by_cases z : p.2.2.1.length ≤ left
    · refine e_t (nI_le z hl) ?_
      rw [pk_sub z, nI_1, ih]
      by_cases y : left < p.2.2.1.length + (flat ((G.map (·.2)).drop (g + 1))).length
      · rw [if_pos y, if_pos (by omega), List.getD_eq_getElem?_getD, List.getD_eq_getElem?_getD, List.getElem?_append_right z]
      · rw [if_neg y, if_neg (by omega)]
    · have hlt : left < p.2.2.1.length := by omega
      refine e_f (nI_ge hlt (by omega)) (e_gr rfl g1 (e_K r1 r2.1 ?_))
      rw [r1]
      have hget : (p.2.2.1.map Es)[left]? = some (Es p.2.2.1[left]) := by rw [List.getElem?_map, List.getElem?_eq_getElem hlt]; rfl
      have hmi := m3 _ (List.getElem_mem hlt)
      obtain ⟨b, m, g0, -⟩ := c.e hmi
      refine bd_rd (sp_get hO r2 (by rw [List.length_map]; exact hlt)) ?_
      rw [hget]
      refine e_ca rfl g0.1 (e_gi rfl g0.1 ?_)
      rw [g0.2.1, if_pos (by omega), List.getD_eq_getElem?_getD, List.getElem?_append_left hlt, List.getElem?_eq_getElem hlt]
      rfl
theorem sp_order (hE : 1000 ≤ E.1) (hA : AST (n, kd, bs, S)) (hO : Ok E σ) (h : CI E σ A n kd bs S t) (v : Int32) : f_X5_order E (some (A 0)) v σ = some (aOrder v (n, kd, bs, S), σ) := by
  have hn : n ≤ 30 := hA.1.1
  obtain ⟨F, Es, LL, GA, gd, tw, c, h1, hS0, hS1⟩ := h.rd
  refine oM_rd hO ?_
  unfold g_X5_order aOrder
  refine e_gi rfl c.kx ?_
  rw [c.fF]
  cases S with
  | none => rw [hS0 rfl]; exact e_t rfl rfl
  | some s =>
    obtain ⟨f6, -, htw, G, P, hv, hR, hG⟩ := hS1 s rfl
    have hI : AI n kd bs s.2.1 s.1 s.2.2 := hA.2 s rfl
    have gis : GI n G := GI.of (by rw [hG]; exact hI.gis hn (fun e he => (hA.1.2 e he).1))
    have hgl := c.lenG hv
    have hfl : (flat s.2.2).length ≤ n := hI.lens.1
    rw [f6]
    refine e_f ne01 ?_
    by_cases z : v < 0
    · rw [if_neg (Int32.not_le.mpr z)]
      show _ = some (if v < 0 ∨ nI (flat s.2.2).length ≤ v then _ else _, σ)
      rw [if_pos (Or.inl z)]
    · obtain ⟨j, hj, rfl⟩ := nI_of z
      refine e_t (nI_pos' hj) ?_
      have := sp_orderL (by omega) hO c hv hR gis G.length E.1 0 j (by omega) (by omega) hj
      rw [List.drop_zero, hG] at this
      refine Eq.trans this ?_
      show _ = some (if nI j < 0 ∨ nI (flat s.2.2).length ≤ nI j then _ else nI ((flat s.2.2).getD (cl (nI j)) 0), σ)
      rw [cl_nI hj]
      by_cases y : j < (flat s.2.2).length
      · rw [if_pos y, if_neg (fun w => w.elim (nI_pos hj) (nI_ge y (by omega)))]
      · rw [if_neg y, if_pos (Or.inr (nI_le (by omega) hj))]
theorem sp_of (hE : 1000 ≤ E.1) (hA : AST (n, kd, bs, S)) (hO : Ok E σ) (h : CI E σ A n kd bs S t) (v w : Int32) : f_X5_of E (some (A 0)) v w σ = some (aOf v w (n, kd, bs, S), σ) := by
  have hn : n ≤ 30 := hA.1.1
  obtain ⟨F, Es, LL, GA, gd, tw, c, h1, hS0, hS1⟩ := h.rd
  refine oM_rd hO ?_
  unfold g_X5_of aOf
  refine e_gi rfl c.kx ?_
  rw [c.fF]
  cases S with
  | none => rw [hS0 rfl]; exact e_t rfl rfl
  | some s =>
    obtain ⟨f6, -, htw, G, P, hv, hR, hG⟩ := hS1 s rfl
    have hI : AI n kd bs s.2.1 s.1 s.2.2 := hA.2 s rfl
    have gis : GI n G := GI.of (by rw [hG]; exact hI.gis hn (fun e he => (hA.1.2 e he).1))
    have hgl := c.lenG hv
    have hGs : s.2.2.length = G.length := by rw [← hG, List.length_map]
    rw [f6]
    refine e_f ne01 (e_K rfl c.kx (bd_rd (sp_isGroup hO c v) ?_))
    rw [show (LL 2).length = G.length by rw [hv.1, List.length_map]]
    show _ = some (if v < 0 ∨ nI s.2.2.length ≤ v then _ else _, σ)
    rw [hGs]
    rcases in2 v (L := G.length) (by omega) with ⟨e1, e2⟩ | ⟨e1, e2, j, j1', rfl⟩
    · rw [e2, if_pos rfl, if_pos e1]
    · rw [e2, if_neg ne01, if_neg e1, cl_nI (by omega)]
      obtain ⟨p, hp⟩ := at_of j1'
      have q1 : s.2.2.getD j dG = p.2 := by rw [← hG]; exact gf_at hp
      have hg := c.g (hv.2.2.1 j p hp)
      obtain ⟨k1, k2, k3, k4⟩ := hR j p hp
      obtain ⟨g1, g2, g3, ml, T, ⟨r1, r2⟩, t1, t2⟩ := id hg
      rw [k3] at r2
      rw [k4 trivial] at t2
      refine e_gr rfl c.kx (e_K c.f1 (c.l j2).1 ?_)
      rw [c.f1]
      refine bd_rd (c.getG hO hv hp) (e_ca rfl g1 ?_)
      unfold contG
      rw [q1]
      by_cases w0 : w = 0
      · rw [if_pos w0, if_pos w0]
        refine e_gi rfl g1 ?_
        rw [g2, k1]
      · rw [if_neg w0, if_neg w0]
        by_cases w1 : w = 1
        · rw [if_pos w1, if_pos w1]
          refine e_gr rfl g1 (e_K r1 r2.1 ?_)
          rw [r1]
          refine bd_rd (sp_size hO r2) ?_
          rw [List.length_map]
        · rw [if_neg w1, if_neg w1]
          by_cases w2 : w = 2
          · rw [if_pos w2, if_pos w2]
            refine e_K rfl g1 (bd_rd (sp_byteCount hE hO g1 r1 r2 (c.mems (fun _ => rfl) (gis j p hp).2.2)) rfl)
          · rw [if_neg w2, if_neg w2]
            by_cases w3 : w = 3
            · rw [if_pos w3, if_pos w3]
              refine e_gr rfl g1 (e_gi t1 t2.1 ?_)
              rw [t2.2.1]
            · rw [if_neg w3, if_neg w3]
              by_cases w4 : w = 4
              · rw [if_pos w4, if_pos w4]
                refine e_gr rfl g1 (e_gi t1 t2.1 ?_)
                rw [t2.2.2.1]
              · rw [if_neg w4, if_neg w4]
                by_cases w5 : w = 5
                · rw [if_pos w5, if_pos w5]
                  refine e_gi rfl g1 ?_
                  rw [g3, k2]
                · rw [if_neg w5, if_neg w5]
theorem sp_token (hE : 1000 ≤ E.1) (hA : AST (n, kd, bs, S)) (hO : Ok E σ) (h : CI E σ A n kd bs S t) (v i w : Int32) : f_X5_token E (some (A 0)) v i w σ = some (aToken v i w (n, kd, bs, S), σ) := by
  have hn : n ≤ 30 := hA.1.1
  obtain ⟨F, Es, LL, GA, gd, tw, c, h1, hS0, hS1⟩ := h.rd
  refine oM_rd hO ?_
  unfold g_X5_token f_X5_token_B49 aToken
  refine e_gi rfl c.kx ?_
  rw [c.fF]
  cases S with
  | none => rw [hS0 rfl]; exact e_t rfl rfl
  | some s =>
    obtain ⟨f6, -, htw, G, P, hv, hR, hG⟩ := hS1 s rfl
    have hI : AI n kd bs s.2.1 s.1 s.2.2 := hA.2 s rfl
    have hgl := c.lenG hv
    have hGs : s.2.2.length = G.length := by rw [← hG, List.length_map]
    rw [f6]
    refine e_f ne01 (e_K rfl c.kx (bd_rd (sp_isGroup hO c v) ?_))
    rw [show (LL 2).length = G.length by rw [hv.1, List.length_map]]
    show _ = some (if v < 0 ∨ nI s.2.2.length ≤ v then _ else _, σ)
    rw [hGs]
    rcases in2 v (L := G.length) (by omega) with ⟨e1, e2⟩ | ⟨e1, e2, j, j1', rfl⟩
    · rw [e2, if_pos rfl, if_pos e1]
    · rw [e2, if_neg ne01, if_neg e1, cl_nI (show j < 2 ^ 31 by omega)]
      obtain ⟨p, hp⟩ := at_of j1'
      have q1 : s.2.2.getD j dG = p.2 := by rw [← hG]; exact gf_at hp
      have hg := c.g (hv.2.2.1 j p hp)
      obtain ⟨k1, k2, k3, k4⟩ := hR j p hp
      obtain ⟨g1, g2, g3, ml, T, -, t1, t2⟩ := id hg
      rw [k4 trivial] at t2
      refine e_gr rfl c.kx (e_K c.f1 (c.l j2).1 ?_)
      rw [c.f1]
      refine bd_rd (c.getG hO hv hp) (e_ca rfl g1 (e_gr rfl g1 ?_))
      have eC : contG bs s.2.2 j = cont bs p.2.2.1 := by unfold contG; rw [q1]
      show _ = some (if i < 0 ∨ nI (toks (contG bs s.2.2 j)).length ≤ i then -1 else if w = 0 then tokV ((toks (contG bs s.2.2 j)).getD (cl i) (0, 0, 0)) else if w = 1 then nI ((toks (contG bs s.2.2 j)).getD (cl i) (0, 0, 0)).2.1 else if w = 2 then nI ((toks (contG bs s.2.2 j)).getD (cl i) (0, 0, 0)).2.2 else -1, σ)
      rw [eC, t1]
      obtain ⟨u1, u2, u3, u4, va, ba, ma, ⟨a1, a2, a3⟩, ⟨b1, b2, b3⟩, ⟨m1, m2, m3⟩, u5⟩ := t2
      by_cases z : i < 0
      · rw [if_pos z, if_pos (Or.inl z)]
      · rw [if_neg z]
        refine e_gi rfl u1 ?_
        rw [u2]
        obtain ⟨k, hk, rfl⟩ := nI_of z
        by_cases y : k < (toks (cont bs p.2.2.1)).length
        · rw [if_pos (nI_lt y (by omega)), if_neg (show ¬ (nI k < 0 ∨ nI (toks (cont bs p.2.2.1)).length ≤ nI k) from fun w => w.elim (nI_pos hk) (nI_ge y (by omega))), cl_nI hk]
          obtain ⟨x1, x2, x3⟩ := u5 k y
          by_cases w0 : w = 0
          · rw [if_pos w0, if_pos w0]
            refine e_gr rfl u1 (e_al a1 rfl a2 (by omega) (by omega) ?_)
            rw [x1]
          · rw [if_neg w0, if_neg w0]
            by_cases w1 : w = 1
            · rw [if_pos w1, if_pos w1]
              refine e_gr rfl u1 (e_al b1 rfl b2 (by omega) (by omega) ?_)
              rw [x2]
            · rw [if_neg w1, if_neg w1]
              by_cases w2 : w = 2
              · rw [if_pos w2, if_pos w2]
                refine e_gr rfl u1 (e_al m1 rfl m2 (by omega) (by omega) ?_)
                rw [x3]
              · rw [if_neg w2, if_neg w2]
        · rw [if_neg (nI_nlt (by omega) hk), if_pos (Or.inr (nI_le (by omega) hk))]
theorem sp_countL (hn : n ≤ 1000) (hO : Ok E σ) (c : CB E σ A F LL n Es ed GA gd) (hv : LV LL GA G P) (hR : RG Es bs (fun _ => True) G gd) (gis : GI n G) (w : Int32) : ∀ (k f g a b : Nat), G.length = g + k → k < f → f_X5_count_L53 E f (some (A 0)) w (nI a) (nI b) (nI g) σ = some (if w = 1 then nI (a + (flat ((G.map (·.2)).drop g)).length) else nI (b + sumT bs ((G.map (·.2)).drop g)), σ)
  | 0, f, g, a, b, hm, hf => by
    obtain ⟨f, rfl⟩ : ∃ z, f = z + 1 := ⟨f - 1, by omega⟩
    have hgl := c.lenG hv
    rw [f_X5_count_L53]
    refine e_gr rfl c.kx (e_K c.f1 (c.l j2).1 ?_)
    rw [c.f1]
    refine bd_rd (sp_size hO (c.l j2)) (e_t (by rw [hv.1, List.length_map]; exact nI_le (by omega) (by omega)) ?_)
    rw [List.drop_eq_nil_of_le (by rw [List.length_map]; omega)]
    by_cases z : w = 1
    · rw [if_pos z, if_pos z]; rfl
    · rw [if_neg z, if_neg z]; rfl
  | k + 1, f, g, a, b, hm, hf => by
    obtain ⟨f, rfl⟩ : ∃ z, f = z + 1 := ⟨f - 1, by omega⟩
    have hgl := c.lenG hv
    obtain ⟨p, hp⟩ := at_of (L := G) (i := g) (by omega)
    have hg := c.g (hv.2.2.1 g p hp)
    obtain ⟨k1, k2, k3, k4⟩ := hR g p hp
    obtain ⟨g1, g2, g3, ml, t, ⟨r1, r2⟩, q1, q2⟩ := id hg
    rw [k3] at r2
    rw [k4 trivial] at q2
    have hdrop : (G.map (·.2)).drop g = p.2 :: (G.map (·.2)).drop (g + 1) := by
      have := drop_cons (T := G.map (·.2)) (i := g) (by rw [List.length_map]; omega) dG
      rw [gf_at hp] at this
      exact this
    have ih := sp_countL hn hO c hv hR gis w k f (g + 1) (a + p.2.2.1.length) (b + sizeT (toks (cont bs p.2.2.1))) (by omega) (by omega)
    rw [f_X5_count_L53]
    refine e_gr rfl c.kx (e_K c.f1 (c.l j2).1 ?_)
    rw [c.f1]
    refine bd_rd (sp_size hO (c.l j2)) (e_f (by rw [hv.1, List.length_map]; exact nI_ge (by omega) (by omega)) (e_gr rfl c.kx (e_K c.f1 (c.l j2).1 ?_)))
    rw [c.f1]
    refine bd_rd (c.getG hO hv hp) (e_ca rfl g1 (e_gr rfl g1 (e_K r1 r2.1 ?_)))
    rw [r1]
    refine bd_rd (sp_size hO r2) (e_gr rfl c.kx (e_K c.f1 (c.l j2).1 ?_))
    rw [c.f1]
    refine bd_rd (c.getG hO hv hp) (e_ca rfl g1 (e_gr rfl g1 (e_gi q1 q2.1 ?_)))
    rw [List.length_map, q2.2.2.1, nI_add, nI_add, nI_1, ih, hdrop, flat_cons, List.length_append]
    have : sumT bs (p.2 :: (G.map (·.2)).drop (g + 1)) = sizeT (toks (cont bs p.2.2.1)) + sumT bs ((G.map (·.2)).drop (g + 1)) := by
      unfold sumT
      rw [List.map_cons, List.sum_cons]
    rw [this, Nat.add_assoc, Nat.add_assoc]
theorem sp_count (hE : 1000 ≤ E.1) (hA : AST (n, kd, bs, S)) (hO : Ok E σ) (h : CI E σ A n kd bs S t) (w : Int32) : f_X5_count E (some (A 0)) w σ = some (aCount w (n, kd, bs, S), σ) := by
  have hn : n ≤ 30 := hA.1.1
  obtain ⟨F, Es, LL, GA, gd, tw, c, h1, hS0, hS1⟩ := h.rd
  refine oM_rd hO ?_
  unfold g_X5_count f_X5_count_B9 aCount
  by_cases z : w < 0
  · rw [if_pos z, if_pos (Or.inl z)]
  · rw [if_neg z]
    by_cases y : w ≤ 3
    · rw [if_pos y, if_neg (show ¬ (w < 0 ∨ ¬ w ≤ 3) from fun x => x.elim z (fun q => q y))]
      by_cases w0 : w = 0
      · rw [if_pos w0, if_pos w0]
        refine e_gr rfl c.kx (e_K c.f0 (c.l j1).1 ?_)
        rw [c.f0]
        refine bd_rd (sp_size hO (c.l j1)) ?_
        rw [CB.lenE h1]
      · rw [if_neg w0, if_neg w0]
        refine e_gi rfl c.kx ?_
        rw [c.fF]
        cases S with
        | none => rw [hS0 rfl]; exact e_t rfl rfl
        | some s =>
          obtain ⟨f6, -, htw, G, P, hv, hR, hG⟩ := hS1 s rfl
          have hI : AI n kd bs s.2.1 s.1 s.2.2 := hA.2 s rfl
          have gis : GI n G := GI.of (by rw [hG]; exact hI.gis hn (fun e he => (hA.1.2 e he).1))
          have hgl := c.lenG hv
          have hGs : s.2.2.length = G.length := by rw [← hG, List.length_map]
          rw [f6]
          refine e_f ne01 ?_
          by_cases w2 : w = 2
          · rw [if_pos w2]
            refine e_gr rfl c.kx (e_K c.f1 (c.l j2).1 ?_)
            rw [c.f1]
            refine bd_rd (sp_size hO (c.l j2)) ?_
            show _ = some (if w = 2 then nI s.2.2.length else _, σ)
            rw [if_pos w2, hv.1, List.length_map, hGs]
          · rw [if_neg w2]
            have := sp_countL (by omega) hO c hv hR gis w G.length E.1 0 0 0 (by omega) (by omega)
            rw [List.drop_zero, hG, Nat.zero_add, Nat.zero_add] at this
            refine Eq.trans this ?_
            show _ = some (if w = 2 then nI s.2.2.length else if w = 1 then _ else _, σ)
            rw [if_neg w2]
    · rw [if_neg y, if_pos (Or.inr y)]
end CPS
