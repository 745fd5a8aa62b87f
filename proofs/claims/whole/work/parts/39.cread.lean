/-! THE ANSWERS: of a state (n, kinds, bytes, bound and twins and groups if packed) -/
abbrev PK : Type := Nat × (Nat → Nat) × List Grp
abbrev AS : Type := Nat × (Nat → Nat) × (Nat → List Nat) × Option PK
def cl (v : Int32) : Nat := v.toNatClampNeg
theorem cl_nI {n : Nat} (h : n < 2 ^ 31) : cl (nI n) = n := nI_clamp h
def contG (bs : Nat → List Nat) (gs : List Grp) (g : Nat) : List Nat := cont bs (gs.getD g dG).2.1
def placeN (bs : Nat → List Nat) (tw : Nat → Nat) (gs : List Grp) (e : Nat) : Nat := (cont bs ((gs.getD (gx (tw e) gs) dG).2.1.take (ix (tw e) (gs.getD (gx (tw e) gs) dG).2.1))).length
def adjS (d : Nat → Nat → Nat) : List Nat → Nat
  | [] => 0
  | a :: r => match r with
    | [] => 0
    | b :: _ => d a b + adjS d r
def sumT (bs : Nat → List Nat) (gs : List Grp) : Nat := (gs.map (fun q => sizeT (toks (cont bs q.2.1)))).sum
def aCommon (v w : Int32) (st : AS) : Int32 := if v < 0 ∨ nI st.1 ≤ v then -1 else if w < 0 ∨ nI st.1 ≤ w then -1 else nI (commonN (st.2.2.1 (cl v)) (st.2.2.1 (cl w)))
def aDist (v w : Int32) (st : AS) : Int32 := if v < 0 ∨ nI st.1 ≤ v then -1 else if w < 0 ∨ nI st.1 ≤ w then -1 else nI (distN (st.2.2.1 (cl v)) (st.2.2.1 (cl w)))
def aOrder (i : Int32) (st : AS) : Int32 := match st.2.2.2 with
  | none => -2
  | some s => if i < 0 ∨ nI (flat s.2.2).length ≤ i then -1 else nI ((flat s.2.2).getD (cl i) 0)
def aTwin (v : Int32) (st : AS) : Int32 := if v < 0 ∨ nI st.1 ≤ v then -1 else match st.2.2.2 with
  | none => -2
  | some s => nI (s.2.1 (cl v))
def aGroup (v : Int32) (st : AS) : Int32 := if v < 0 ∨ nI st.1 ≤ v then -1 else match st.2.2.2 with
  | none => -2
  | some s => nI (gx (s.2.1 (cl v)) s.2.2)
def aPlace (v : Int32) (st : AS) : Int32 := if v < 0 ∨ nI st.1 ≤ v then -1 else match st.2.2.2 with
  | none => -2
  | some s => nI (placeN st.2.2.1 s.2.1 s.2.2 (cl v))
def aAccess (v : Int32) (st : AS) : Int32 := if v < 0 ∨ nI st.1 ≤ v then -1 else match st.2.2.2 with
  | none => -2
  | some s => nI (till (toks (contG st.2.2.1 s.2.2 (gx (s.2.1 (cl v)) s.2.2))) (if (st.2.2.1 (cl v)).length = 0 then 0 else placeN st.2.2.1 s.2.1 s.2.2 (cl v) + (st.2.2.1 (cl v)).length))
def aOpen (v i : Int32) (st : AS) : Int32 := if v < 0 ∨ nI st.1 ≤ v then -1 else if i < 0 ∨ nI (st.2.2.1 (cl v)).length ≤ i then -1 else match st.2.2.2 with
  | none => -2
  | some s => nI ((contG st.2.2.1 s.2.2 (gx (s.2.1 (cl v)) s.2.2)).getD (placeN st.2.2.1 s.2.1 s.2.2 (cl v) + cl i) 0)
def aOf (g w : Int32) (st : AS) : Int32 := match st.2.2.2 with
  | none => -2
  | some s => if g < 0 ∨ nI s.2.2.length ≤ g then -1 else
    if w = 0 then nI (s.2.2.getD (cl g) dG).1 else if w = 1 then nI (s.2.2.getD (cl g) dG).2.1.length else if w = 2 then nI (contG st.2.2.1 s.2.2 (cl g)).length else if w = 3 then nI (toks (contG st.2.2.1 s.2.2 (cl g))).length else if w = 4 then nI (sizeT (toks (contG st.2.2.1 s.2.2 (cl g)))) else if w = 5 then nI (s.2.2.getD (cl g) dG).2.2 else -1
def aToken (g i w : Int32) (st : AS) : Int32 := match st.2.2.2 with
  | none => -2
  | some s => if g < 0 ∨ nI s.2.2.length ≤ g then -1 else if i < 0 ∨ nI (toks (contG st.2.2.1 s.2.2 (cl g))).length ≤ i then -1 else
    if w = 0 then tokV ((toks (contG st.2.2.1 s.2.2 (cl g))).getD (cl i) (0, 0, 0)) else if w = 1 then nI ((toks (contG st.2.2.1 s.2.2 (cl g))).getD (cl i) (0, 0, 0)).2.1 else if w = 2 then nI ((toks (contG st.2.2.1 s.2.2 (cl g))).getD (cl i) (0, 0, 0)).2.2 else -1
def aSum (k : Int32) (st : AS) : Int32 := if k < 0 ∨ (6 : Int32) ≤ k then -1 else match st.2.2.2 with
  | none => -2
  | some s => nI (adjS (fun a b => distN (st.2.2.1 a) (st.2.2.1 b)) ((flat s.2.2).filter (fun e => st.2.1 e = cl k)))
def aCount (w : Int32) (st : AS) : Int32 := if w < 0 ∨ ¬ w ≤ 3 then -1 else if w = 0 then nI st.1 else match st.2.2.2 with
  | none => -2
  | some s => if w = 2 then nI s.2.2.length else if w = 1 then nI (flat s.2.2).length else nI (sumT st.2.2.1 s.2.2)
/-- the state's own order -/
def AST (st : AS) : Prop := AE st.1 st.2.1 st.2.2.1 ∧ ∀ s, st.2.2.2 = some s → AI st.1 st.2.1 st.2.2.1 s.2.1 s.1 s.2.2
def CIs (E : PE) (σ : PS) (A : Nat → Nat) (st : AS) (t : Nat) : Prop := CI E σ A st.1 st.2.1 st.2.2.1 st.2.2.2 t
section CPS
variable {E : PE} {σ τ : PS} {A : Nat → Nat} {F : Nat → Int32} {LL : Nat → List Nat} {n : Nat} {Es kd tw : Nat → Nat} {ed : Nat → Nat × List Nat × Nat} {GA : Nat → Prop} {gd : Nat → Nat × Nat × List Nat × List (Nat × Nat × Nat)} {G : List (Nat × Grp)} {P Ln : List Nat} {bs bo : Nat → List Nat} {V : Nat → Prop} {S : Option PK} {t : Nat}
/-- what reading needs, packed or not -/
theorem CI.rd (h : CI E σ A n kd bs S t) : ∃ (F : Nat → Int32) (Es : Nat → Nat) (LL : Nat → List Nat) (GA : Nat → Prop) (gd : Nat → Nat × Nat × List Nat × List (Nat × Nat × Nat)) (tw : Nat → Nat), CB E σ A F LL n Es (fun i => (kd i, bs i, tw i)) GA gd ∧ LL 1 = (List.range n).map Es ∧ (S = none → F 6 = 0) ∧ (∀ s, S = some s → F 6 = 1 ∧ F 7 = nI s.1 ∧ (∀ i, tw i = s.2.1 i) ∧ ∃ G P, LV LL GA G P ∧ RG Es bs (fun _ => True) G gd ∧ G.map (·.2) = s.2.2) := by
  obtain ⟨F, Es, h⟩ := h
  cases S with
  | none =>
    obtain ⟨h0, tw, Gl, P, -, ⟨LL, GA, gd, c, -, h1⟩, -⟩ := h
    exact ⟨F, Es, LL, GA, gd, tw, c, h1, fun _ => h0, fun s hs => nomatch hs⟩
  | some s =>
    obtain ⟨h0, h7, G, P, Ln, ⟨LL, GA, gd, c, hv, hR, h1, h4⟩, hG, -⟩ := h
    exact ⟨F, Es, LL, GA, gd, s.2.1, c, h1, fun hs => (nomatch hs), fun s' hs => by cases hs; exact ⟨h0, h7, fun _ => rfl, G, P, hv, hR, hG⟩⟩
theorem sp_common (hE : 1000 ≤ E.1) (hn : n ≤ 30) (hO : Ok E σ) (h : CI E σ A n kd bs S t) (v w : Int32) : f_X5_common E (some (A 0)) v w σ = some (aCommon v w (n, kd, bs, S), σ) := by
  obtain ⟨F, Es, LL, GA, gd, tw, c, h1, -, -⟩ := h.rd
  have hl : (LL 1).length = n := CB.lenE h1
  refine oM_rd hO ?_
  unfold g_X5_common f_X5_common_B16 aCommon
  refine e_K rfl c.kx (bd_rd (sp_isEntry hO c v) ?_)
  rw [hl]
  rcases in_n (v := v) (L := n) (by omega) with e1 | ⟨e1, j, j1', rfl⟩
  · have : v < 0 ∨ nI n ≤ v := by
      by_cases z : v < 0 ∨ nI n ≤ v
      · exact z
      · rw [if_neg z] at e1; exact absurd e1 (by decide)
    rw [e1, if_pos rfl, if_pos this]
  · have : ¬ (nI j < 0 ∨ nI n ≤ nI j) := fun z => by rw [if_pos z] at e1; exact absurd e1 (by decide)
    rw [e1, if_neg ne01]
    refine e_K rfl c.kx (bd_rd (sp_isEntry hO c w) ?_)
    rw [hl, if_neg this]
    rcases in_n (v := w) (L := n) (by omega) with e2 | ⟨e2, k, k1', rfl⟩
    · have : w < 0 ∨ nI n ≤ w := by
        by_cases z : w < 0 ∨ nI n ≤ w
        · exact z
        · rw [if_neg z] at e2; exact absurd e2 (by decide)
      rw [e2, if_pos rfl, if_pos this]
    · have : ¬ (nI k < 0 ∨ nI n ≤ nI k) := fun z => by rw [if_pos z] at e2; exact absurd e2 (by decide)
      rw [e2, if_neg ne01, if_neg this]
      refine e_gr rfl c.kx (e_K c.f0 (c.l j1).1 ?_)
      rw [c.f0]
      refine bd_rd (c.getE hO h1 j1') (e_ca rfl (c.ke j1') (e_gr rfl c.kx (e_K c.f0 (c.l j1).1 ?_)))
      rw [c.f0]
      refine bd_rd (c.getE hO h1 k1') (e_ca rfl (c.ke k1') (bd_rd (sp_commonMarks (by omega) hO (c.e j1') (c.e k1')) ?_))
      rw [cl_nI (by omega), cl_nI (by omega)]
theorem sp_distance (hE : 1000 ≤ E.1) (hn : n ≤ 30) (hO : Ok E σ) (h : CI E σ A n kd bs S t) (v w : Int32) : f_X5_distance E (some (A 0)) v w σ = some (aDist v w (n, kd, bs, S), σ) := by
  obtain ⟨F, Es, LL, GA, gd, tw, c, h1, -, -⟩ := h.rd
  have hl : (LL 1).length = n := CB.lenE h1
  refine oM_rd hO ?_
  unfold g_X5_distance f_X5_distance_B16 aDist
  refine e_K rfl c.kx (bd_rd (sp_isEntry hO c v) ?_)
  rw [hl]
  rcases in_n (v := v) (L := n) (by omega) with e1 | ⟨e1, j, j1', rfl⟩
  · have : v < 0 ∨ nI n ≤ v := by
      by_cases z : v < 0 ∨ nI n ≤ v
      · exact z
      · rw [if_neg z] at e1; exact absurd e1 (by decide)
    rw [e1, if_pos rfl, if_pos this]
  · have : ¬ (nI j < 0 ∨ nI n ≤ nI j) := fun z => by rw [if_pos z] at e1; exact absurd e1 (by decide)
    rw [e1, if_neg ne01]
    refine e_K rfl c.kx (bd_rd (sp_isEntry hO c w) ?_)
    rw [hl, if_neg this]
    rcases in_n (v := w) (L := n) (by omega) with e2 | ⟨e2, k, k1', rfl⟩
    · have : w < 0 ∨ nI n ≤ w := by
        by_cases z : w < 0 ∨ nI n ≤ w
        · exact z
        · rw [if_neg z] at e2; exact absurd e2 (by decide)
      rw [e2, if_pos rfl, if_pos this]
    · have : ¬ (nI k < 0 ∨ nI n ≤ nI k) := fun z => by rw [if_pos z] at e2; exact absurd e2 (by decide)
      rw [e2, if_neg ne01, if_neg this]
      refine e_gr rfl c.kx (e_K c.f0 (c.l j1).1 ?_)
      rw [c.f0]
      refine bd_rd (c.getE hO h1 j1') (e_ca rfl (c.ke j1') (e_gr rfl c.kx (e_K c.f0 (c.l j1).1 ?_)))
      rw [c.f0]
      refine bd_rd (c.getE hO h1 k1') (e_ca rfl (c.ke k1') (bd_rd (sp_apart (by omega) hO (c.e j1') (c.e k1')) ?_))
      rw [cl_nI (by omega), cl_nI (by omega)]
/-- the two cases of a number that is asked for -/
theorem in2 (v : Int32) {L : Nat} (hL : L < 2 ^ 31) : ((v < 0 ∨ nI L ≤ v) ∧ (if v < 0 ∨ nI L ≤ v then (0 : Int32) else 1) = 0) ∨ (¬ (v < 0 ∨ nI L ≤ v) ∧ (if v < 0 ∨ nI L ≤ v then (0 : Int32) else 1) = 1 ∧ ∃ j, j < L ∧ v = nI j) := by
  rcases in_n (v := v) hL with e1 | ⟨e1, e2⟩
  · refine Or.inl ⟨?_, e1⟩
    by_cases z : v < 0 ∨ nI L ≤ v
    · exact z
    · rw [if_neg z] at e1; exact absurd e1 (by decide)
  · exact Or.inr ⟨fun z => by rw [if_pos z] at e1; exact absurd e1 (by decide), e1, e2⟩
theorem sp_twin (hn : n ≤ 30) (hO : Ok E σ) (h : CI E σ A n kd bs S t) (v : Int32) : f_X5_twin E (some (A 0)) v σ = some (aTwin v (n, kd, bs, S), σ) := by
  obtain ⟨F, Es, LL, GA, gd, tw, c, h1, hS0, hS1⟩ := h.rd
  refine oM_rd hO ?_
  unfold g_X5_twin aTwin
  refine e_K rfl c.kx (bd_rd (sp_isEntry hO c v) ?_)
  rw [CB.lenE h1]
  rcases in2 v (L := n) (by omega) with ⟨e1, e2⟩ | ⟨e1, e2, j, j1', rfl⟩
  · rw [e2, if_pos rfl, if_pos e1]
  · rw [e2, if_neg ne01, if_neg e1]
    refine e_gi rfl c.kx ?_
    rw [c.fF]
    cases S with
    | none => rw [hS0 rfl]; exact e_t rfl rfl
    | some s =>
      obtain ⟨f6, -, htw, -⟩ := hS1 s rfl
      rw [f6]
      refine e_f ne01 (e_gr rfl c.kx (e_K c.f0 (c.l j1).1 ?_))
      rw [c.f0]
      obtain ⟨b, m, g0, -⟩ := c.e j1'
      refine bd_rd (c.getE hO h1 j1') (e_ca rfl g0.1 (e_gi rfl g0.1 ?_))
      rw [g0.2.2.2.2.1]
      show some (nI (tw j), σ) = some (nI (s.2.1 (cl (nI j))), σ)
      rw [htw, cl_nI (by omega)]
theorem AI.tmem {n : Nat} {kd tw : Nat → Nat} {bs : Nat → List Nat} {bd : Nat} {gs : List Grp} (h : AI n kd bs tw bd gs) {e : Nat} (he : e < n) : tw e ∈ flat gs := (h.2.2.1 _).mpr ⟨(h.1 e he).1, (h.1 e he).2.1⟩
theorem sp_group (hE : 1000 ≤ E.1) (hA : AST (n, kd, bs, S)) (hO : Ok E σ) (h : CI E σ A n kd bs S t) (v : Int32) : f_X5_group E (some (A 0)) v σ = some (aGroup v (n, kd, bs, S), σ) := by
  have hn : n ≤ 30 := hA.1.1
  obtain ⟨F, Es, LL, GA, gd, tw, c, h1, hS0, hS1⟩ := h.rd
  refine oM_rd hO ?_
  unfold g_X5_group aGroup
  refine e_K rfl c.kx (bd_rd (sp_isEntry hO c v) ?_)
  rw [CB.lenE h1]
  rcases in2 v (L := n) (by omega) with ⟨e1, e2⟩ | ⟨e1, e2, j, j1', rfl⟩
  · rw [e2, if_pos rfl, if_pos e1]
  · rw [e2, if_neg ne01, if_neg e1]
    refine e_gi rfl c.kx ?_
    rw [c.fF]
    cases S with
    | none => rw [hS0 rfl]; exact e_t rfl rfl
    | some s =>
      obtain ⟨f6, -, htw, G, P, hv, hR, hG⟩ := hS1 s rfl
      have hI := hA.2 s rfl
      rw [f6]
      refine e_f ne01 (e_gr rfl c.kx (e_K c.f0 (c.l j1).1 ?_))
      rw [c.f0]
      obtain ⟨b, m, g0, -⟩ := c.e j1'
      have gis : GI n G := GI.of (by rw [hG]; exact hI.gis hn (fun e he => (hA.1.2 e he).1))
      have gn := sp_groupNumberOf (e := s.2.1 j) hE (by have : s.2.1 j < n := (hI.1 j j1').1; omega) hO c hv hR (by omega) (fun i p hp => (gis i p hp).2.2)
      rw [hG, if_pos (hI.tmem j1')] at gn
      refine bd_rd (c.getE hO h1 j1') (e_ca rfl g0.1 (e_gi rfl g0.1 (e_K rfl c.kx ?_)))
      rw [g0.2.2.2.2.1]
      show bd (f_X5_groupNumberOf E (some (A 0)) (nI (tw j)) σ) _ = _
      rw [htw]
      refine bd_rd gn ?_
      show some (_, σ) = some (nI (gx (s.2.1 (cl (nI j))) s.2.2), σ)
      rw [cl_nI (by omega)]
/-- an entry's group, its members, its row -/
theorem sp_look {s : PK} (hE : 1000 ≤ E.1) (hn : n ≤ 30) (hk : ∀ e, e < n → kd e < 6) (hO : Ok E σ) (c : CB E σ A F LL n Es (fun i => (kd i, bs i, tw i)) GA gd) (hv : LV LL GA G P) (hR : RG Es bs (fun _ => True) G gd) (hG : G.map (·.2) = s.2.2) (htw : ∀ i, tw i = s.2.1 i) (hI : AI n kd bs s.2.1 s.1 s.2.2) {e : Nat} (he : e < n) :
    ∃ p, G[gx (s.2.1 e) s.2.2]? = some p ∧ s.2.2.getD (gx (s.2.1 e) s.2.2) dG = p.2 ∧ s.2.1 e ∈ p.2.2.1 ∧ gx (s.2.1 e) s.2.2 < G.length ∧ f_X5_groupNumberOf E (some (A 0)) (nI (s.2.1 e)) σ = some (nI (gx (s.2.1 e) s.2.2), σ) ∧ (∃ T, sR σ 3 1 p.1 = some T ∧ isT σ T (toks (cont bs p.2.2.1))) ∧ sK σ p.1 = some 3 ∧ f_X2_placeOf E (some p.1) (nI (s.2.1 e)) σ = some (nI (placeN bs s.2.1 s.2.2 e), σ) ∧ p.2 ∈ s.2.2 := by
  have hm := hI.tmem he
  obtain ⟨x1, x2⟩ := gx_lt _ _ hm
  have hgi : gx (s.2.1 e) s.2.2 < G.length := by rw [← hG, List.length_map] at x1; rw [hG] at x1; exact x1
  obtain ⟨p, hp⟩ := at_of hgi
  have e1 : s.2.2.getD (gx (s.2.1 e) s.2.2) dG = p.2 := by
    have := gf_at hp
    rw [hG] at this
    exact this
  rw [e1] at x2
  have gis : GI n G := GI.of (by rw [hG]; exact hI.gis hn hk)
  have gn := sp_groupNumberOf (e := s.2.1 e) hE (by have : s.2.1 e < n := (hI.1 e he).1; omega) hO c hv hR (by omega) (fun i p hp => (gis i p hp).2.2)
  rw [hG, if_pos hm] at gn
  have hg := c.g (hv.2.2.1 _ p hp)
  obtain ⟨k1, k2, k3, k4⟩ := hR _ p hp
  obtain ⟨g1, g2, g3, ml, T, ⟨r1, r2⟩, q1, q2⟩ := id hg
  rw [k3] at r2
  rw [k4 trivial] at q2
  have hmm := (gis _ p hp).2.2
  have hpl := sp_gplaceOf (E := E) (bo := bs) (e := s.2.1 e) hE hO g1 r1 r2 (fun i hi => ⟨_, _, c.e (hmm i hi)⟩) (fun i hi => by have := hmm i hi; omega) (by have : s.2.1 e < n := (hI.1 e he).1; omega) x2
  refine ⟨p, hp, e1, x2, hgi, gn, ⟨T, q1, q2⟩, g1, ?_, ?_⟩
  · rw [hpl]
    unfold placeN
    rw [e1]
  · rw [← hG]; exact List.mem_of_getElem? (map_at (f := (·.2)) hp)
theorem sp_xplaceOf {s : PK} (hE : 1000 ≤ E.1) (hn : n ≤ 30) (hk : ∀ e, e < n → kd e < 6) (hO : Ok E σ) (c : CB E σ A F LL n Es (fun i => (kd i, bs i, tw i)) GA gd) (hv : LV LL GA G P) (hR : RG Es bs (fun _ => True) G gd) (hG : G.map (·.2) = s.2.2) (htw : ∀ i, tw i = s.2.1 i) (hI : AI n kd bs s.2.1 s.1 s.2.2) {e : Nat} (he : e < n) : f_X5_placeOf E (some (A 0)) (some (Es e)) σ = some (nI (placeN bs s.2.1 s.2.2 e), σ) := by
  obtain ⟨p, hp, e1, x2, hgi, gn, -, g1, hpl, -⟩ := sp_look hE hn hk hO c hv hR hG htw hI he
  obtain ⟨b, m, g0, -⟩ := c.e he
  have hgl := c.lenG hv
  refine oM_rd hO ?_
  unfold g_X5_placeOf f_X5_placeOf_B39
  have et : sI σ 2 5 (Es e) = nI (s.2.1 e) := by rw [g0.2.2.2.2.1]; show nI (tw e) = _; rw [htw]
  refine e_gi rfl g0.1 (e_K rfl c.kx ?_)
  rw [et]
  refine bd_rd gn (e_K rfl c.kx (bd_rd (sp_isGroup hO c _) ?_))
  rw [show (LL 2).length = G.length by rw [hv.1, List.length_map], in_y hgi (by omega)]
  refine e_f ne01 (e_gr rfl c.kx (e_K c.f1 (c.l j2).1 ?_))
  rw [c.f1]
  refine bd_rd (c.getG hO hv hp) (e_ca rfl g1 (e_gi rfl g0.1 (e_K rfl g1 ?_)))
  rw [et]
  exact bd_rd hpl rfl
theorem sp_place (hE : 1000 ≤ E.1) (hA : AST (n, kd, bs, S)) (hO : Ok E σ) (h : CI E σ A n kd bs S t) (v : Int32) : f_X5_place E (some (A 0)) v σ = some (aPlace v (n, kd, bs, S), σ) := by
  have hn : n ≤ 30 := hA.1.1
  obtain ⟨F, Es, LL, GA, gd, tw, c, h1, hS0, hS1⟩ := h.rd
  refine oM_rd hO ?_
  unfold g_X5_place aPlace
  refine e_K rfl c.kx (bd_rd (sp_isEntry hO c v) ?_)
  rw [CB.lenE h1]
  rcases in2 v (L := n) (by omega) with ⟨e1, e2⟩ | ⟨e1, e2, j, j1', rfl⟩
  · rw [e2, if_pos rfl, if_pos e1]
  · rw [e2, if_neg ne01, if_neg e1]
    refine e_gi rfl c.kx ?_
    rw [c.fF]
    cases S with
    | none => rw [hS0 rfl]; exact e_t rfl rfl
    | some s =>
      obtain ⟨f6, -, htw, G, P, hv, hR, hG⟩ := hS1 s rfl
      rw [f6]
      refine e_f ne01 (e_gr rfl c.kx (e_K c.f0 (c.l j1).1 ?_))
      rw [c.f0]
      refine bd_rd (c.getE hO h1 j1') (e_ca rfl (c.ke j1') (e_K rfl c.kx (bd_rd (sp_xplaceOf hE hn (fun e he => (hA.1.2 e he).1) hO c hv hR hG htw (hA.2 s rfl) j1') ?_)))
      show some (_, σ) = some (nI (placeN bs s.2.1 s.2.2 (cl (nI j))), σ)
      rw [cl_nI (by omega)]
end CPS
