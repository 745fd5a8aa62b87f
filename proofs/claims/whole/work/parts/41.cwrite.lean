/-! THE CALLS THAT CHANGE: entry, octets, change -/
def aEntry (v : Int32) (st : AS) : Int32 × AS := if v < 0 ∨ (6 : Int32) ≤ v then (-1, st) else if st.1 < 30 then (nI st.1, (st.1 + 1, up st.2.1 st.1 (cl v), up st.2.2.1 st.1 [], none)) else (-3, st)
def aOctets (v m : Int32) (b : Int64) (st : AS) : Int32 × AS := if v < 0 ∨ nI st.1 ≤ v then (-1, st) else if m < 1 ∨ ¬ m ≤ 8 then (-1, st) else
  if (st.2.2.1 (cl v)).length + cl m ≤ 60 then (nI ((st.2.2.1 (cl v)).length + cl m), (st.1, st.2.1, up st.2.2.1 (cl v) (st.2.2.1 (cl v) ++ newB b (cl m)), none)) else (-3, st)
def aChangeS (n : Nat) (kd : Nat → Nat) (bs : Nat → List Nat) (e : Nat) : Option PK → Option PK
  | none => none
  | some s => some (s.1, (chgG n kd bs s.1 s.2.1 s.2.2 e).1, anewG (chgG n kd bs s.1 s.2.1 s.2.2 e).2.1 (chgG n kd bs s.1 s.2.1 s.2.2 e).2.2)
def aChange (v i b : Int32) (st : AS) : Int32 × AS := if v < 0 ∨ nI st.1 ≤ v then (-1, st) else if i < 0 ∨ nI (st.2.2.1 (cl v)).length ≤ i then (-1, st) else if b < 0 ∨ ¬ b < 256 then (-1, st) else
  if (st.2.2.1 (cl v)).getD (cl i) 0 = cl b then (b, st) else
    (nI ((st.2.2.1 (cl v)).getD (cl i) 0), (st.1, st.2.1, up st.2.2.1 (cl v) ((st.2.2.1 (cl v)).set (cl i) (cl b)), aChangeS st.1 st.2.1 (up st.2.2.1 (cl v) ((st.2.2.1 (cl v)).set (cl i) (cl b))) (cl v) st.2.2.2))
theorem AE.entry {n : Nat} {kd : Nat → Nat} {bs : Nat → List Nat} (h : AE n kd bs) {k : Nat} (hn : n < 30) (hk : k < 6) : AE (n + 1) (up kd n k) (up bs n []) := by
  refine ⟨by omega, fun e he => ?_⟩
  by_cases z : e = n
  · rw [z, up_s, up_s]; exact ⟨hk, by simp, (fun _ hx => nomatch hx)⟩
  · rw [up_n z, up_n z]; exact h.2 e (by omega)
theorem AE.bytes {n : Nat} {kd : Nat → Nat} {bs : Nat → List Nat} (h : AE n kd bs) {e : Nat} {l : List Nat} (hl : l.length ≤ 60) (hb : ∀ x ∈ l, x < 256) : AE n kd (up bs e l) := by
  refine ⟨h.1, fun i hi => ?_⟩
  by_cases z : i = e
  · rw [z, up_s]; exact ⟨(h.2 e (z ▸ hi)).1, hl, hb⟩
  · rw [up_n z]; exact h.2 i hi
theorem set_lt {l : List Nat} {i x : Nat} (h : ∀ y ∈ l, y < 256) (hx : x < 256) : ∀ y ∈ l.set i x, y < 256 := by
  intro y hy
  rcases List.mem_or_eq_of_mem_set hy with w | w
  · exact h y w
  · rw [w]; exact hx
/-- the state's order stays -/
theorem AST.entry {st : AS} (h : AST st) (v : Int32) : AST (aEntry v st).2 := by
  unfold aEntry
  by_cases z : v < 0 ∨ (6 : Int32) ≤ v
  · rw [if_pos z]; exact h
  · rw [if_neg z]
    by_cases y : st.1 < 30
    · rw [if_pos y]
      refine ⟨h.1.entry y ?_, fun s hs => nomatch hs⟩
      have : ¬ nI 6 ≤ v := fun w => z (Or.inr w)
      rcases pk_ix v (n := 6) (by decide) with w | w | ⟨j, w1, w2⟩
      · exact absurd (Or.inl w) z
      · exact absurd w this
      · rw [w2, cl_nI (by omega)]; exact w1
    · rw [if_neg y]; exact h
theorem AST.octets {st : AS} (h : AST st) (v m : Int32) (b : Int64) : AST (aOctets v m b st).2 := by
  unfold aOctets
  by_cases z : v < 0 ∨ nI st.1 ≤ v
  · rw [if_pos z]; exact h
  · rw [if_neg z]
    by_cases y : m < 1 ∨ ¬ m ≤ 8
    · rw [if_pos y]; exact h
    · rw [if_neg y]
      by_cases w : (st.2.2.1 (cl v)).length + cl m ≤ 60
      · rw [if_pos w]
        have hn := h.1.1
        rcases in2 v (L := st.1) (by omega) with ⟨e1, -⟩ | ⟨e1, -, j, j1', rfl⟩
        · exact absurd e1 z
        · rw [cl_nI (by omega)] at w ⊢
          refine ⟨h.1.bytes ?_ ?_, fun s hs => nomatch hs⟩
          · rw [List.length_append]
            have : (newB b (cl m)).length = cl m := by unfold newB; rw [List.length_map, List.length_range]
            omega
          · intro x hx
            rcases List.mem_append.mp hx with q | q
            · exact (h.1.2 j j1').2.2 x q
            · exact newB_lt b _ x q
      · rw [if_neg w]; exact h
theorem AST.change {st : AS} (h : AST st) (v i b : Int32) : AST (aChange v i b st).2 := by
  obtain ⟨n, kd, bs, S⟩ := st
  unfold aChange
  have hn : n ≤ 30 := h.1.1
  rcases in2 v (L := n) (by omega) with ⟨z, -⟩ | ⟨z, -, j, j1', rfl⟩
  · rw [if_pos z]; exact h
  · rw [if_neg z, cl_nI (show j < 2 ^ 31 by omega)]
    have hE := h.1.2 j j1'
    by_cases y : i < 0 ∨ nI (bs j).length ≤ i
    · rw [if_pos y]; exact h
    · rw [if_neg y]
      by_cases w : b < 0 ∨ ¬ b < 256
      · rw [if_pos w]; exact h
      · rw [if_neg w]
        by_cases x : (bs j).getD (cl i) 0 = cl b
        · rw [if_pos x]; exact h
        · rw [if_neg x]
          have hb : cl b < 256 := by
            obtain ⟨k, hk, rfl⟩ := nI_of (fun q => w (Or.inl q))
            rw [cl_nI hk]
            have : nI k < nI 256 := Decidable.byContradiction (fun q => w (Or.inr q))
            exact (nI_ltI hk (by decide)).mp this
          have hl : ((bs j).set (cl i) (cl b)).length = (bs j).length := List.length_set
          have hle : (bs j).length ≤ 60 := hE.2.1
          refine ⟨h.1.bytes (by show ((bs j).set (cl i) (cl b)).length ≤ 60; omega) (set_lt hE.2.2 hb), fun s hs => ?_⟩
          cases S with
          | none => cases hs
          | some s0 =>
            cases hs
            refine AI.anew (chg_AI (h.2 s0 rfl) j1' ?_ ?_ (fun q hq => up_n hq)) _
            · show (up bs j _ j).length = _
              rw [up_s]; exact hl
            · show (up bs j _ j).length ≤ _
              rw [up_s]
              show ((bs j).set (cl i) (cl b)).length ≤ 60
              omega
section CPS
variable {E : PE} {σ τ : PS} {A : Nat → Nat} {F : Nat → Int32} {LL : Nat → List Nat} {n : Nat} {Es kd tw : Nat → Nat} {ed : Nat → Nat × List Nat × Nat} {GA : Nat → Prop} {gd : Nat → Nat × Nat × List Nat × List (Nat × Nat × Nat)} {G : List (Nat × Grp)} {P Ln : List Nat} {bs bo : Nat → List Nat} {V : Nat → Prop} {S : Option PK} {t : Nat}
theorem CI.cq (h : CI E σ A n kd bs S t) (hA : AST (n, kd, bs, S)) : ∃ (F : Nat → Int32) (Es tw : Nat → Nat) (Gl P : List Nat), (∀ i, i < n → tw i < 1000) ∧ CQ E σ A F n Es kd bs tw Gl P ∧ Gl.length + P.length = t := by
  have hn : n ≤ 30 := hA.1.1
  obtain ⟨F, Es, h⟩ := h
  cases S with
  | none =>
    obtain ⟨h0, tw, Gl, P, h1, h2, h3⟩ := h
    exact ⟨F, Es, tw, Gl, P, h1, h2, h3⟩
  | some s =>
    obtain ⟨h0, h7, G, P, Ln, h2, hG, h3⟩ := h
    have hI : AI n kd bs s.2.1 s.1 s.2.2 := hA.2 s rfl
    exact ⟨F, Es, s.2.1, _, P, fun i hi => by have := (hI.1 i hi).1; omega, h2.cq, by rw [List.length_map]; exact h3⟩
/-- a call's end: what it answers, what state it leaves, within the room -/
def CE (E : PE) (σ : PS) (A : Nat → Nat) (t u : Nat) (a : Int32 × AS) (r : Int32) (τ : PS) : Prop := r = a.1 ∧ Fc E σ τ ∧ ∃ t', CIs E τ A a.2 t' ∧ Bg σ τ t t' u
theorem CE.rd {a : Int32} {st : AS} (h : CIs E σ A st t) (hw : Wf E σ) : CE E σ A t 200 (a, st) a σ := ⟨rfl, Fc.rf hw, t, h, Bg.rf.wk (by omega)⟩
theorem CI.wf (h : CI E σ A n kd bs S t) : Wf E σ := by obtain ⟨F, Es, LL, GA, gd, tw, c, -⟩ := h.rd; exact c.wf
theorem CI.rd2 (h : CI E σ A n kd bs S t) : ∃ (F : Nat → Int32) (Es : Nat → Nat) (LL : Nat → List Nat) (GA : Nat → Prop) (gd : Nat → Nat × Nat × List Nat × List (Nat × Nat × Nat)) (tw : Nat → Nat), CB E σ A F LL n Es (fun i => (kd i, bs i, tw i)) GA gd ∧ LL 1 = (List.range n).map Es ∧ (S = none → F 6 = 0 ∧ ∃ Gl P, (∀ i, i < n → tw i < 1000) ∧ (LL 2 = Gl ∧ LL 3 = P ∧ (∀ g ∈ Gl ++ P, GA g) ∧ (Gl ++ P).Nodup) ∧ Gl.length + P.length = t) ∧ (∀ s, S = some s → F 6 = 1 ∧ F 7 = nI s.1 ∧ tw = s.2.1 ∧ ∃ G P, LV LL GA G P ∧ RG Es bs (fun _ => True) G gd ∧ G.map (·.2) = s.2.2 ∧ G.length + P.length = t) := by
  obtain ⟨F, Es, h⟩ := h
  cases S with
  | none =>
    obtain ⟨h0, tw, Gl, P, htw, ⟨LL, GA, gd, c, hg, h1⟩, ht⟩ := h
    exact ⟨F, Es, LL, GA, gd, tw, c, h1, fun _ => ⟨h0, Gl, P, htw, hg, ht⟩, fun s hs => nomatch hs⟩
  | some s =>
    obtain ⟨h0, h7, G, P, Ln, ⟨LL, GA, gd, c, hv, hR, h1, h4⟩, hG, ht⟩ := h
    exact ⟨F, Es, LL, GA, gd, s.2.1, c, h1, fun hs => (nomatch hs), fun s' hs => by cases hs; exact ⟨h0, h7, rfl, G, P, hv, hR, hG, ht⟩⟩
theorem rg_succ (n : Nat) (Es : Nat → Nat) (e : Nat) : (List.range (n + 1)).map (up Es n e) = (List.range n).map Es ++ [e] := by
  rw [List.range_succ, List.map_append]
  congr 1
  · refine List.map_congr_left (fun i hi => up_n ?_)
    have := List.mem_range.mp hi
    omega
  · show [up Es n e n] = [e]
    rw [up_s]
theorem sp_entry (hA : AST (n, kd, bs, S)) (h : CI E σ A n kd bs S t) (hr1 : sN σ + 1000 ≤ E.2.1) (hr2 : sS σ + 60000 ≤ E.2.2.1) (v : Int32) : wp (f_X5_entry E (some (A 0)) v σ) (CE E σ A t 200 (aEntry v (n, kd, bs, S))) := by
  have hn : n ≤ 30 := hA.1.1
  have hO : Ok E σ := ⟨by omega, by omega⟩
  have hrf : sN σ ≤ sN σ ∧ sS σ ≤ sS σ ∧ sN σ ≤ E.2.1 ∧ sS σ ≤ E.2.2.1 := ⟨Nat.le_refl _, Nat.le_refl _, hO.1, hO.2⟩
  refine wp_oM (E := E) ?_
  unfold g_X5_entry aEntry
  refine wp_rd (sp_isKind hO v) ?_
  rcases in2 v (L := 6) (by decide) with ⟨z, z2⟩ | ⟨z, z2, k, k1', rfl⟩
  · have z : v < 0 ∨ (6 : Int32) ≤ v := z
    rw [if_pos z, if_pos z]
    exact wp_t rfl (wp_ret ⟨hrf, CE.rd h h.wf⟩)
  · have z : ¬ (nI k < 0 ∨ (6 : Int32) ≤ nI k) := z
    rw [if_neg z, if_neg z]
    obtain ⟨F, Es, tw, Gl, P, htw, ⟨LL, GA, gd, c, hg, h1⟩, ht⟩ := h.cq hA
    refine wp_f ne01 (wp_gr rfl c.kx (wp_K c.f0 (c.l j1).1 ?_))
    rw [c.f0]
    refine wp_rd (sp_size hO (c.l j1)) ?_
    rw [CB.lenE h1]
    by_cases y : n < 30
    · rw [if_pos (show (n, kd, bs, S).1 < 30 from y)]
      refine wp_t (show nI n < nI 30 from nI_lt y (by decide)) (wp_gr rfl c.kx ?_)
      rw [c.f0]
      have run := sp_X1init (σ := pN 2 6 σ) (e := sN σ) (E := E) (num := n) (kd := k) (c.wf.pN 2 6) sK_new (show sN σ + 1 + 2 ≤ E.2.1 by omega) (show sS σ + 6 + 92 ≤ E.2.2.1 by omega)
      refine wp_nw (by omega) (by omega) (wp_K rfl sK_new (wp_bd run ?_))
      rintro _ s ⟨i1, i2, i3, i4⟩
      have fr : Fr σ s (fun _ => False) := (Fr.pN (X := fun _ => False)).tr i3 (fun _ _ z => z) (fun b hb z => by omega)
      have fo : Fo E σ s (fun _ => False) := Fo.of c.wf i2 fr (fun _ _ _ z => z.elim)
      have g6 : Gr σ s (1 + 2) (6 + 92) := Gr.pN.tr i4
      have c2 := c.mkE (d := (k, [], n)) (Nat.le_refl _) fo i1
      have l1 := c2.l j1
      rw [h1] at l1
      have hke : sK s (sN σ) = some 2 := by obtain ⟨b, m, g0, -⟩ := i1; exact g0.1
      have s1 := g6.2.2.1
      have s2 := g6.2.2.2
      refine wp_K rfl l1.1 (wp_bd (so_add c2.wf l1 (by rw [List.length_map, List.length_range]; omega) (Or.inl hke) (by omega) (by omega)) ?_)
      rintro _ s3 ⟨t1, t2, t3⟩
      have c3 := c2.lst j1 t2 t1
      have c4 := c3.pX 6 0
      refine wp_pi rfl c3.kx (wp_ret ?_)
      have fx : Fo E s3 (pI 6 6 (A 0) 0 s3) (fun b => b = A 0) := Fo.pI c3.wf c3.kx (by decide)
      have sz : Gr σ (pI 6 6 (A 0) 0 s3) (1 + 2 + 1) (6 + 92 + 49) := g6.tr t3
      have ee : up (fun i => (kd i, bs i, tw i)) n (k, [], n) = fun i => (up kd n k i, up bs n [] i, up tw n n i) := by
        funext i
        by_cases q : i = n
        · rw [q, up_s, up_s, up_s, up_s]
        · rw [up_n q, up_n q, up_n q, up_n q]
      rw [ee] at c4
      refine ⟨sz.bk (by omega) (by omega), rfl, ?_, t, ⟨up F 6 0, up Es n (sN σ), up_s, up tw n n, Gl, P, fun i hi => ?_, ⟨up LL 1 ((List.range n).map Es ++ [sN σ]), GA, gd, ?_, ⟨?_, ?_, hg.2.2.1, hg.2.2.2⟩, ?_⟩, ht⟩, sz.bg (by omega) (by omega)⟩
      · have f1 : Fc E σ s := fo.wk (fun _ z => z.elim)
        exact (f1.tr (Fc.one t2 l1.1 (by decide))).tr (Fc.one fx c3.kx (by decide))
      · show up tw n n i < 1000
        by_cases q : i = n
        · rw [q, up_s]; omega
        · rw [up_n q]; exact htw i (by have hi : i < n + 1 := hi; omega)
      · show CB E _ A (up F 6 0) _ (n + 1) (up Es n (sN σ)) (fun i => (up kd n (cl (nI k)) i, up bs n [] i, up tw n n i)) GA gd
        rw [cl_nI (by omega)]
        exact c4
      · rw [up_n (by decide)]; exact hg.1
      · rw [up_n (by decide)]; exact hg.2.1
      · rw [up_s, ← rg_succ]
    · rw [if_neg (show ¬ (n, kd, bs, S).1 < 30 from y)]
      exact wp_f (show ¬ nI n < nI 30 from nI_nlt (by omega) (by omega)) (wp_ret ⟨hrf, CE.rd h h.wf⟩)
theorem sp_octets (hE : 1000 ≤ E.1) (hA : AST (n, kd, bs, S)) (h : CI E σ A n kd bs S t) (hr1 : sN σ + 1000 ≤ E.2.1) (hr2 : sS σ + 60000 ≤ E.2.2.1) (v m : Int32) (b : Int64) : wp (f_X5_octets E (some (A 0)) v m b σ) (CE E σ A t 200 (aOctets v m b (n, kd, bs, S))) := by
  have hn : n ≤ 30 := hA.1.1
  have hO : Ok E σ := ⟨by omega, by omega⟩
  have hrf : sN σ ≤ sN σ ∧ sS σ ≤ sS σ ∧ sN σ ≤ E.2.1 ∧ sS σ ≤ E.2.2.1 := ⟨Nat.le_refl _, Nat.le_refl _, hO.1, hO.2⟩
  obtain ⟨F, Es, tw, Gl, P, htw, ⟨LL, GA, gd, c, hg, h1⟩, ht⟩ := h.cq hA
  refine wp_oM (E := E) ?_
  unfold g_X5_octets f_X5_octets_B19 aOctets
  refine wp_K rfl c.kx (wp_rd (sp_isEntry hO c v) ?_)
  rw [CB.lenE h1]
  rcases in2 v (L := n) (by omega) with ⟨z, z2⟩ | ⟨z, z2, j, j1', rfl⟩
  · rw [if_pos z, if_pos z]
    exact wp_t rfl (wp_ret ⟨hrf, CE.rd h h.wf⟩)
  · rw [if_neg z, if_neg z]
    refine wp_f ne01 ?_
    by_cases m1 : m < 1
    · rw [if_pos (show m < 1 ∨ ¬ m ≤ 8 from Or.inl m1)]
      exact wp_t m1 (wp_ret ⟨hrf, CE.rd h h.wf⟩)
    · refine wp_f m1 ?_
      by_cases m8 : m ≤ 8
      · rw [if_neg (show ¬ (m < 1 ∨ ¬ m ≤ 8) from fun q => q.elim m1 (fun w => w m8)), cl_nI (show j < 2 ^ 31 by omega)]
        have m0 : ¬ m < 0 := fun q => m1 (Int32.lt_trans q (by decide))
        obtain ⟨k, hk, rfl⟩ := nI_of2 (M := 8) (n := 8) (by decide) m0 m8
        rw [cl_nI (show k < 2 ^ 31 by omega)]
        refine wp_t m8 (wp_gr rfl c.kx (wp_K c.f0 (c.l j1).1 ?_))
        rw [c.f0]
        obtain ⟨bb, mm, g0, -⟩ := id (c.e j1')
        have hbl : (bs j).length ≤ 60 := g0.lens
        refine wp_rd (c.getE hO h1 j1') (wp_ca rfl g0.1 (wp_gi rfl g0.1 ?_))
        rw [g0.2.2.2.1, nI_add]
        by_cases w : (bs j).length + k ≤ 60
        · rw [if_pos (show ((n, kd, bs, S).2.2.1 j).length + k ≤ 60 from w)]
          refine wp_t (show nI ((bs j).length + k) ≤ nI 60 from nI_le w (by omega)) (wp_K rfl g0.1 (wp_bd (sp_append (v := b) (by omega) c.wf hO (c.e j1') hk w) ?_))
          rintro _ s ⟨e1, e2, e3⟩
          have fo := Fo.ent c.wf (c.e j1') e2 e3
          have c2 := c.ent (d := (kd j, bs j ++ newB b k, tw j)) (by omega) j1' fo e1
          have c3 := c2.pX 6 0
          obtain ⟨b2, m2, g2, -⟩ := c3.e j1'
          have ee : up (fun i => (kd i, bs i, tw i)) j (kd j, bs j ++ newB b k, tw j) = fun i => (kd i, up bs j (bs j ++ newB b k) i, tw i) := by
            funext i
            by_cases q : i = j
            · rw [q, up_s, up_s]
            · rw [up_n q, up_n q]
          refine wp_pi rfl c2.kx (wp_gi rfl g2.1 (wp_ret ?_))
          have hx : sI (pI 6 6 (A 0) 0 s) 2 4 (Es j) = nI ((bs j).length + k) := by
            rw [g2.2.2.2.1, up_s]
            show nI (bs j ++ newB b k).length = _
            rw [List.length_append]
            congr 2
            unfold newB
            rw [List.length_map, List.length_range]
          rw [hx]
          rw [ee] at c3
          have fx : Fo E s (pI 6 6 (A 0) 0 s) (fun b => b = A 0) := Fo.pI c2.wf c2.kx (by decide)
          refine ⟨e3.bk hO, rfl, ?_, t, ⟨up F 6 0, Es, up_s, tw, Gl, P, htw, ⟨LL, GA, gd, c3, hg, h1⟩, ht⟩, e3.gr.bg (by omega) (by omega)⟩
          exact (Fc.one fo (c.ke j1') (by decide)).tr (Fc.one fx c2.kx (by decide))
        · rw [if_neg (show ¬ ((n, kd, bs, S).2.2.1 j).length + k ≤ 60 from w)]
          exact wp_f (show ¬ nI ((bs j).length + k) ≤ nI 60 from nI_ge (by omega) (by omega)) (wp_ret ⟨hrf, CE.rd h h.wf⟩)
      · rw [if_pos (show m < 1 ∨ ¬ m ≤ 8 from Or.inr m8)]
        exact wp_f m8 (wp_ret ⟨hrf, CE.rd h h.wf⟩)
theorem sp_change (hE : 1000 ≤ E.1) (hA : AST (n, kd, bs, S)) (h : CI E σ A n kd bs S t) (hr1 : sN σ + 1000 ≤ E.2.1) (hr2 : sS σ + 60000 ≤ E.2.2.1) (v i b : Int32) : wp (f_X5_change E (some (A 0)) v i b σ) (CE E σ A t 200 (aChange v i b (n, kd, bs, S))) := by
  have hn : n ≤ 30 := hA.1.1
  have hO : Ok E σ := ⟨by omega, by omega⟩
  have hrf : sN σ ≤ sN σ ∧ sS σ ≤ sS σ ∧ sN σ ≤ E.2.1 ∧ sS σ ≤ E.2.2.1 := ⟨Nat.le_refl _, Nat.le_refl _, hO.1, hO.2⟩
  obtain ⟨F, Es, LL, GA, gd, tw, c, h1, hS0, hS1⟩ := h.rd2
  refine wp_oM (E := E) ?_
  unfold g_X5_change f_X5_change_B20 f_X5_change_B70 aChange
  refine wp_K rfl c.kx (wp_rd (sp_isByteOf hn hO c h1 v i) ?_)
  rcases in2 v (L := n) (by omega) with ⟨z, z2⟩ | ⟨z, z2, j, j1', rfl⟩
  · rw [if_pos z, if_pos z]
    exact wp_t rfl (wp_ret ⟨hrf, CE.rd h h.wf⟩)
  · rw [if_neg z, if_neg z, cl_nI (show j < 2 ^ 31 by omega)]
    obtain ⟨bb, mm, g0, -⟩ := id (c.e j1')
    have hbl : (bs j).length ≤ 60 := g0.lens
    show wp (if (if i < 0 ∨ nI (bs j).length ≤ i then (0 : Int32) else 1) = 0 then _ else _) (fun a s => _ ∧ CE E σ A t 200 (if i < 0 ∨ nI (bs j).length ≤ i then _ else _) a s)
    rcases in2 i (L := (bs j).length) (by omega) with ⟨y, y2⟩ | ⟨y, y2, k, k1', rfl⟩
    · rw [if_pos y, if_pos y]
      exact wp_t rfl (wp_ret ⟨hrf, CE.rd h h.wf⟩)
    · rw [if_neg y, if_neg y, cl_nI (show k < 2 ^ 31 by omega)]
      refine wp_f ne01 ?_
      by_cases b0 : b < 0
      · rw [if_pos (show b < 0 ∨ ¬ b < 256 from Or.inl b0)]
        exact wp_t b0 (wp_ret ⟨hrf, CE.rd h h.wf⟩)
      · refine wp_f b0 ?_
        by_cases b1 : b < 256
        · rw [if_neg (show ¬ (b < 0 ∨ ¬ b < 256) from fun q => q.elim b0 (fun w => w b1))]
          obtain ⟨x, hx, rfl⟩ := nI_of b0
          have hx2 : x < 256 := (nI_ltI hx (by decide)).mp b1
          rw [cl_nI hx]
          refine wp_t b1 (wp_gr rfl c.kx (wp_K c.f0 (c.l j1).1 ?_))
          rw [c.f0]
          obtain ⟨r1, r2, r3⟩ := g0.2.2.2.2.2.2.1
          refine wp_rd (c.getE hO h1 j1') (wp_ca rfl g0.1 (wp_gr rfl g0.1 (wp_al r1 rfl r2 (by omega) (by omega) ?_)))
          have hval : sA σ bb k = nI ((bs j).getD k 0) := g0.2.2.2.2.2.2.2.2 k k1'
          rw [hval]
          have hw256 : (bs j).getD k 0 < 256 := getD_lt (hA.1.2 j j1').2.2 k
          by_cases eq : (bs j).getD k 0 = x
          · rw [if_pos (show ((n, kd, bs, S).2.2.1 j).getD k 0 = x from eq)]
            refine wp_t (congrArg nI eq) (wp_ret ⟨hrf, ?_⟩)
            rw [eq]
            exact CE.rd h h.wf
          · rw [if_neg (show ¬ ((n, kd, bs, S).2.2.1 j).getD k 0 = x from eq)]
            refine wp_f (fun q => eq ((nI_eq (by omega) (by omega)).mp q)) (wp_K rfl g0.1 (wp_bd (sp_replace (by omega) c.wf hO (c.e j1') k1' hx2) ?_))
            rintro _ s ⟨e1, e2, e3⟩
            have fo := Fo.ent c.wf (c.e j1') e2 e3
            have c2 := c.ent (d := (kd j, (bs j).set k x, tw j)) (by omega) j1' fo e1
            have ee : up (fun i => (kd i, bs i, tw i)) j (kd j, (bs j).set k x, tw j) = fun i => (kd i, up bs j ((bs j).set k x) i, tw i) := by
              funext i
              by_cases q : i = j
              · rw [q, up_s, up_s]
              · rw [up_n q, up_n q]
            rw [ee] at c2
            have fc := Fc.one fo (c.ke j1') (by decide)
            refine wp_gi rfl c2.kx ?_
            rw [c2.fF]
            cases S with
            | none =>
              obtain ⟨f6, Gl, P, htw, hg, ht⟩ := hS0 rfl
              rw [f6]
              exact wp_t rfl (wp_ret ⟨e3.bk hO, rfl, fc, t, ⟨F, Es, f6, tw, Gl, P, htw, ⟨LL, GA, gd, c2, hg, h1⟩, ht⟩, e3.gr.bg (by omega) (by omega)⟩)
            | some s0 =>
              obtain ⟨f6, f7, htw, G, P, hv, hR, hG, ht⟩ := hS1 s0 rfl
              subst htw
              have hI : AI n kd bs s0.2.1 s0.1 s0.2.2 := hA.2 s0 rfl
              rw [f6]
              have hl : (up bs j ((bs j).set k x) j).length = (bs j).length := by rw [up_s, List.length_set]
              have hAE : AE n kd (up bs j ((bs j).set k x)) := hA.1.bytes (by rw [List.length_set]; exact hbl) (set_lt (hA.1.2 j j1').2.2 hx2)
              have cp : CP E s A F n Es kd (up bs j ((bs j).set k x)) bs s0.2.1 (fun _ => True) G P (LL 4) := ⟨LL, GA, gd, c2, hv, hR, h1, rfl⟩
              have e3n := e3.1.1
              have e3s := e3.1.2
              refine wp_f ne01 (wp_K rfl c2.kx (wp_bd (wp_eq (Q := fun r τ => Ok E τ ∧ ∃ (G' : List (Nat × Grp)) (P' : List Nat), CP E τ A F n Es kd (up bs j ((bs j).set k x)) (up bs j ((bs j).set k x)) (chgG n kd (up bs j ((bs j).set k x)) s0.1 s0.2.1 (G.map (·.2)) j).1 (fun _ => True) G' P' (LL 4) ∧ G'.map (·.2) = anewG (chgG n kd (up bs j ((bs j).set k x)) s0.1 s0.2.1 (G.map (·.2)) j).2.1 (chgG n kd (up bs j ((bs j).set k x)) s0.1 s0.2.1 (G.map (·.2)) j).2.2 ∧ Fc E s τ ∧ Bg s τ (G.length + P.length) (G'.length + P'.length) 2) (sp_packChanged (bd := s0.1) (e := j) hE hAE cp (by rw [hG]; exact hI) j1' hl (fun i hi => up_n hi) f7 (by omega) (by omega)) (fun r τ hq hp => ⟨(mo_X5_packChanged hq).2.2, hp⟩)) ?_))
              rintro _ τ ⟨hOτ, G', P', cp', eG, fcτ, bg⟩
              rw [hG] at cp' eG
              have bgT : Bg σ τ t (G'.length + P'.length) 2 := by
                have b0 : Bg σ s t t 0 := e3.gr.bg (by omega) (by omega)
                rw [ht] at bg
                exact b0.tr bg
              refine wp_ret ⟨⟨bgT.1.1, bgT.1.2, hOτ.1, hOτ.2⟩, rfl, fc.tr fcτ, _, ⟨F, Es, f6, f7, G', P', LL 4, cp', eG, rfl⟩, bgT.wk (by omega)⟩
        · rw [if_pos (show b < 0 ∨ ¬ b < 256 from Or.inr b1)]
          exact wp_f b1 (wp_ret ⟨hrf, CE.rd h h.wf⟩)
end CPS
