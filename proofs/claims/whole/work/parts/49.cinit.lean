/-! A NEW OBJECT -/
theorem isA.ko {E : PE} {σ τ : PS} {X : Nat → Prop} {ar bl : Nat} {B : List Nat} (h : isA E σ ar bl B) (hf : Fo E σ τ X) (h1 : ¬ X ar) (h2 : ¬ X bl) : isA E τ ar bl B := by
  obtain ⟨a1, ⟨a2, a3⟩, ⟨sa, s1, s2, s3⟩, ⟨ua, u1, u2, u3⟩⟩ := h
  obtain ⟨da, du⟩ := hf.2.2 ar 1 a1 (by omega) h1
  exact ⟨hf.k a1, ⟨by rw [da.2.2.1]; exact a2, a3.ko hf h2⟩, ⟨sa, by rw [da.2.2.1]; exact s1, hf.k s2, by rw [(du 1 sa 100 s1 s2 (Nat.le_refl _)).1]; exact s3⟩, ⟨ua, by rw [da.2.2.1]; exact u1, hf.k u2, by rw [(du 2 ua 100 u1 u2 (Nat.le_refl _)).1]; exact u3⟩⟩
theorem Nf.fo {E : PE} {σ τ : PS} {c k a d : Nat} (h : Nf E σ τ c k a d) (hw : Wf E σ) (ha : sK σ a = some c) (hc : c < 100) : Fo E σ τ (fun b => b = a) := Fo.one hw h.1 ha hc h.2.1
theorem sp_X5init {E : PE} {σ : PS} {x : Nat} (hw : Wf E σ) (ha : sK σ x = some 6) (h1 : sN σ + 10 ≤ E.2.1) (h2 : sS σ + 1367 ≤ E.2.2.1) (kd : Nat → Nat) (bs : Nat → List Nat) :
    wp (f_X5_init E (some x) σ) (fun _ τ => (∃ A, A 0 = x ∧ CI E τ A 0 kd bs none 0) ∧ Wf E τ ∧ Fr σ τ (fun b => b = x) ∧ Gr σ τ 10 1367) := by
  refine wp_oM (E := E) ?_
  unfold g_X5_init
  refine wp_K rfl ha (wp_nList hw ha rfl (by omega) (by omega) (fun σ1 el n1 b1 g1 => ?_))
  have k1 := n1.2.2.1
  have f1 := n1.fo hw ha (by decide)
  refine wp_nList n1.1 k1 rfl (by have := g1.2.2.1; omega) (by have := g1.2.2.2; omega) (fun σ2 gl n2 b2 g2 => ?_)
  have k2 := n2.2.2.1
  have f2 := n2.fo n1.1 k1 (by decide)
  have g12 := g1.tr g2
  refine wp_nList n2.1 k2 rfl (by have := g12.2.2.1; omega) (by have := g12.2.2.2; omega) (fun σ3 pl n3 b3 g3 => ?_)
  have k3 := n3.2.2.1
  have f3 := n3.fo n2.1 k2 (by decide)
  have g13 := g12.tr g3
  refine wp_nList n3.1 k3 rfl (by have := g13.2.2.1; omega) (by have := g13.2.2.2; omega) (fun σ4 ll n4 b4 g4 => ?_)
  have k4 := n4.2.2.1
  have f4 := n4.fo n3.1 k3 (by decide)
  have g14 := g13.tr g4
  have z1 := g14.2.2.1
  have z2 := g14.2.2.2
  have hx5 := sp_X0init (σ := pN 1 3 σ4) (t := sN σ4) (E := E) (n4.1.pN 1 3) sK_new (n4.1.fresh 1 3) (show sN σ4 + 1 + 3 ≤ E.2.1 by omega) (show sS σ4 + 3 + 948 ≤ E.2.2.1 by omega)
  refine wp_nObj (I := f_X0_init E) n4.1 k4 rfl (by omega) (by omega) hx5 (fun σ5' x5 q5 n5 g5 => ?_)
  have k5 := n5.2.2.1
  have f5 := n5.fo n4.1 k4 (by decide)
  obtain ⟨bl, q5⟩ := q5
  have hne5 : sN σ4 ≠ x := fun z => n4.1.new k4 z.symm
  have kx5' : sK σ5' x = some 6 := x5.2.1.k (n4.1.pN 1 3) (by rw [sK_pN, if_neg (fun z => hne5 z.symm)]; exact k4)
  have q5' : isA E (pR 6 4 x (some (sN σ4)) σ5') (sN σ4) bl [] := q5.ko (Fo.one x5.1 n5.1 kx5' (by decide) Fr.pR) (kne q5.1 kx5' (by decide)) (kne q5.2.1.2.1 kx5' (by decide))
  generalize hσ5 : pR 6 4 x (some (sN σ4)) σ5' = σ5 at *
  have g15 := g14.tr g5
  have z3 := g15.2.2.1
  have z4 := g15.2.2.2
  have hx6 := sp_X3init (σ := pN 4 4 σ5) (t := sN σ5) (E := E) (n5.1.pN 4 4) sK_new (n5.1.fresh 4 4) (show sN σ5 + 1 + 1 ≤ E.2.1 by omega) (show sS σ5 + 4 + 400 ≤ E.2.2.1 by omega)
  refine wp_nObj (I := f_X3_init E) n5.1 k5 rfl (by omega) (by omega) hx6 (fun σ6' x6 q6 n6 g6 => ?_)
  have k6 := n6.2.2.1
  have f6 := n6.fo n5.1 k5 (by decide)
  obtain ⟨cb, q6⟩ := q6
  have hne6 : sN σ5 ≠ x := fun z => n5.1.new k5 z.symm
  have kx6' : sK σ6' x = some 6 := x6.2.1.k (n5.1.pN 4 4) (by rw [sK_pN, if_neg (fun z => hne6 z.symm)]; exact k5)
  have q6' : isM (pR 6 5 x (some (sN σ5)) σ6') (sN σ5) cb [] := q6.ko (Fo.one x6.1 n6.1 kx6' (by decide) Fr.pR) (kne q6.1 kx6' (by decide))
  generalize hσ6 : pR 6 5 x (some (sN σ5)) σ6' = σ6 at *
  have g16 := g15.tr g6
  -- the lists, kept
  have e1 := (((((b1.ko f2 (kne b1.1 k1 (by decide))).ko f3 (kne (f2.k b1.1) k2 (by decide))).ko f4 (kne (f3.k (f2.k b1.1)) k3 (by decide))).ko f5 (kne (f4.k (f3.k (f2.k b1.1))) k4 (by decide))).ko f6 (kne (f5.k (f4.k (f3.k (f2.k b1.1)))) k5 (by decide)))
  have e2 := ((((b2.ko f3 (kne b2.1 k2 (by decide))).ko f4 (kne (f3.k b2.1) k3 (by decide))).ko f5 (kne (f4.k (f3.k b2.1)) k4 (by decide))).ko f6 (kne (f5.k (f4.k (f3.k b2.1))) k5 (by decide)))
  have e3 := (((b3.ko f4 (kne b3.1 k3 (by decide))).ko f5 (kne (f4.k b3.1) k4 (by decide))).ko f6 (kne (f5.k (f4.k b3.1)) k5 (by decide)))
  have e4 := ((b4.ko f5 (kne b4.1 k4 (by decide))).ko f6 (kne (f5.k b4.1) k5 (by decide)))
  have e5 := q5'.ko f6 (kne q5'.1 k5 (by decide)) (kne q5'.2.1.2.1 k5 (by decide))
  have r0 : sR σ6 6 0 x = some el := (n6.2.2.2.2.2.1 0 (by decide)).trans ((n5.2.2.2.2.2.1 0 (by decide)).trans ((n4.2.2.2.2.2.1 0 (by decide)).trans ((n3.2.2.2.2.2.1 0 (by decide)).trans ((n2.2.2.2.2.2.1 0 (by decide)).trans n1.2.2.2.1))))
  have r1 : sR σ6 6 1 x = some gl := (n6.2.2.2.2.2.1 1 (by decide)).trans ((n5.2.2.2.2.2.1 1 (by decide)).trans ((n4.2.2.2.2.2.1 1 (by decide)).trans ((n3.2.2.2.2.2.1 1 (by decide)).trans n2.2.2.2.1)))
  have r2 : sR σ6 6 2 x = some pl := (n6.2.2.2.2.2.1 2 (by decide)).trans ((n5.2.2.2.2.2.1 2 (by decide)).trans ((n4.2.2.2.2.2.1 2 (by decide)).trans n3.2.2.2.1))
  have r3 : sR σ6 6 3 x = some ll := (n6.2.2.2.2.2.1 3 (by decide)).trans ((n5.2.2.2.2.2.1 3 (by decide)).trans n4.2.2.2.1)
  have r4 : sR σ6 6 4 x = some (sN σ4) := (n6.2.2.2.2.2.1 4 (by decide)).trans n5.2.2.2.1
  have r5 : sR σ6 6 5 x = some (sN σ5) := n6.2.2.2.1
  have cB : CB E σ6 (fun i => [x, el, gl, pl, ll, sN σ4, bl, sN σ5, cb].getD i 0) (fun k => sI σ6 6 k x) (fun _ => []) 0 (fun _ => 0) (fun i => (kd i, bs i, 0)) (fun _ => False) (fun _ => (0, 0, [], [])) := by
    refine ⟨n6.1, ⟨⟨⟨k6, r0, r1, r2, r3, r4, r5⟩, fun _ => rfl⟩, ⟨e5.1, e5.2.1.1, e5.2.2.1, e5.2.2.2⟩, [], q6'⟩, fun j hj => ?_, fun i hi => absurd hi (Nat.not_lt_zero _), fun g hg => hg.elim⟩
    rcases hj with rfl | rfl | rfl | rfl | rfl
    · exact e1
    · exact e2
    · exact e3
    · exact e4
    · exact e5.2.1.2
  have c1 := cB.pX 6 0
  have c2 := c1.pX 7 0
  have fr6 : Fr σ σ6 (fun b => b = x) := ((((n1.2.1.tr n2.2.1 (Z := fun b => b = x) (fun _ _ z => z) (fun _ _ z => z)).tr n3.2.1 (Z := fun b => b = x) (fun _ _ z => z) (fun _ _ z => z)).tr n4.2.1 (Z := fun b => b = x) (fun _ _ z => z) (fun _ _ z => z)).tr n5.2.1 (Z := fun b => b = x) (fun _ _ z => z) (fun _ _ z => z)).tr n6.2.1 (fun _ _ z => z) (fun _ _ z => z)
  refine wp_pi rfl k6 (wp_pi rfl k6 (wp_ret ⟨g16.bk h1 h2, ⟨_, rfl, ⟨_, fun _ => 0, ?_, fun _ => 0, [], [], fun i hi => absurd hi (Nat.not_lt_zero _), ⟨_, _, _, c2, ⟨rfl, rfl, (fun _ hx => nomatch hx), List.nodup_nil⟩, rfl⟩, rfl⟩⟩, c2.wf, ?_, g16⟩))
  · rw [up_n (show (6 : Nat) ≠ 7 by decide), up_s]
  · exact (fr6.tr Fr.pI (Z := fun b => b = x) (fun _ _ z => z) (fun _ _ z => z)).tr Fr.pI (fun _ _ z => z) (fun _ _ z => z)
