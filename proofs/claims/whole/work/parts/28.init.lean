/-! THE CONSTRUCTORS -/
theorem gI_s {σ : PS} {c k a : Nat} {v : Int32} : sI (pI c k a v σ) c k a = v := by rw [sI_pI, if_pos ⟨rfl, rfl, rfl⟩]
theorem gI_n {σ : PS} {c c' k k' a b : Nat} {v : Int32} (h : k' ≠ k) : sI (pI c k a v σ) c' k' b = sI σ c' k' b := by rw [sI_pI, if_neg (fun z => h z.2.1)]
theorem gI_o {σ : PS} {c c' k k' a b : Nat} {v : Int32} (h : b ≠ a) : sI (pI c k a v σ) c' k' b = sI σ c' k' b := by rw [sI_pI, if_neg (fun z => h z.2.2)]
def Ar (σ : PS) (c k a d n : Nat) : Prop := sR σ c k a = some d ∧ sK σ d = some 100 ∧ sL σ d = n
def Az (σ : PS) (d : Nat) : Prop := ∀ j, sA σ d j = 0
theorem Ar.nf {E : PE} {σ τ : PS} {c k a d n k' d' : Nat} (hw : Wf E σ) (hc : c ≠ 100) (ha : sK σ a = some c) (h : Ar σ c k a d n) (g : Nf E σ τ c k' a d') (hk : k ≠ k') : Ar τ c k a d n := by
  have hne : d ≠ a := fun z => by rw [z] at h; exact hc (Option.some.inj (ha.symm.trans h.2.1))
  exact ⟨(g.2.2.2.2.2.1 k hk).trans h.1, g.2.1.k hw h.2.1, by rw [(g.2.1.2.2.2.2 d (hw.lt h.2.1) hne).1]; exact h.2.2⟩
theorem Az.nf {E : PE} {σ τ : PS} {c k a d n k' d' : Nat} (hw : Wf E σ) (hc : c ≠ 100) (ha : sK σ a = some c) (h : Ar σ c k a d n) (hz : Az σ d) (g : Nf E σ τ c k' a d') : Az τ d := by
  have hne : d ≠ a := fun z => by rw [z] at h; exact hc (Option.some.inj (ha.symm.trans h.2.1))
  intro j
  rw [(g.2.1.2.2.2.2 d (hw.lt h.2.1) hne).2.2.2.1]
  exact hz j
theorem isL.nf {E : PE} {σ τ : PS} {c k' a d d' : Nat} {L : List Nat} (hw : Wf E σ) (hc : c ≠ 0) (hc2 : c ≠ 102) (ha : sK σ a = some c) (h : isL E σ d L) (g : Nf E σ τ c k' a d') : isL E τ d L :=
  h.kept hw g.2.1 (fun z => by rw [z] at h; exact hc (Option.some.inj (ha.symm.trans h.1))) (fun q _ hq z => by rw [z] at hq; exact hc2 (Option.some.inj (ha.symm.trans hq)))
theorem sp_X1init {E : PE} {σ : PS} {e num kd : Nat} (hw : Wf E σ) (ha : sK σ e = some 2) (h1 : sN σ + 2 ≤ E.2.1) (h2 : sS σ + 92 ≤ E.2.2.1) :
    wp (f_X1_init E (some e) (nI num) (nI kd) σ) (fun _ τ => isE τ e num kd [] num ∧ Wf E τ ∧ Fr σ τ (fun b => b = e) ∧ Gr σ τ 2 92) := by
  refine wp_oM (E := E) ?_
  unfold g_X1_init
  refine wp_K rfl ha (wp_nArr (n := 60) rfl (by decide) hw ha rfl (by omega) (by omega) (fun σ1 b n1 b1 g1 => ?_))
  have k1 := n1.2.2.1
  refine wp_nArr (n := 32) rfl (by decide) n1.1 k1 rfl (by have := g1.2.2.1; omega) (by have := g1.2.2.2; omega) (fun σ2 m n2 b2 g2 => ?_)
  have k2 := n2.2.2.1
  have a1 : Ar σ1 2 2 e b 60 := ⟨n1.2.2.2.1, b1.1, b1.2.1⟩
  have a2 := a1.nf n1.1 (by decide) k1 n2 (by decide)
  refine wp_pi rfl k2 (wp_pi rfl k2 (wp_pi rfl k2 (wp_pi rfl k2 (wp_ret ⟨(g1.tr g2).bk h1 h2, ?_, n2.1.same rfl rfl rfl, ?_, g1.tr g2⟩))))
  · refine ⟨b, m, ⟨k2, ?_, ?_, ?_, ?_, ⟨by simp, (fun _ hx => nomatch hx)⟩, a2, ⟨n2.2.2.2.1, b2.1, b2.2.1⟩, (fun i hi => absurd hi (Nat.not_lt_zero i))⟩, fun j hj => ?_⟩
    · rw [gI_n (by decide), gI_n (by decide), gI_s]
    · rw [gI_n (by decide), gI_s]
    · rw [gI_n (by decide), gI_n (by decide), gI_n (by decide), gI_s]; rfl
    · rw [gI_s]
    · exact b2.2.2 j
  · have f2 : Fr σ σ2 (fun b => b = e) := n1.2.1.tr n2.2.1 (fun _ _ z => z) (fun _ _ z => z)
    exact (((f2.tr Fr.pI (Z := fun b => b = e) (fun _ _ z => z) (fun _ _ z => z)).tr Fr.pI (Z := fun b => b = e) (fun _ _ z => z) (fun _ _ z => z)).tr Fr.pI (Z := fun b => b = e) (fun _ _ z => z) (fun _ _ z => z)).tr Fr.pI (fun _ _ z => z) (fun _ _ z => z)
theorem sp_X4init {E : PE} {σ : PS} {t : Nat} (hw : Wf E σ) (ha : sK σ t = some 5) (hu : Un σ t) (h1 : sN σ + 3 ≤ E.2.1) (h2 : sS σ + 1200 ≤ E.2.2.1) :
    wp (f_X4_init E (some t) σ) (fun _ τ => Nx E σ τ t ∧ Gr σ τ 3 1200 ∧ isT τ t []) := by
  refine wp_oM (E := E) ?_
  unfold g_X4_init
  refine wp_K rfl ha (wp_nArr (n := 400) rfl (by decide) hw ha rfl (by omega) (by omega) (fun σ1 va n1 b1 g1 => ?_))
  have k1 := n1.2.2.1
  refine wp_nArr (n := 400) rfl (by decide) n1.1 k1 rfl (by have := g1.2.2.1; omega) (by have := g1.2.2.2; omega) (fun σ2 ba n2 b2 g2 => ?_)
  have k2 := n2.2.2.1
  have g12 := g1.tr g2
  refine wp_nArr (n := 400) rfl (by decide) n2.1 k2 rfl (by have := g12.2.2.1; omega) (by have := g12.2.2.2; omega) (fun σ3 ma n3 b3 g3 => ?_)
  have k3 := n3.2.2.1
  have a1 : Ar σ1 5 0 t va 400 := ⟨n1.2.2.2.1, b1.1, b1.2.1⟩
  have a2 : Ar σ2 5 1 t ba 400 := ⟨n2.2.2.2.1, b2.1, b2.2.1⟩
  have a3 : Ar σ3 5 2 t ma 400 := ⟨n3.2.2.2.1, b3.1, b3.2.1⟩
  have a1' := (a1.nf n1.1 (by decide) k1 n2 (by decide)).nf n2.1 (by decide) k2 n3 (by decide)
  have a2' := a2.nf n2.1 (by decide) k2 n3 (by decide)
  refine wp_pi rfl k3 (wp_pi rfl k3 (wp_ret ⟨(g12.tr g3).bk h1 h2, (((n1.nx ha hu).tr hw ha n2).tr hw ha n3).pI.pI, g12.tr g3, k3, ?_, ?_, by simp, va, ba, ma, a1', a2', a3, (fun i hi => absurd hi (Nat.not_lt_zero i))⟩))
  · rw [gI_n (by decide), gI_s]; rfl
  · rw [gI_s]; rfl
/-! GROUPS -/
def isG (E : PE) (σ : PS) (g kd an : Nat) (ms : List Nat) (T : List (Nat × Nat × Nat)) : Prop := sK σ g = some 3 ∧ sI σ 3 2 g = nI kd ∧ sI σ 3 3 g = nI an ∧ ∃ ml t, (sR σ 3 0 g = some ml ∧ isL E σ ml ms) ∧ (sR σ 3 1 g = some t ∧ isT σ t T)
def gA (σ : PS) (g b : Nat) : Prop := b = g ∨ sR σ 3 0 g = some b ∨ sR σ 3 1 g = some b
theorem isG.ko {E : PE} {σ τ : PS} {A : Nat → Prop} {g kd an : Nat} {ms : List Nat} {T : List (Nat × Nat × Nat)} (h : isG E σ g kd an ms T) (hf : Fo E σ τ A) (hA : ∀ b, gA σ g b → ¬ A b) : isG E τ g kd an ms T := by
  obtain ⟨h1, h2, h3, ml, t, ⟨r1, r2⟩, ⟨q1, q2⟩⟩ := h
  obtain ⟨dg, -⟩ := hf.2.2 g 3 h1 (by omega) (hA g (Or.inl rfl))
  exact ⟨hf.k h1, by rw [dg.2.1]; exact h2, by rw [dg.2.1]; exact h3, ml, t, ⟨by rw [dg.2.2.1]; exact r1, r2.ko hf (hA ml (Or.inr (Or.inl r1)))⟩, ⟨by rw [dg.2.2.1]; exact q1, q2.ko hf (hA t (Or.inr (Or.inr q1)))⟩⟩
theorem sp_X2init {E : PE} {σ : PS} {g : Nat} (hw : Wf E σ) (ha : sK σ g = some 3) (h1 : sN σ + 5 ≤ E.2.1) (h2 : sS σ + 1208 ≤ E.2.2.1) :
    wp (f_X2_init E (some g) σ) (fun _ τ => isG E τ g 0 0 [] [] ∧ Wf E τ ∧ Fr σ τ (fun b => b = g) ∧ Gr σ τ 5 1208) := by
  refine wp_oM (E := E) ?_
  unfold g_X2_init
  refine wp_K rfl ha (wp_nList hw ha rfl (by omega) (by omega) (fun σ1 ml n1 b1 g1 => ?_))
  have k1 := n1.2.2.1
  have g1' := g1.2.2
  have hx := sp_X4init (σ := pN 5 5 σ1) (t := sN σ1) (E := E) (n1.1.pN 5 5) sK_new (n1.1.fresh 5 5) (show sN σ1 + 1 + 3 ≤ E.2.1 by omega) (show sS σ1 + 5 + 1200 ≤ E.2.2.1 by omega)
  refine wp_nObj (I := f_X4_init E) n1.1 k1 rfl (by omega) (by omega) hx (fun σ2 x2 q2 n2 g2 => ?_)
  have k2 := n2.2.2.1
  have w2 := n2.1
  refine wp_pi rfl k2 (wp_pi rfl k2 (wp_ret ⟨(g1.tr g2).bk h1 h2, ⟨k2, ?_, ?_, ml, sN σ1, ⟨?_, ?_⟩, ⟨?_, ?_⟩⟩, w2.same rfl rfl rfl, ?_, g1.tr g2⟩))
  · rw [gI_n (by decide), gI_s]; rfl
  · rw [gI_s]; rfl
  · exact (n2.2.2.2.2.2.1 0 (by decide)).trans n1.2.2.2.1
  · have l2 := b1.nf n1.1 (by decide) (by decide) k1 n2
    exact (l2.ko (Fo.pI w2 k2 (by decide)) (fun z => by rw [z] at l2; cases l2.1.symm.trans k2)).ko (Fo.pI (w2.same rfl rfl rfl) k2 (by decide)) (fun z => by rw [z] at l2; cases l2.1.symm.trans k2)
  · exact n2.2.2.2.1
  · have hne : sN σ1 ≠ g := fun z => n1.1.new k1 z.symm
    have q3 : isT (pR 3 1 g (some (sN σ1)) σ2) (sN σ1) [] := by
      obtain ⟨h1, h2, h3, h4, va, ba, ma, ⟨a1, a2, a3⟩, ⟨b1, b2, b3⟩, ⟨m1, m2, m3⟩, h5⟩ := q2
      refine ⟨h1, h2, h3, h4, va, ba, ma, ⟨?_, a2, a3⟩, ⟨?_, b2, b3⟩, ⟨?_, m2, m3⟩, h5⟩
      · rw [sR_pR, if_neg (fun z => absurd z.1 (by decide))]; exact a1
      · rw [sR_pR, if_neg (fun z => absurd z.1 (by decide))]; exact b1
      · rw [sR_pR, if_neg (fun z => absurd z.1 (by decide))]; exact m1
    exact (q3.ko (Fo.pI w2 k2 (by decide)) hne).ko (Fo.pI (w2.same rfl rfl rfl) k2 (by decide)) hne
  · have f2 : Fr σ _ (fun b => b = g) := n1.2.1.tr n2.2.1 (fun _ _ z => z) (fun _ _ z => z)
    exact (f2.tr Fr.pI (Z := fun b => b = g) (fun _ _ z => z) (fun _ _ z => z)).tr Fr.pI (fun _ _ z => z) (fun _ _ z => z)
/-! THE ARRANGER, THE ROW MAKER -/
def isA (E : PE) (σ : PS) (ar bl : Nat) (B : List Nat) : Prop := sK σ ar = some 1 ∧ (sR σ 1 0 ar = some bl ∧ isL E σ bl B) ∧ (∃ sa, Ar σ 1 1 ar sa 49) ∧ ∃ ua, Ar σ 1 2 ar ua 896
theorem sp_X0init {E : PE} {σ : PS} {t : Nat} (hw : Wf E σ) (ha : sK σ t = some 1) (hu : Un σ t) (h1 : sN σ + 3 ≤ E.2.1) (h2 : sS σ + 948 ≤ E.2.2.1) :
    wp (f_X0_init E (some t) σ) (fun _ τ => Nx E σ τ t ∧ Gr σ τ 3 948 ∧ ∃ bl, isA E τ t bl []) := by
  refine wp_oM (E := E) ?_
  unfold g_X0_init
  refine wp_K rfl ha (wp_nList hw ha rfl (by omega) (by omega) (fun σ1 bl n1 b1 g1 => ?_))
  have k1 := n1.2.2.1
  refine wp_nArr (n := 49) rfl (by decide) n1.1 k1 rfl (by have := g1.2.2.1; omega) (by have := g1.2.2.2; omega) (fun σ2 sa n2 b2 g2 => ?_)
  have k2 := n2.2.2.1
  have g12 := g1.tr g2
  refine wp_nArr (n := 896) rfl (by decide) n2.1 k2 rfl (by have := g12.2.2.1; omega) (by have := g12.2.2.2; omega) (fun σ3 ua n3 b3 g3 => ?_)
  have a2 : Ar σ2 1 1 t sa 49 := ⟨n2.2.2.2.1, b2.1, b2.2.1⟩
  refine wp_ret ⟨(g12.tr g3).bk h1 h2, ((n1.nx ha hu).tr hw ha n2).tr hw ha n3, g12.tr g3, bl, n3.2.2.1, ⟨?_, ?_⟩, ⟨sa, a2.nf n2.1 (by decide) k2 n3 (by decide)⟩, ua, n3.2.2.2.1, b3.1, b3.2.1⟩
  · exact (n3.2.2.2.2.2.1 0 (by decide)).trans ((n2.2.2.2.2.2.1 0 (by decide)).trans n1.2.2.2.1)
  · exact (b1.nf n1.1 (by decide) (by decide) k1 n2).nf n2.1 (by decide) (by decide) k2 n3
theorem sp_X3init {E : PE} {σ : PS} {t : Nat} (hw : Wf E σ) (ha : sK σ t = some 4) (hu : Un σ t) (h1 : sN σ + 1 ≤ E.2.1) (h2 : sS σ + 400 ≤ E.2.2.1) :
    wp (f_X3_init E (some t) σ) (fun _ τ => Nx E σ τ t ∧ Gr σ τ 1 400 ∧ ∃ cb, isM τ t cb []) := by
  refine wp_oM (E := E) ?_
  unfold g_X3_init
  refine wp_K rfl ha (wp_nArr (n := 400) rfl (by decide) hw ha rfl (by omega) (by omega) (fun σ1 cb n1 b1 g1 => ?_))
  have k1 := n1.2.2.1
  refine wp_pi rfl k1 (wp_pi rfl k1 (wp_pi rfl k1 (wp_ret ⟨g1.bk h1 h2, ((n1.nx ha hu).pI).pI.pI, g1, cb, k1, ⟨n1.2.2.2.1, b1.1, b1.2.1⟩, ?_, by simp, (fun _ hx => nomatch hx), (fun i hi => absurd hi (Nat.not_lt_zero i))⟩)))
  rw [gI_n (by decide), gI_n (by decide), gI_s]; rfl
/-- the object's own fields -/
def isX (σ : PS) (x el gl pl ll ar rm : Nat) : Prop := sK σ x = some 6 ∧ sR σ 6 0 x = some el ∧ sR σ 6 1 x = some gl ∧ sR σ 6 2 x = some pl ∧ sR σ 6 3 x = some ll ∧ sR σ 6 4 x = some ar ∧ sR σ 6 5 x = some rm
