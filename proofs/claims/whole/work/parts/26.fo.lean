/-! FRAMES BY OBJECTS: an object that is not in A, and its own arrays, are as they were -/
def us (σ τ : PS) (c a : Nat) : Prop := dEq σ τ a ∧ ∀ k d q, sR σ c k a = some d → sK σ d = some q → 100 ≤ q → dEq σ τ d
def Fo (E : PE) (σ τ : PS) (A : Nat → Prop) : Prop := Wf E τ ∧ (∀ b k, sK σ b = some k → sK τ b = some k ∧ (k = 101 → dEq σ τ b)) ∧ ∀ a c, sK σ a = some c → c < 100 → ¬ A a → us σ τ c a
theorem Fo.wf {E : PE} {σ τ : PS} {A : Nat → Prop} (h : Fo E σ τ A) : Wf E τ := h.1
theorem Fo.k {E : PE} {σ τ : PS} {A : Nat → Prop} (h : Fo E σ τ A) {b k : Nat} (hb : sK σ b = some k) : sK τ b = some k := (h.2.1 b k hb).1
theorem Fo.j {E : PE} {σ τ : PS} {A : Nat → Prop} (h : Fo E σ τ A) {b : Nat} (hb : sK σ b = some 101) : dEq σ τ b := (h.2.1 b 101 hb).2 rfl
theorem tyK_ne (c k : Nat) : tyK c k ≠ 101 := by
  unfold tyK
  split
  · decide
  · split <;> decide
  · split <;> decide
  · split
    · decide
    · split <;> decide
  · decide
theorem Fo.rf {E : PE} {σ : PS} {A : Nat → Prop} (hw : Wf E σ) : Fo E σ σ A := ⟨hw, fun _ _ h => ⟨h, fun _ => dEq.rf⟩, fun _ _ _ _ _ => ⟨dEq.rf, fun _ _ _ _ _ _ => dEq.rf⟩⟩
theorem Fo.tr {E : PE} {σ τ ρ : PS} {A B C : Nat → Prop} (h : Fo E σ τ A) (k : Fo E τ ρ B) (hA : ∀ b, A b → C b) (hB : ∀ b, B b → C b) : Fo E σ ρ C := by
  refine ⟨k.1, fun b q hb => ⟨k.k (h.k hb), fun e => ((h.2.1 b q hb).2 e).tr ((k.2.1 b q (h.k hb)).2 e)⟩, fun a c ha hc hC => ?_⟩
  obtain ⟨u1, u2⟩ := h.2.2 a c ha hc (fun z => hC (hA a z))
  obtain ⟨v1, v2⟩ := k.2.2 a c (h.k ha) hc (fun z => hC (hB a z))
  refine ⟨u1.tr v1, fun j d q hr hd hq => (u2 j d q hr hd hq).tr (v2 j d q ?_ (h.k hd) hq)⟩
  rw [u1.2.2.1]
  exact hr
theorem Fo.wk {E : PE} {σ τ : PS} {A B : Nat → Prop} (h : Fo E σ τ A) (k : ∀ b, A b → B b) : Fo E σ τ B := ⟨h.1, h.2.1, fun a c ha hc hB => h.2.2 a c ha hc (fun z => hB (k a z))⟩
theorem Fo.of {E : PE} {σ τ : PS} {X A : Nat → Prop} (hw : Wf E σ) (hwτ : Wf E τ) (hf : Fr σ τ X) (hX : ∀ d q, sK σ d = some q → X d → (q < 100 ∧ A d) ∨ (100 ≤ q ∧ ∃ c k a, sK σ a = some c ∧ sR σ c k a = some d ∧ A a)) : Fo E σ τ A := by
  refine ⟨hwτ, fun b k hb => ⟨hf.k hw hb, fun e => hf.2.2.2.2 b (hw.lt hb) (fun z => by
    subst e
    rcases hX b 101 hb z with y | ⟨-, c, k, a, e1, e2, -⟩
    · omega
    · exact tyK_ne c k (hw.ty e1 e2 hb).symm)⟩, fun a c ha hc hA => ⟨hf.2.2.2.2 a (hw.lt ha) (fun z => ?_), fun k d q hr hd hq => hf.2.2.2.2 d (hw.lt hd) (fun z => ?_)⟩⟩
  · rcases hX a c ha z with e | e
    · exact hA e.2
    · omega
  · rcases hX d q hd z with e | ⟨-, c', k', a', e1, e2, e3⟩
    · omega
    · rw [(hw.uo ha e1 hr e2 hd).2.2] at hA
      exact hA e3
theorem Fo.own {E : PE} {σ τ : PS} {c a : Nat} (hw : Wf E σ) (hwτ : Wf E τ) (l : leafC c) (ha : sK σ a = some c) (hf : Fr σ τ (own σ c a)) : Fo E σ τ (fun b => b = a) := by
  refine Fo.of hw hwτ hf (fun d q hd hx => ?_)
  rcases hx with hx | ⟨k, hx⟩
  · subst hx
    cases ha.symm.trans hd
    exact Or.inl ⟨l.1, rfl⟩
  · have := hw.ty ha hx hd
    exact Or.inr ⟨by rw [this]; exact l.2 k, c, k, a, ha, hx, rfl⟩
theorem Fo.one {E : PE} {σ τ : PS} {c a : Nat} (hw : Wf E σ) (hwτ : Wf E τ) (ha : sK σ a = some c) (hc : c < 100) (hf : Fr σ τ (fun b => b = a)) : Fo E σ τ (fun b => b = a) := by
  refine Fo.of hw hwτ hf (fun d q hd hx => ?_)
  have hx : d = a := hx
  subst hx
  cases ha.symm.trans hd
  exact Or.inl ⟨hc, rfl⟩
theorem Fo.pI {E : PE} {σ : PS} {c k a : Nat} {v : Int32} (hw : Wf E σ) (ha : sK σ a = some c) (hc : c < 100) : Fo E σ (pI c k a v σ) (fun b => b = a) := Fo.one hw (hw.same rfl rfl rfl) ha hc Fr.pI
/-- a field's array -/
theorem Fo.arr {E : PE} {σ τ : PS} {c k a d : Nat} (hw : Wf E σ) (hwτ : Wf E τ) (ha : sK σ a = some c) (hr : sR σ c k a = some d) {q : Nat} (hd : sK σ d = some q) (hq : 100 ≤ q) (hf : Fr σ τ (fun b => b = d)) : Fo E σ τ (fun b => b = a) := by
  refine Fo.of hw hwτ hf (fun d' q' hd' hx => ?_)
  have hx : d' = d := hx
  subst hx
  cases hd.symm.trans hd'
  exact Or.inr ⟨hq, c, k, a, ha, hr, rfl⟩
theorem Fo.list {E : PE} {σ τ : PS} {a : Nat} {L : List Nat} (hw : Wf E σ) (hwτ : Wf E τ) (h : isL E σ a L) (hf : Fr σ τ (lx σ a)) : Fo E σ τ (fun b => b = a) := Fo.own hw hwτ leaf0 h.1 (hf.wk (fun _ _ z => lx_own z))
theorem Fo.ent {E : PE} {σ τ : PS} {e num kd tw : Nat} {bs : List Nat} (hw : Wf E σ) (h : isE σ e num kd bs tw) (hf : Fr σ τ (ex σ e)) (hs : Sk σ τ) : Fo E σ τ (fun b => b = e) := by
  obtain ⟨b, m, g, -⟩ := h
  exact Fo.own hw (hs.wf hw) leaf2 g.1 (hf.wk (fun _ _ z => ex_own z))
theorem Fo.row {E : PE} {σ τ : PS} {t : Nat} {T : List (Nat × Nat × Nat)} (hw : Wf E σ) (h : isT σ t T) (hf : Fr σ τ (tx σ t)) (hs : Sk σ τ) : Fo E σ τ (fun b => b = t) := Fo.own hw (hs.wf hw) leaf5 h.1 (hf.wk (fun _ _ z => tx_own z))
/-! what is kept -/
theorem isE.ko {E : PE} {σ τ : PS} {A : Nat → Prop} {e num kd tw : Nat} {bs : List Nat} (h : isE σ e num kd bs tw) (hf : Fo E σ τ A) (hA : ¬ A e) : isE τ e num kd bs tw := by
  obtain ⟨b, m, ⟨h1, h2, h3, h4, h5, h6, ⟨r1, r2, r3⟩, ⟨q1, q2, q3⟩, h9⟩, h10⟩ := h
  obtain ⟨de, du⟩ := hf.2.2 e 2 h1 (by omega) hA
  have db := du 2 b 100 r1 r2 (Nat.le_refl _)
  have dm := du 3 m 100 q1 q2 (Nat.le_refl _)
  exact ⟨b, m, ⟨hf.k h1, by rw [de.2.1]; exact h2, by rw [de.2.1]; exact h3, by rw [de.2.1]; exact h4, by rw [de.2.1]; exact h5, h6, ⟨by rw [de.2.2.1]; exact r1, hf.k r2, by rw [db.1]; exact r3⟩, ⟨by rw [de.2.2.1]; exact q1, hf.k q2, by rw [dm.1]; exact q3⟩, fun i hi => by rw [db.2.2.2.1]; exact h9 i hi⟩, fun j hj => by rw [dm.2.2.2.1]; exact h10 j hj⟩
theorem isT.ko {E : PE} {σ τ : PS} {A : Nat → Prop} {t : Nat} {T : List (Nat × Nat × Nat)} (h : isT σ t T) (hf : Fo E σ τ A) (hA : ¬ A t) : isT τ t T := by
  obtain ⟨h1, h2, h3, h4, va, ba, ma, ⟨a1, a2, a3⟩, ⟨b1, b2, b3⟩, ⟨m1, m2, m3⟩, h5⟩ := h
  obtain ⟨dt, du⟩ := hf.2.2 t 5 h1 (by omega) hA
  have da := du 0 va 100 a1 a2 (Nat.le_refl _)
  have db := du 1 ba 100 b1 b2 (Nat.le_refl _)
  have dm := du 2 ma 100 m1 m2 (Nat.le_refl _)
  exact ⟨hf.k h1, by rw [dt.2.1]; exact h2, by rw [dt.2.1]; exact h3, h4, va, ba, ma, ⟨by rw [dt.2.2.1]; exact a1, hf.k a2, by rw [da.1]; exact a3⟩, ⟨by rw [dt.2.2.1]; exact b1, hf.k b2, by rw [db.1]; exact b3⟩, ⟨by rw [dt.2.2.1]; exact m1, hf.k m2, by rw [dm.1]; exact m3⟩, fun i hi => by rw [da.2.2.2.1, db.2.2.2.1, dm.2.2.2.1]; exact h5 i hi⟩
theorem isL.ko {E : PE} {σ τ : PS} {A : Nat → Prop} {a : Nat} {L : List Nat} (h : isL E σ a L) (hf : Fo E σ τ A) (hA : ¬ A a) : isL E τ a L := by
  obtain ⟨h1, h2, h3, d, r1, r2⟩ := h
  obtain ⟨da, du⟩ := hf.2.2 a 0 h1 (by omega) hA
  refine ⟨hf.k h1, by rw [da.2.1]; exact h2, fun y hy => ?_, d, by rw [da.2.2.1]; exact r1, ?_⟩
  · rcases h3 y hy with e | e
    · exact Or.inl (hf.k e)
    · exact Or.inr (hf.k e)
  · rcases r2 with e | ⟨q1, q2, q3, q4, q5⟩
    · exact Or.inl e
    · have dd := du 1 d 102 r1 q1 (by omega)
      exact Or.inr ⟨hf.k q1, by rw [dd.1]; exact q2, by rw [dd.1]; exact q3, by rw [dd.1]; exact q4, fun i hi => by rw [dd.2.2.2.2.1]; exact q5 i hi⟩
theorem isM.ko {E : PE} {σ τ : PS} {A : Nat → Prop} {r cb : Nat} {c : List Nat} (h : isM σ r cb c) (hf : Fo E σ τ A) (hA : ¬ A r) : isM τ r cb c := by
  obtain ⟨h1, ⟨r1, r2, r3⟩, h3, h4, h5, h6⟩ := h
  obtain ⟨dr, du⟩ := hf.2.2 r 4 h1 (by omega) hA
  have dc := du 0 cb 100 r1 r2 (Nat.le_refl _)
  exact ⟨hf.k h1, ⟨by rw [dr.2.2.1]; exact r1, hf.k r2, by rw [dc.1]; exact r3⟩, by rw [dr.2.1]; exact h3, h4, h5, fun i hi => by rw [dc.2.2.2.1]; exact h6 i hi⟩
/-- sizes: n cells, s slots more at most -/
def Gr (σ τ : PS) (n s : Nat) : Prop := sN σ ≤ sN τ ∧ sS σ ≤ sS τ ∧ sN τ ≤ sN σ + n ∧ sS τ ≤ sS σ + s
theorem Gr.rf {σ : PS} : Gr σ σ 0 0 := ⟨Nat.le_refl _, Nat.le_refl _, Nat.le_refl _, Nat.le_refl _⟩
theorem Gr.tr {σ τ ρ : PS} {n s n' s' : Nat} (h : Gr σ τ n s) (k : Gr τ ρ n' s') : Gr σ ρ (n + n') (s + s') := by
  obtain ⟨a1, a2, a3, a4⟩ := h
  obtain ⟨b1, b2, b3, b4⟩ := k
  exact ⟨by omega, by omega, by omega, by omega⟩
theorem Gr.wk {σ τ : PS} {n s n' s' : Nat} (h : Gr σ τ n s) (hn : n ≤ n') (hs : s ≤ s') : Gr σ τ n' s' := ⟨h.1, h.2.1, by have := h.2.2.1; omega, by have := h.2.2.2; omega⟩
theorem Gr.bk {E : PE} {σ τ : PS} {n s : Nat} (h : Gr σ τ n s) (h1 : sN σ + n ≤ E.2.1) (h2 : sS σ + s ≤ E.2.2.1) : sN σ ≤ sN τ ∧ sS σ ≤ sS τ ∧ sN τ ≤ E.2.1 ∧ sS τ ≤ E.2.2.1 := ⟨h.1, h.2.1, by have := h.2.2.1; omega, by have := h.2.2.2; omega⟩
theorem Gr.ok {E : PE} {σ τ : PS} {n s : Nat} (h : Gr σ τ n s) (h1 : sN σ + n ≤ E.2.1) (h2 : sS σ + s ≤ E.2.2.1) : Ok E τ := ⟨by have := h.2.2.1; omega, by have := h.2.2.2; omega⟩
theorem Sk.gr {σ τ : PS} (h : Sk σ τ) : Gr σ τ 0 0 := ⟨by rw [h.1.1]; omega, by rw [h.1.2]; omega, by rw [h.1.1]; omega, by rw [h.1.2]; omega⟩
theorem Gr.eq {σ τ : PS} (h1 : sN τ = sN σ) (h2 : sS τ = sS σ) : Gr σ τ 0 0 := ⟨by omega, by omega, by omega, by omega⟩
theorem Fo.gr1 {σ τ : PS} {X : Nat → Prop} {n s : Nat} (hf : Fr σ τ X) (h1 : sN τ ≤ sN σ + n) (h2 : sS τ ≤ sS σ + s) : Gr σ τ n s := ⟨hf.1, hf.2.1, h1, h2⟩
/-! the lists' runs again -/
theorem so_add {E : PE} {σ : PS} {a x : Nat} {L : List Nat} (hw : Wf E σ) (h : isL E σ a L) (hL : L.length ≤ 31) (hx : sK σ x = some 2 ∨ sK σ x = some 3) (h1 : sN σ + 1 ≤ E.2.1) (h2 : sS σ + 49 ≤ E.2.2.1) :
    wp (f_Jx4a65c_add_9ea2d E (some a) (some x) σ) (fun _ τ => isL E τ a (L ++ [x]) ∧ Fo E σ τ (fun b => b = a) ∧ Gr σ τ 1 49) :=
  wp_mono (sp_add hw h hL hx h1 h2) (fun _ τ t => ⟨t.1, Fo.list hw t.2.2.1 h t.2.1, Fo.gr1 t.2.1 t.2.2.2.1 t.2.2.2.2⟩)
theorem so_addAt {E : PE} {σ : PS} {a x i : Nat} {L : List Nat} (hw : Wf E σ) (h : isL E σ a L) (hL : L.length ≤ 31) (hi : i ≤ L.length) (hx : sK σ x = some 2 ∨ sK σ x = some 3) (h1 : sN σ + 1 ≤ E.2.1) (h2 : sS σ + 49 ≤ E.2.2.1) :
    wp (f_Jx4a65c_add_7a177 E (some a) (nI i) (some x) σ) (fun _ τ => isL E τ a (insL L i x) ∧ Fo E σ τ (fun b => b = a) ∧ Gr σ τ 1 49) :=
  wp_mono (sp_addAt hw h hL hi hx h1 h2) (fun _ τ t => ⟨t.1, Fo.list hw t.2.2.1 h t.2.1, Fo.gr1 t.2.1 t.2.2.2.1 t.2.2.2.2⟩)
theorem so_set {E : PE} {σ : PS} {a x i : Nat} {L : List Nat} (hw : Wf E σ) (hO : Ok E σ) (h : isL E σ a L) (hi : i < L.length) (hx : sK σ x = some 2 ∨ sK σ x = some 3) :
    wp (f_Jx4a65c_set_bcc79 E (some a) (nI i) (some x) σ) (fun r τ => r = L[i]? ∧ isL E τ a (L.set i x) ∧ Fo E σ τ (fun b => b = a) ∧ Gr σ τ 0 0) :=
  wp_mono (sp_set hw hO h hi hx) (fun _ τ t => ⟨t.1, t.2.1, Fo.list hw t.2.2.2.1 h t.2.2.1, Gr.eq t.2.2.2.2.1 t.2.2.2.2.2⟩)
theorem so_remove {E : PE} {σ : PS} {a i : Nat} {L : List Nat} (hw : Wf E σ) (hO : Ok E σ) (h : isL E σ a L) (hi : i < L.length) :
    wp (f_Jx4a65c_remove_915e3 E (some a) (nI i) σ) (fun r τ => r = L[i]? ∧ isL E τ a (L.eraseIdx i) ∧ Fo E σ τ (fun b => b = a) ∧ Gr σ τ 0 0) :=
  wp_mono (sp_remove hw hO h hi) (fun _ τ t => ⟨t.1, t.2.1, Fo.list hw t.2.2.2.1 h t.2.2.1, Gr.eq t.2.2.2.2.1 t.2.2.2.2.2⟩)
theorem so_clear {E : PE} {σ : PS} {a : Nat} {L : List Nat} (hE : 100 ≤ E.1) (hw : Wf E σ) (hO : Ok E σ) (h : isL E σ a L) :
    wp (f_Jx4a65c_clear_da8c8 E (some a) σ) (fun _ τ => isL E τ a [] ∧ Fo E σ τ (fun b => b = a) ∧ Gr σ τ 0 0) :=
  wp_mono (sp_clear hE hw hO h) (fun _ τ t => ⟨t.1, Fo.list hw t.2.2.1 h t.2.1, Gr.eq t.2.2.2.1 t.2.2.2.2⟩)
/-! what is made anew -/
theorem Fo.pN {E : PE} {σ : PS} {A : Nat → Prop} (hw : Wf E σ) (kd n : Nat) : Fo E σ (pN kd n σ) A := Fo.of hw (hw.pN kd n) (Fr.pN (X := fun _ => False)) (fun _ _ _ z => z.elim)
theorem Gr.pN {kd n : Nat} {σ : PS} : Gr σ (pN kd n σ) 1 n := ⟨Nat.le_succ _, Nat.le_add_right _ _, Nat.le_refl _, Nat.le_refl _⟩
theorem sK_new {kd n : Nat} {σ : PS} : sK (pN kd n σ) (sN σ) = some kd := by rw [sK_pN, if_pos rfl]
theorem sL_new {kd n : Nat} {σ : PS} : sL (pN kd n σ) (sN σ) = n := by rw [sL_pN, if_pos rfl]
theorem sI_new {kd n c k : Nat} {σ : PS} : sI (pN kd n σ) c k (sN σ) = 0 := by rw [sI_pN, if_pos rfl]
theorem sA_new {kd n j : Nat} {σ : PS} : sA (pN kd n σ) (sN σ) j = 0 := by rw [sA_pN, if_pos rfl]
theorem Wf.new {E : PE} {σ : PS} (h : Wf E σ) {b k : Nat} (hb : sK σ b = some k) : b ≠ sN σ := by have := h.lt hb; omega
/-- a new thing into a field -/
theorem Fo.put {E : PE} {σ : PS} {c k a d : Nat} (hw : Wf E σ) (ha : sK σ a = some c) (hc : c < 100) (hd : d = E.2.2.2.1 ∨ (sK σ d = some (tyK c k) ∧ ∀ c' k' a', sK σ a' = some c' → sR σ c' k' a' ≠ some d)) : Fo E σ (pR c k a (some d) σ) (fun b => b = a) := Fo.one hw (hw.pR ha hd) ha hc Fr.pR
