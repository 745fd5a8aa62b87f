/-! the model is made -/
def MI0 (E : PE) (σ0 σ : PS) (m : Nat) (D : List Nat) : Prop := Wf E σ ∧ sK σ m = some 7 ∧ Fo E σ0 σ (fun b => b = m) ∧ (∀ k, sI σ 7 k m = sI σ0 7 k m) ∧ ∃ Ma : Nat → Nat, ∀ k ∈ D, Ar σ 7 k m (Ma k) (alM k) ∧ Az σ (Ma k)
theorem MI0.step {E : PE} {σ0 σ τ : PS} {m k d : Nat} {D : List Nat} (h : MI0 E σ0 σ m D) (hk : k ∉ D) (g : Nf E σ τ 7 k m d) (b : sK τ d = some 100 ∧ sL τ d = alM k ∧ ∀ j, sA τ d j = 0) : MI0 E σ0 τ m (k :: D) := by
  obtain ⟨h1, h2, h3, h4, Ma, h5⟩ := h
  refine ⟨g.1, g.2.2.1, h3.tr (g.fo h1 h2 (by decide)) (fun _ z => z) (fun _ z => z), fun j => ?_, up Ma k d, fun j hj => ?_⟩
  · rw [g.2.2.2.2.2.2.1 j]; exact h4 j
  · rcases List.mem_cons.mp hj with z | z
    · rw [z, up_s]
      exact ⟨⟨g.2.2.2.1, b.1, b.2.1⟩, b.2.2⟩
    · have hne : j ≠ k := fun y => hk (y ▸ z)
      rw [up_n hne]
      obtain ⟨a1, a2⟩ := h5 j z
      exact ⟨a1.nf h1 (by decide) h2 g hne, Az.nf h1 (by decide) h2 a1 a2 g⟩
theorem wp_mA {β : Type} {P : β → PS → Prop} {f : PS → Option (β × PS)} {E : PE} {σ0 σ : PS} {m k n c s : Nat} {D : List Nat} {i : Int32} (h : MI0 E σ0 σ m D) (hG : Gr σ0 σ c s) (hi : i = nI n) (hn : n ≤ 1000000) (ha : alM k = n) (hty : tyK 7 k = 100) (hk : k ∉ D) (h1 : sN σ0 + c + 1 ≤ E.2.1) (h2 : sS σ0 + s + n ≤ E.2.2.1)
    (w : ∀ τ, MI0 E σ0 τ m (k :: D) → Gr σ0 τ (c + 1) (s + n) → wp (f τ) P) : wp (bd (oNa E 100 i σ) fun x t => (oPr 7 k (some m) x t).bind f) P := by
  obtain ⟨g1, g2, g3, g4⟩ := id hG
  exact wp_nArr hi hn h.1 h.2.1 hty (by omega) (by omega) (fun τ d g b gr => w τ (h.step hk g (by rw [ha]; exact b)) (hG.tr gr))
theorem sp_X6init {E : PE} {σ : PS} {m : Nat} (hw : Wf E σ) (ha : sK σ m = some 7) (hz : ∀ k, sI σ 7 k m = 0) (h1 : sN σ + 15 ≤ E.2.1) (h2 : sS σ + 165964 ≤ E.2.2.1) (kd : Nat → Nat) (bs : Nat → List Nat) :
    wp (f_X6_init E (some m) σ) (fun _ τ => (∃ Ma, MB E τ τ m Ma (fun _ => 0) (fun _ _ => 0)) ∧ Fo E σ τ (fun b => b = m) ∧ Gr σ τ 15 165964) := by
  refine wp_oM (E := E) ?_
  unfold g_X6_init
  have i0 : MI0 E σ σ m [] := ⟨hw, ha, Fo.rf hw, fun _ => rfl, fun _ => 0, (fun _ h => nomatch h)⟩
  refine wp_K rfl ha ?_
  refine wp_mA (n := 30) i0 Gr.rf rfl (by decide) rfl rfl (by decide) (by omega) (by omega) (fun s1 i1 g1 => ?_)
  refine wp_mA (n := 30) i1 g1 rfl (by decide) rfl rfl (by decide) (by omega) (by omega) (fun s2 i2 g2 => ?_)
  refine wp_mA (n := 1800) i2 g2 rfl (by decide) rfl rfl (by decide) (by omega) (by omega) (fun s3 i3 g3 => ?_)
  refine wp_mA (n := 30) i3 g3 rfl (by decide) rfl rfl (by decide) (by omega) (by omega) (fun s4 i4 g4 => ?_)
  refine wp_mA (n := 30) i4 g4 rfl (by decide) rfl rfl (by decide) (by omega) (by omega) (fun s5 i5 g5 => ?_)
  refine wp_mA (n := 30) i5 g5 rfl (by decide) rfl rfl (by decide) (by omega) (by omega) (fun s6 i6 g6 => ?_)
  refine wp_mA (n := 30) i6 g6 rfl (by decide) rfl rfl (by decide) (by omega) (by omega) (fun s7 i7 g7 => ?_)
  refine wp_mA (n := 30) i7 g7 rfl (by decide) rfl rfl (by decide) (by omega) (by omega) (fun s8 i8 g8 => ?_)
  refine wp_mA (n := 30) i8 g8 rfl (by decide) rfl rfl (by decide) (by omega) (by omega) (fun s9 i9 g9 => ?_)
  refine wp_mA (n := 162000) i9 g9 rfl (by decide) rfl rfl (by decide) (by omega) (by omega) (fun s10 i10 g10 => ?_)
  refine wp_mA (n := 32) i10 g10 rfl (by decide) rfl rfl (by decide) (by omega) (by omega) (fun s11 i11 g11 => ?_)
  refine wp_mA (n := 32) i11 g11 rfl (by decide) rfl rfl (by decide) (by omega) (by omega) (fun s12 i12 g12 => ?_)
  refine wp_mA (n := 30) i12 g12 rfl (by decide) rfl rfl (by decide) (by omega) (by omega) (fun s13 i13 g13 => ?_)
  refine wp_mA (n := 30) i13 g13 rfl (by decide) rfl rfl (by decide) (by omega) (by omega) (fun s14 i14 g14 => ?_)
  refine wp_mA (n := 1800) i14 g14 rfl (by decide) rfl rfl (by decide) (by omega) (by omega) (fun s15 i15 g15 => ?_)
  refine wp_ret ⟨g15.bk h1 h2, ?_, i15.2.2.1, g15⟩
  obtain ⟨q1, q2, q3, q4, Ma, q5⟩ := i15
  have hm : ∀ k ∈ amL, k ∈ [21, 20, 18, 16, 15, 14, 13, 12, 11, 8, 7, 6, 3, 2, 1] := by decide
  exact ⟨Ma, Fo.rf q1, ⟨rfl, rfl, rfl⟩, q2, fun k hk => (q5 k (hm k hk)).1, fun k => by rw [q4 k]; exact hz k, fun k hk i => (q5 k (hm k hk)).2 i⟩
theorem MV.zero {kd : Nat → Nat} {bs : Nat → List Nat} : MV (0, kd, bs, none) (fun _ => 0) (fun _ _ => 0) := ⟨⟨rfl, fun e he => absurd he (Nat.not_lt_zero _)⟩, rfl⟩
