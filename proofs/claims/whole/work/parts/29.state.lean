/-! THE CLASS's STATE. A: addresses (0 the object, 1 entries, 2 groups, 3 spare groups, 4 line, 5 arranger, 6 its list, 7 row maker, 8 its content); LL: what the lists hold; Es: the entries' addresses; ed: kind, bytes, twin; GA: the groups that there are; gd: kind, made anew, members, tokens -/
def up {α : Type} (f : Nat → α) (k : Nat) (v : α) : Nat → α := fun i => if i = k then v else f i
theorem up_s {α : Type} {f : Nat → α} {k : Nat} {v : α} : up f k v k = v := if_pos rfl
theorem up_n {α : Type} {f : Nat → α} {k i : Nat} {v : α} (h : i ≠ k) : up f k v i = f i := if_neg h
theorem kne {σ : PS} {a b k k' : Nat} (h : sK σ a = some k) (h' : sK σ b = some k') (hk : k ≠ k') : a ≠ b := fun z => by rw [z] at h; exact hk (Option.some.inj (h.symm.trans h'))
def jl (j : Nat) : Prop := j = 1 ∨ j = 2 ∨ j = 3 ∨ j = 4 ∨ j = 6
def Rt (σ : PS) (A : Nat → Nat) (F : Nat → Int32) : Prop := (isX σ (A 0) (A 1) (A 2) (A 3) (A 4) (A 5) (A 7) ∧ ∀ k, sI σ 6 k (A 0) = F k) ∧ (sK σ (A 5) = some 1 ∧ sR σ 1 0 (A 5) = some (A 6) ∧ (∃ sa, Ar σ 1 1 (A 5) sa 49) ∧ ∃ ua, Ar σ 1 2 (A 5) ua 896) ∧ ∃ c, isM σ (A 7) (A 8) c
def CB (E : PE) (σ : PS) (A : Nat → Nat) (F : Nat → Int32) (LL : Nat → List Nat) (n : Nat) (Es : Nat → Nat) (ed : Nat → Nat × List Nat × Nat) (GA : Nat → Prop) (gd : Nat → Nat × Nat × List Nat × List (Nat × Nat × Nat)) : Prop :=
  Wf E σ ∧ Rt σ A F ∧ (∀ j, jl j → isL E σ (A j) (LL j)) ∧ (∀ i, i < n → isE σ (Es i) i (ed i).1 (ed i).2.1 (ed i).2.2) ∧ ∀ g, GA g → isG E σ g (gd g).1 (gd g).2.1 (gd g).2.2.1 (gd g).2.2.2
section CBS
variable {E : PE} {σ τ : PS} {A : Nat → Nat} {F : Nat → Int32} {LL : Nat → List Nat} {n : Nat} {Es : Nat → Nat} {ed : Nat → Nat × List Nat × Nat} {GA : Nat → Prop} {gd : Nat → Nat × Nat × List Nat × List (Nat × Nat × Nat)}
theorem CB.wf (h : CB E σ A F LL n Es ed GA gd) : Wf E σ := h.1
theorem CB.rt (h : CB E σ A F LL n Es ed GA gd) : Rt σ A F := h.2.1
theorem CB.kx (h : CB E σ A F LL n Es ed GA gd) : sK σ (A 0) = some 6 := h.2.1.1.1.1
theorem CB.ka (h : CB E σ A F LL n Es ed GA gd) : sK σ (A 5) = some 1 := h.2.1.2.1.1
theorem CB.km (h : CB E σ A F LL n Es ed GA gd) : sK σ (A 7) = some 4 := by obtain ⟨c, hc⟩ := h.2.1.2.2; exact hc.1
theorem CB.l (h : CB E σ A F LL n Es ed GA gd) {j : Nat} (hj : jl j) : isL E σ (A j) (LL j) := h.2.2.1 j hj
theorem CB.e (h : CB E σ A F LL n Es ed GA gd) {i : Nat} (hi : i < n) : isE σ (Es i) i (ed i).1 (ed i).2.1 (ed i).2.2 := h.2.2.2.1 i hi
theorem CB.ke (h : CB E σ A F LL n Es ed GA gd) {i : Nat} (hi : i < n) : sK σ (Es i) = some 2 := by obtain ⟨b, m, g, -⟩ := h.e hi; exact g.1
theorem CB.g (h : CB E σ A F LL n Es ed GA gd) {g : Nat} (hg : GA g) : isG E σ g (gd g).1 (gd g).2.1 (gd g).2.2.1 (gd g).2.2.2 := h.2.2.2.2 g hg
theorem CB.ei (h : CB E σ A F LL n Es ed GA gd) {i j : Nat} (hi : i < n) (hj : j < n) (hn : n ≤ 1000) (e : Es i = Es j) : i = j := by
  obtain ⟨b, m, g, -⟩ := h.e hi
  obtain ⟨b', m', g', -⟩ := h.e hj
  have h1 := g.2.1
  have h2 := g'.2.1
  rw [e, h2] at h1
  exact ((nI_eq (by omega) (by omega)).mp h1).symm
theorem Rt.ko (h : Rt σ A F) {S : Nat → Prop} (hf : Fo E σ τ S) (h0 : ¬ S (A 0)) (h5 : ¬ S (A 5)) (h7 : ¬ S (A 7)) : Rt τ A F := by
  obtain ⟨⟨⟨x1, x2, x3, x4, x5, x6, x7⟩, xF⟩, ⟨a1, a2, ⟨sa, a3⟩, ⟨ua, a4⟩⟩, c, hc⟩ := h
  obtain ⟨dx, -⟩ := hf.2.2 _ 6 x1 (by omega) h0
  obtain ⟨da, du⟩ := hf.2.2 _ 1 a1 (by omega) h5
  refine ⟨⟨⟨hf.k x1, ?_, ?_, ?_, ?_, ?_, ?_⟩, fun k => by rw [dx.2.1]; exact xF k⟩, ⟨hf.k a1, ?_, ⟨sa, ?_⟩, ⟨ua, ?_⟩⟩, c, hc.ko hf h7⟩
  · rw [dx.2.2.1]; exact x2
  · rw [dx.2.2.1]; exact x3
  · rw [dx.2.2.1]; exact x4
  · rw [dx.2.2.1]; exact x5
  · rw [dx.2.2.1]; exact x6
  · rw [dx.2.2.1]; exact x7
  · rw [da.2.2.1]; exact a2
  · exact ⟨by rw [da.2.2.1]; exact a3.1, hf.k a3.2.1, by rw [(du 1 sa 100 a3.1 a3.2.1 (Nat.le_refl _)).1]; exact a3.2.2⟩
  · exact ⟨by rw [da.2.2.1]; exact a4.1, hf.k a4.2.1, by rw [(du 2 ua 100 a4.1 a4.2.1 (Nat.le_refl _)).1]; exact a4.2.2⟩
/-- the field that holds a list -/
theorem Rt.fl (h : Rt σ A F) {j : Nat} (hj : jl j) : (j ≠ 6 ∧ sR σ 6 (j - 1) (A 0) = some (A j)) ∨ (j = 6 ∧ sR σ 1 0 (A 5) = some (A j)) := by
  obtain ⟨⟨⟨x1, x2, x3, x4, x5, x6, x7⟩, xF⟩, ⟨a1, a2, -⟩, -⟩ := h
  rcases hj with rfl | rfl | rfl | rfl | rfl
  · exact Or.inl ⟨by decide, x2⟩
  · exact Or.inl ⟨by decide, x3⟩
  · exact Or.inl ⟨by decide, x4⟩
  · exact Or.inl ⟨by decide, x5⟩
  · exact Or.inr ⟨rfl, a2⟩
theorem CB.ll (h : CB E σ A F LL n Es ed GA gd) {i j : Nat} (hi : jl i) (hj : jl j) (hij : i ≠ j) : A i ≠ A j := by
  intro z
  have hki := (h.l hi).1
  rcases h.rt.fl hi with ⟨n1, e1⟩ | ⟨n1, e1⟩
  · rcases h.rt.fl hj with ⟨n2, e2⟩ | ⟨n2, e2⟩
    · rw [← z] at e2
      have := (h.wf.uo h.kx h.kx e1 e2 hki).2.1
      have : 1 ≤ i := by rcases hi with rfl | rfl | rfl | rfl | rfl <;> decide
      have : 1 ≤ j := by rcases hj with rfl | rfl | rfl | rfl | rfl <;> decide
      omega
    · rw [← z] at e2
      exact absurd (h.wf.uo h.kx h.ka e1 e2 hki).1 (by decide)
  · rcases h.rt.fl hj with ⟨n2, e2⟩ | ⟨n2, e2⟩
    · rw [← z] at e2
      exact absurd (h.wf.uo h.ka h.kx e1 e2 hki).1 (by decide)
    · omega
/-- a group's list is none of the object's -/
theorem CB.gl (h : CB E σ A F LL n Es ed GA gd) {g ml j : Nat} (hk : sK σ g = some 3) (hr : sR σ 3 0 g = some ml) (hm : sK σ ml = some 0) (hj : jl j) : ml ≠ A j := by
  intro z
  rcases h.rt.fl hj with ⟨n2, e2⟩ | ⟨n2, e2⟩
  · rw [← z] at e2; exact absurd (h.wf.uo hk h.kx hr e2 hm).1 (by decide)
  · rw [← z] at e2; exact absurd (h.wf.uo hk h.ka hr e2 hm).1 (by decide)
/-- a group's things, by what they are -/
theorem isG.parts {g kd an : Nat} {ms : List Nat} {T : List (Nat × Nat × Nat)} (h : isG E σ g kd an ms T) {b : Nat} (hb : gA σ g b) : (b = g ∧ sK σ b = some 3) ∨ (sR σ 3 0 g = some b ∧ sK σ b = some 0) ∨ (sR σ 3 1 g = some b ∧ sK σ b = some 5) := by
  obtain ⟨h1, -, -, ml, t, ⟨r1, r2⟩, q1, q2⟩ := h
  rcases hb with rfl | hb | hb
  · exact Or.inl ⟨rfl, h1⟩
  · cases r1.symm.trans hb; exact Or.inr (Or.inl ⟨r1, r2.1⟩)
  · cases q1.symm.trans hb; exact Or.inr (Or.inr ⟨q1, q2.1⟩)
/-- two groups have nothing in common -/
theorem gA.dis (hw : Wf E σ) {g kd an g' kd' an' : Nat} {ms ms' : List Nat} {T T' : List (Nat × Nat × Nat)} (h : isG E σ g kd an ms T) (h' : isG E σ g' kd' an' ms' T') (hne : g ≠ g') {b : Nat} (hb : gA σ g b) (hb' : gA σ g' b) : False := by
  rcases h.parts hb with ⟨e1, e2⟩ | ⟨e1, e2⟩ | ⟨e1, e2⟩
  · rcases h'.parts hb' with ⟨f1, f2⟩ | ⟨f1, f2⟩ | ⟨f1, f2⟩
    · exact hne (e1.symm.trans f1)
    · cases e2.symm.trans f2
    · cases e2.symm.trans f2
  · rcases h'.parts hb' with ⟨f1, f2⟩ | ⟨f1, f2⟩ | ⟨f1, f2⟩
    · cases e2.symm.trans f2
    · exact hne (hw.uo h.1 h'.1 e1 f1 e2).2.2
    · cases e2.symm.trans f2
  · rcases h'.parts hb' with ⟨f1, f2⟩ | ⟨f1, f2⟩ | ⟨f1, f2⟩
    · cases e2.symm.trans f2
    · cases e2.symm.trans f2
    · exact hne (hw.uo h.1 h'.1 e1 f1 e2).2.2
/-- what touches nothing of it -/
theorem CB.ko (h : CB E σ A F LL n Es ed GA gd) {S : Nat → Prop} (hf : Fo E σ τ S) (hS : ∀ b k, S b → sK σ b = some k → k = 7) : CB E τ A F LL n Es ed GA gd := by
  have no : ∀ {b k : Nat}, sK σ b = some k → k ≠ 7 → ¬ S b := fun hb hk z => hk (hS _ _ z hb)
  refine ⟨hf.wf, h.rt.ko hf (no h.kx (by decide)) (no h.ka (by decide)) (no h.km (by decide)), fun j hj => (h.l hj).ko hf (no (h.l hj).1 (by decide)), fun i hi => (h.e hi).ko hf (no (h.ke hi) (by decide)), fun g hg => (h.g hg).ko hf (fun b hb => ?_)⟩
  rcases (h.g hg).parts hb with e | e | e
  · exact no e.2 (by decide)
  · exact no e.2 (by decide)
  · exact no e.2 (by decide)
/-- one list is changed -/
theorem CB.lst (h : CB E σ A F LL n Es ed GA gd) {j : Nat} {L : List Nat} (hj : jl j) (hf : Fo E σ τ (fun b => b = A j)) (hl : isL E τ (A j) L) : CB E τ A F (up LL j L) n Es ed GA gd := by
  have hk := (h.l hj).1
  have no : ∀ {b k : Nat}, sK σ b = some k → k ≠ 0 → ¬ b = A j := fun hb hk' => kne hb hk hk'
  refine ⟨hf.wf, h.rt.ko hf (no h.kx (by decide)) (no h.ka (by decide)) (no h.km (by decide)), fun i hi => ?_, fun i hi => (h.e hi).ko hf (no (h.ke hi) (by decide)), fun g hg => (h.g hg).ko hf (fun b hb => ?_)⟩
  · by_cases z : i = j
    · rw [z, up_s]; exact hl
    · rw [up_n z]; exact (h.l hi).ko hf (h.ll hi hj z)
  · rcases (h.g hg).parts hb with e | e | e
    · exact no e.2 (by decide)
    · exact h.gl (h.g hg).1 e.1 e.2 hj
    · exact no e.2 (by decide)
/-- one entry is changed -/
theorem CB.ent (h : CB E σ A F LL n Es ed GA gd) {i : Nat} {d : Nat × List Nat × Nat} (hn : n ≤ 1000) (hi : i < n) (hf : Fo E σ τ (fun b => b = Es i)) (he : isE τ (Es i) i d.1 d.2.1 d.2.2) : CB E τ A F LL n Es (up ed i d) GA gd := by
  have hk := h.ke hi
  have no : ∀ {b k : Nat}, sK σ b = some k → k ≠ 2 → ¬ b = Es i := fun hb hk' => kne hb hk hk'
  refine ⟨hf.wf, h.rt.ko hf (no h.kx (by decide)) (no h.ka (by decide)) (no h.km (by decide)), fun j hj => (h.l hj).ko hf (no (h.l hj).1 (by decide)), fun k hk => ?_, fun g hg => (h.g hg).ko hf (fun b hb => ?_)⟩
  · by_cases z : k = i
    · subst z; rw [up_s]; exact he
    · rw [up_n z]; exact (h.e hk).ko hf (fun y => z (h.ei hk hi hn y))
  · rcases (h.g hg).parts hb with e | e | e
    · exact no e.2 (by decide)
    · exact no e.2 (by decide)
    · exact no e.2 (by decide)
/-- one group is changed -/
theorem CB.grp (h : CB E σ A F LL n Es ed GA gd) {g : Nat} {S : Nat → Prop} {d : Nat × Nat × List Nat × List (Nat × Nat × Nat)} (hg : GA g) (hf : Fo E σ τ S) (hS : ∀ b, S b → gA σ g b) (hG : isG E τ g d.1 d.2.1 d.2.2.1 d.2.2.2) : CB E τ A F LL n Es ed GA (up gd g d) := by
  have no : ∀ {b k : Nat}, sK σ b = some k → k ≠ 3 → k ≠ 0 → k ≠ 5 → ¬ S b := by
    intro b k hb n1 n2 n3 z
    rcases (h.g hg).parts (hS b z) with e | e | e
    · exact n1 (Option.some.inj (hb.symm.trans e.2))
    · exact n2 (Option.some.inj (hb.symm.trans e.2))
    · exact n3 (Option.some.inj (hb.symm.trans e.2))
  refine ⟨hf.wf, h.rt.ko hf (no h.kx (by decide) (by decide) (by decide)) (no h.ka (by decide) (by decide) (by decide)) (no h.km (by decide) (by decide) (by decide)), fun j hj => (h.l hj).ko hf (fun z => ?_), fun i hi => (h.e hi).ko hf (no (h.ke hi) (by decide) (by decide) (by decide)), fun k hk => ?_⟩
  · rcases (h.g hg).parts (hS _ z) with e | e | e
    · cases e.2.symm.trans (h.l hj).1
    · exact h.gl (h.g hg).1 e.1 e.2 hj rfl
    · cases e.2.symm.trans (h.l hj).1
  · by_cases z : k = g
    · subst z; rw [up_s]; exact hG
    · rw [up_n z]
      exact (h.g hk).ko hf (fun b hb y => gA.dis h.wf (h.g hk) (h.g hg) z hb (hS b y))
/-- the object's own words -/
theorem CB.pX (h : CB E σ A F LL n Es ed GA gd) (k : Nat) (v : Int32) : CB E (pI 6 k (A 0) v σ) A (up F k v) LL n Es ed GA gd := by
  have hf := Fo.pI (k := k) (v := v) h.wf h.kx (by decide)
  have no : ∀ {b k : Nat}, sK σ b = some k → k ≠ 6 → ¬ b = A 0 := fun hb hk' => kne hb h.kx hk'
  refine ⟨hf.wf, ?_, fun j hj => (h.l hj).ko hf (no (h.l hj).1 (by decide)), fun i hi => (h.e hi).ko hf (no (h.ke hi) (by decide)), fun g hg => (h.g hg).ko hf (fun b hb => ?_)⟩
  · obtain ⟨⟨x1, xF⟩, x2, c, hc⟩ := h.rt
    refine ⟨⟨x1, fun j => ?_⟩, x2, c, hc.ko hf (no hc.1 (by decide))⟩
    by_cases z : j = k
    · rw [z, gI_s, up_s]
    · rw [gI_n z, up_n z]; exact xF j
  · rcases (h.g hg).parts hb with e | e | e
    · exact no e.2 (by decide)
    · exact no e.2 (by decide)
    · exact no e.2 (by decide)
/-- the row maker -/
theorem CB.rm (h : CB E σ A F LL n Es ed GA gd) {c : List Nat} (hf : Fo E σ τ (fun b => b = A 7)) (hc : isM τ (A 7) (A 8) c) : CB E τ A F LL n Es ed GA gd := by
  have no : ∀ {b k : Nat}, sK σ b = some k → k ≠ 4 → ¬ b = A 7 := fun hb hk' => kne hb h.km hk'
  have hr : Rt τ A F := by
    obtain ⟨⟨⟨x1, x2, x3, x4, x5, x6, x7⟩, xF⟩, ⟨a1, a2, ⟨sa, a3⟩, ⟨ua, a4⟩⟩, -⟩ := h.rt
    obtain ⟨dx, -⟩ := hf.2.2 _ 6 x1 (by omega) (no h.kx (by decide))
    obtain ⟨da, du⟩ := hf.2.2 _ 1 a1 (by omega) (no h.ka (by decide))
    refine ⟨⟨⟨hf.k x1, ?_, ?_, ?_, ?_, ?_, ?_⟩, fun k => by rw [dx.2.1]; exact xF k⟩, ⟨hf.k a1, ?_, ⟨sa, ?_⟩, ⟨ua, ?_⟩⟩, c, hc⟩
    · rw [dx.2.2.1]; exact x2
    · rw [dx.2.2.1]; exact x3
    · rw [dx.2.2.1]; exact x4
    · rw [dx.2.2.1]; exact x5
    · rw [dx.2.2.1]; exact x6
    · rw [dx.2.2.1]; exact x7
    · rw [da.2.2.1]; exact a2
    · exact ⟨by rw [da.2.2.1]; exact a3.1, hf.k a3.2.1, by rw [(du 1 sa 100 a3.1 a3.2.1 (Nat.le_refl _)).1]; exact a3.2.2⟩
    · exact ⟨by rw [da.2.2.1]; exact a4.1, hf.k a4.2.1, by rw [(du 2 ua 100 a4.1 a4.2.1 (Nat.le_refl _)).1]; exact a4.2.2⟩
  refine ⟨hf.wf, hr, fun j hj => (h.l hj).ko hf (no (h.l hj).1 (by decide)), fun i hi => (h.e hi).ko hf (no (h.ke hi) (by decide)), fun g hg => (h.g hg).ko hf (fun b hb => ?_)⟩
  rcases (h.g hg).parts hb with e | e | e
  · exact no e.2 (by decide)
  · exact no e.2 (by decide)
  · exact no e.2 (by decide)
end CBS
