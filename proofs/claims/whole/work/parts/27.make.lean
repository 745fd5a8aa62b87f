/-! the makings: arrays, lists, objects into fields -/
def Un (σ : PS) (o : Nat) : Prop := ∀ c k a, sK σ a = some c → sR σ c k a ≠ some o
/-- what putting a new thing d of a's field k leaves -/
def Nf (E : PE) (σ τ : PS) (c k a d : Nat) : Prop := Wf E τ ∧ Fr σ τ (fun b => b = a) ∧ sK τ a = some c ∧ sR τ c k a = some d ∧ sN σ ≤ d ∧ (∀ k', k' ≠ k → sR τ c k' a = sR σ c k' a) ∧ (∀ k', sI τ c k' a = sI σ c k' a) ∧ (∀ o q, sK σ o = some q → Un σ o → Un τ o)
theorem Nf.put {E : PE} {σ τ : PS} {c k a d : Nat} (hk : sK σ a = some c) (hw : Wf E σ) (hwτ : Wf E τ) (hf : Fr σ τ (fun _ => False)) (ha : sK τ a = some c) (hd : sN σ ≤ d) (h : Wf E (pR c k a (some d) τ)) (hu : ∀ o q, sK σ o = some q → Un σ o → Un τ o) : Nf E σ (pR c k a (some d) τ) c k a d := by
  have dq := hf.2.2.2.2 a (hw.lt hk) (fun z => z)
  refine ⟨h, hf.tr Fr.pR (fun _ _ z => z.elim) (fun _ _ z => z), ha, by rw [sR_pR, if_pos ⟨rfl, rfl, rfl⟩], hd, fun k' hk' => ?_, fun k' => ?_, fun o oq ho hU => ?_⟩
  · rw [sR_pR, if_neg (fun z => hk' z.2.1)]; exact dq.2.2.1 c k'
  · exact dq.2.1 c k'
  · intro c' k' a' e1 e2
    have e1 : sK τ a' = some c' := e1
    rw [sR_pR] at e2
    by_cases z : c' = c ∧ k' = k ∧ a' = a
    · rw [if_pos z] at e2
      have := Option.some.inj e2
      have := hw.lt ho
      omega
    · rw [if_neg z] at e2
      exact hu o oq ho hU c' k' a' e1 e2
theorem Un.pN {σ : PS} {o kd n : Nat} (h : Un σ o) : Un (pN kd n σ) o := by
  intro c k a e1 e2
  rw [sK_pN] at e1
  rw [sR_pN] at e2
  by_cases z : a = sN σ
  · rw [if_pos z] at e2; cases e2
  · rw [if_neg z] at e1 e2; exact h c k a e1 e2
theorem wp_nArr {β : Type} {P : β → PS → Prop} {f : PS → Option (β × PS)} {E : PE} {σ : PS} {c k a n : Nat} {i : Int32} (hi : i = nI n) (hn : n ≤ 1000000) (hw : Wf E σ) (ha : sK σ a = some c) (hty : tyK c k = 100) (h1 : sN σ + 1 ≤ E.2.1) (h2 : sS σ + n ≤ E.2.2.1)
    (w : ∀ τ d, Nf E σ τ c k a d → sK τ d = some 100 ∧ sL τ d = n ∧ (∀ j, sA τ d j = 0) → Gr σ τ 1 n → wp (f τ) P) : wp (bd (oNa E 100 i σ) fun x s => (oPr c k (some a) x s).bind f) P := by
  have hne := hw.new ha
  have hk1 : sK (pN 100 n σ) a = some c := by rw [sK_pN, if_neg hne]; exact ha
  refine wp_na hi hn h1 h2 (wp_pr rfl hk1 (w _ (sN σ) (Nf.put ha hw (hw.pN _ _) Fr.pN hk1 (Nat.le_refl _) ((hw.pN 100 n).pR hk1 (Or.inr ⟨by rw [hty]; exact sK_new, hw.fresh 100 n⟩)) (fun o _ _ hU => hU.pN)) ⟨sK_new (kd := 100) (n := n), sL_new (kd := 100) (n := n), fun j => sA_new (kd := 100) (n := n) (j := j)⟩ (Gr.pN (kd := 100) (n := n))))
theorem wp_nList {β : Type} {P : β → PS → Prop} {f : PS → Option (β × PS)} {E : PE} {σ : PS} {c k a : Nat} (hw : Wf E σ) (ha : sK σ a = some c) (hty : tyK c k = 0) (h1 : sN σ + 1 ≤ E.2.1) (h2 : sS σ + 3 ≤ E.2.2.1)
    (w : ∀ τ d, Nf E σ τ c k a d → isL E τ d [] → Gr σ τ 1 3 → wp (f τ) P) : wp (bd (oNw E 0 3 σ) fun x s => (oK 0 x s).bind fun _ => bd (f_Jx4a65c_init_da8c8 E x s) fun _ s5 => (oPr c k (some a) x s5).bind f) P := by
  have hne := hw.new ha
  have hk1 : sK (pN 0 3 σ) a = some c := by rw [sK_pN, if_neg hne]; exact ha
  have hO : Ok E (pN 0 3 σ) := ⟨h1, h2⟩
  have w1 : Wf E (pR 0 1 (sN σ) (some E.2.2.2.1) (pI 0 0 (sN σ) 0 (pN 0 3 σ))) := ((hw.pN 0 3).same rfl rfl rfl : Wf E (pI 0 0 (sN σ) 0 (pN 0 3 σ))).pR sK_new (Or.inl rfl)
  have hdf := hw.2.2.1
  have uU : ∀ o, o < sN σ + 1 → o ≠ E.2.2.2.1 → Un (pN 0 3 σ) o → Un (pR 0 1 (sN σ) (some E.2.2.2.1) (pI 0 0 (sN σ) 0 (pN 0 3 σ))) o := by
    intro o _ hne2 hU c' k' a' e1 e2
    have e1 : sK (pN 0 3 σ) a' = some c' := e1
    rw [sR_pR] at e2
    by_cases z : c' = 0 ∧ k' = 1 ∧ a' = sN σ
    · rw [if_pos z] at e2; exact hne2 (Option.some.inj e2).symm
    · rw [if_neg z] at e2; exact hU c' k' a' e1 e2
  have un : Un (pR 0 1 (sN σ) (some E.2.2.2.1) (pI 0 0 (sN σ) 0 (pN 0 3 σ))) (sN σ) := uU (sN σ) (by omega) (by omega) (hw.fresh 0 3)
  have hfr : Fr σ (pR 0 1 (sN σ) (some E.2.2.2.1) (pI 0 0 (sN σ) 0 (pN 0 3 σ))) (fun _ => False) := by
    have f1 : Fr σ (pN 0 3 σ) (fun _ => False) := Fr.pN
    exact (f1.tr Fr.pI (Z := fun b => b = sN σ) (fun _ _ z => z.elim) (fun _ _ z => z)).tr Fr.pR (fun b hb z => by omega) (fun b hb z => by omega)
  refine wp_nw h1 h2 (wp_K rfl sK_new (wp_rd (sp_linit hO sK_new) (wp_pr rfl hk1 (w _ (sN σ) ⟨w1.pR hk1 (Or.inr ⟨by rw [hty]; exact sK_new, un⟩), ?_⟩ ?_ ⟨Nat.le_succ _, Nat.le_add_right _ _, Nat.le_refl _, Nat.le_refl _⟩))))
  · refine ⟨hfr.tr Fr.pR (fun _ _ z => z.elim) (fun _ _ z => z), hk1, by rw [sR_pR, if_pos ⟨rfl, rfl, rfl⟩], Nat.le_refl _, fun k' hk' => ?_, fun k' => ?_, fun o oq ho hU => ?_⟩
    · rw [sR_pR, if_neg (fun z => hk' z.2.1)]
      exact (hfr.2.2.2.2 a (hw.lt ha) (fun z => z)).2.2.1 c k'
    · exact (hfr.2.2.2.2 a (hw.lt ha) (fun z => z)).2.1 c k'
    · intro c' k' a' e1 e2
      have e1 : sK (pN 0 3 σ) a' = some c' := e1
      rw [sR_pR] at e2
      by_cases z : c' = c ∧ k' = k ∧ a' = a
      · rw [if_pos z] at e2
        have := Option.some.inj e2
        have := hw.lt ho
        omega
      · rw [if_neg z, sR_pR] at e2
        by_cases z2 : c' = 0 ∧ k' = 1 ∧ a' = sN σ
        · rw [if_pos z2] at e2
          have e3 := Option.some.inj e2
          subst e3
          exact hw.nd ho rfl
        · rw [if_neg z2] at e2
          exact hU.pN c' k' a' e1 e2
  · have g := isL.new (E := E) (σ := pN 0 3 σ) (a := sN σ) sK_new sI_new
    refine g.kept w1 (Fr.pR (ci := c) (k := k) (a := a) (v := some (sN σ))) (fun z => hne z.symm) (fun d e1 e2 z => ?_)
    have z : d = a := z
    subst z
    rw [show sK (pR 0 1 (sN σ) (some E.2.2.2.1) (pI 0 0 (sN σ) 0 (pN 0 3 σ))) d = some c from hk1] at e2
    cases e2
    have e1 : (if _ then some E.2.2.2.1 else _) = some d := e1
    rw [if_pos ⟨rfl, rfl, rfl⟩] at e1
    exact hw.nd ha (Option.some.inj e1).symm
/-- a new object into a field: what its making leaves -/
def Nx (E : PE) (σ τ : PS) (o : Nat) : Prop := Wf E τ ∧ Fr σ τ (fun b => b = o) ∧ Un τ o ∧ (∀ o' q, o' ≠ o → sK σ o' = some q → Un σ o' → Un τ o')
theorem Nf.nx {E : PE} {σ τ : PS} {c k a d q : Nat} (h : Nf E σ τ c k a d) (ha : sK σ a = some q) (hu : Un σ a) : Nx E σ τ a := ⟨h.1, h.2.1, h.2.2.2.2.2.2.2 a q ha hu, fun o' q' _ hq hU => h.2.2.2.2.2.2.2 o' q' hq hU⟩
theorem Nx.tr {E : PE} {σ τ ρ : PS} {c k a d : Nat} (h : Nx E σ τ a) (hw : Wf E σ) (ha : sK σ a = some c) (g : Nf E τ ρ c k a d) : Nx E σ ρ a :=
  ⟨g.1, h.2.1.tr g.2.1 (fun _ _ z => z) (fun _ _ z => z), g.2.2.2.2.2.2.2 a c (h.2.1.k hw ha) h.2.2.1, fun o' q' hne hq hU => g.2.2.2.2.2.2.2 o' q' (h.2.1.k hw hq) (h.2.2.2 o' q' hne hq hU)⟩
theorem Nx.pI {E : PE} {σ τ : PS} {c k a : Nat} {v : Int32} (h : Nx E σ τ a) : Nx E σ (pI c k a v τ) a :=
  ⟨h.1.same rfl rfl rfl, h.2.1.tr Fr.pI (fun _ _ z => z) (fun _ _ z => z), h.2.2.1, h.2.2.2⟩
/-- an object is made and comes into a's field k: from the run of its own making -/
theorem wp_nObj {β : Type} {P : β → PS → Prop} {f : PS → Option (β × PS)} {E : PE} {σ : PS} {c k a ci n1 n2 s2 : Nat} {I : Option Nat → PS → Option (Unit × PS)} {Q : PS → Prop} (hw : Wf E σ) (ha : sK σ a = some c) (hty : tyK c k = ci) (h1 : sN σ + (1 + n2) ≤ E.2.1) (h2 : sS σ + (n1 + s2) ≤ E.2.2.1)
    (hi : wp (I (some (sN σ)) (pN ci n1 σ)) (fun _ τ => Nx E (pN ci n1 σ) τ (sN σ) ∧ Gr (pN ci n1 σ) τ n2 s2 ∧ Q τ))
    (w : ∀ τ, Nx E (pN ci n1 σ) τ (sN σ) → Q τ → Nf E σ (pR c k a (some (sN σ)) τ) c k a (sN σ) → Gr σ (pR c k a (some (sN σ)) τ) (1 + n2) (n1 + s2) → wp (f (pR c k a (some (sN σ)) τ)) P) :
    wp (bd (oNw E ci n1 σ) fun x s => (oK ci x s).bind fun _ => bd (I x s) fun _ s5 => (oPr c k (some a) x s5).bind f) P := by
  have hne := hw.new ha
  have hk1 : sK (pN ci n1 σ) a = some c := by rw [sK_pN, if_neg hne]; exact ha
  refine wp_nw (by omega) (by omega) (wp_K rfl sK_new (wp_bd hi ?_))
  rintro _ τ ⟨hx, hg, hq⟩
  have hw1 := hw.pN ci n1
  have ha2 : sK τ a = some c := hx.2.1.k hw1 hk1
  have hfr : Fr σ τ (fun _ => False) := (Fr.pN (X := fun _ => False)).tr hx.2.1 (fun _ _ z => z) (fun b hb z => by omega)
  refine wp_pr rfl ha2 (w τ hx hq (Nf.put ha hw hx.1 hfr ha2 (Nat.le_refl _) (hx.1.pR ha2 (Or.inr ⟨by rw [hty]; exact hx.2.1.k hw1 sK_new, hx.2.2.1⟩)) (fun o q hq2 hU => ?_)) (Gr.pN.tr hg))
  have hlt := hw.lt hq2
  exact hx.2.2.2 o q (by omega) (by rw [sK_pN, if_neg (by omega)]; exact hq2) hU.pN
