/-! the model packs -/
/-- the kinds of the groups: below k, then k -/
def KS (k : Nat) (gs : List Grp) : Prop := ∃ a b, gs.map (·.1) = a ++ List.replicate b k ∧ ∀ x ∈ a, x < k
theorem KS.nil {k : Nat} : KS k [] := ⟨[], 0, rfl, (fun _ h => nomatch h)⟩
theorem KS.up {k : Nat} {gs : List Grp} (h : KS k gs) : KS (k + 1) gs := by
  obtain ⟨a, b, h1, h2⟩ := h
  refine ⟨gs.map (·.1), 0, (List.append_nil _).symm, fun x hx => ?_⟩
  rw [h1] at hx
  rcases List.mem_append.mp hx with w | w
  · have := h2 x w; omega
  · have := (List.mem_replicate.mp w).2; omega
theorem kd_at {gs : List Grp} {i : Nat} (h : i < gs.length) : (gs.getD i dG).1 = (gs.map (·.1)).getD i 0 := by
  rw [List.getD_eq_getElem?_getD, List.getD_eq_getElem?_getD, List.getElem?_map, List.getElem?_eq_getElem h]
  rfl
theorem KS.last {k l : Nat} {gs : List Grp} (h : KS k gs) (hl : gs.length = l + 1) : lastG k gs = if (gs.getD l dG).1 = k then some l else none := by
  unfold lastG
  rw [hl]
  by_cases z : (gs.getD l dG).1 = k
  · rw [if_pos z]; exact if_pos z
  · rw [if_neg z]
    have e : lastI (fun i => (gs.getD i dG).1 = k) (l + 1) = lastI (fun i => (gs.getD i dG).1 = k) l := if_neg z
    rw [e]
    cases ho : lastI (fun i => (gs.getD i dG).1 = k) l with
    | none => rfl
    | some j =>
      obtain ⟨p1, p2, -⟩ := lastI_some _ _ _ ho
      obtain ⟨a, b, h1, h2⟩ := h
      have p1 : (gs.getD j dG).1 = k := p1
      rw [kd_at (by omega), h1] at p1 z
      have hlen := congrArg List.length h1
      rw [List.length_map, List.length_append, List.length_replicate, hl] at hlen
      cases b with
      | zero =>
        have hj : j < a.length := by omega
        rw [getD_app1 hj, getD_at hj] at p1
        have := h2 _ (List.getElem_mem hj)
        omega
      | succ b =>
        rw [getD_app2 (by omega), getD_rep (by omega)] at z
        exact absurd rfl z
theorem ins_end {α : Type} (L : List α) (x : α) : ins L L.length x = L ++ [x] := by
  unfold ins
  rw [List.take_length, List.drop_length]
theorem upTo_all {gs : List Grp} {l : Nat} (h : gs.length = l + 1) : upTo gs l = (flat gs).length := by
  unfold upTo
  rw [List.take_of_length_le (by omega)]
/-- at the end of the last group -/
theorem putE_fit {bs : Nat → List Nat} {bd k e l : Nat} {gs : List Grp} {q : Grp} (h : KS k gs) (hl : gs.length = l + 1) (hq : gs[l]? = some q) (hk : q.1 = k) (hf : (contG bs gs l).length + (bs e).length ≤ bd) : (putE bs bd k e gs).1 = gs.set l (q.1, q.2.1 ++ [e], q.2.2) ∧ flat (gs.set l (q.1, q.2.1 ++ [e], q.2.2)) = flat gs ++ [e] ∧ gatF 0 (gs.set l (q.1, q.2.1 ++ [e], q.2.2)) = gatF 0 gs ++ [l] ∧ KS k (gs.set l (q.1, q.2.1 ++ [e], q.2.2)) := by
  have eq : gs.getD l dG = q := getD_of hq
  have e1 := h.last hl
  rw [eq, if_pos hk] at e1
  obtain ⟨f1, f2⟩ := fit_flat (e := e) hq
  have eg : (gatF 0 gs).length = (flat gs).length := gatF_len _ _
  refine ⟨?_, ?_, ?_, ?_⟩
  · unfold putE
    rw [e1]
    show (if (contG bs gs l).length + (bs e).length ≤ bd then (gs.set l ((gs.getD l dG).1, (gs.getD l dG).2.1 ++ [e], (gs.getD l dG).2.2), l) else (ins gs (l + 1) (k, [e], 0), l + 1)).1 = _
    rw [if_pos hf, eq]
  · rw [f1, upTo_all hl, ins_end]
  · rw [f2, upTo_all hl, ← eg, ins_end]
  · obtain ⟨a, b, h1, h2⟩ := h
    refine ⟨a, b, ?_, h2⟩
    rw [← h1, List.map_set]
    refine List.ext_getElem? (fun i => ?_)
    by_cases z : l = i
    · subst z
      rw [List.getElem?_set, if_pos rfl, if_pos (by rw [List.length_map]; omega), List.getElem?_map, hq]
      rfl
    · rw [List.getElem?_set_ne z]
/-- a new group at the end -/
theorem putE_new {bs : Nat → List Nat} {bd k e : Nat} {gs : List Grp} (h : KS k gs) (hf : ∀ l, gs.length = l + 1 → (gs.getD l dG).1 = k → ¬ (contG bs gs l).length + (bs e).length ≤ bd) : (putE bs bd k e gs).1 = gs ++ [(k, [e], 0)] ∧ flat (gs ++ [(k, [e], 0)]) = flat gs ++ [e] ∧ gatF 0 (gs ++ [(k, [e], 0)]) = gatF 0 gs ++ [gs.length] ∧ KS k (gs ++ [(k, [e], 0)]) := by
  refine ⟨?_, ?_, ?_, ?_⟩
  · cases hl : gs.length with
    | zero =>
      have : gs = [] := List.eq_nil_of_length_eq_zero hl
      rw [this]
      rfl
    | succ l =>
      have e1 := h.last hl
      unfold putE
      by_cases z : (gs.getD l dG).1 = k
      · rw [if_pos z] at e1
        rw [e1]
        show (if (contG bs gs l).length + (bs e).length ≤ bd then (gs.set l ((gs.getD l dG).1, (gs.getD l dG).2.1 ++ [e], (gs.getD l dG).2.2), l) else (ins gs (l + 1) (k, [e], 0), l + 1)).1 = _
        rw [if_neg (hf l hl z), ← hl]
        exact ins_end _ _
      · rw [if_neg z] at e1
        rw [e1]
        exact ins_end _ _
  · rw [flat_app]; rfl
  · rw [gatF_app, Nat.zero_add]; rfl
  · obtain ⟨a, b, h1, h2⟩ := h
    refine ⟨a, b + 1, ?_, h2⟩
    rw [List.map_append, h1, List.replicate_succ', List.append_assoc]
    rfl
section MBS
variable {E : PE} {σ0 σ : PS} {m : Nat} {Ma : Nat → Nat} {I : Nat → Int32} {X : Nat → Nat → Int32} {β : Type} {n : Nat} {kd : Nat → Nat} {bs bo : Nat → List Nat} {S : Option PK}
/-! twins -/
theorem twF_eq {i j : Nat} (h1 : j ≤ i) (h2 : kd i = kd j ∧ bs i = bs j) (h3 : ∀ t, t < j → ¬ (kd i = kd t ∧ bs i = bs t)) : twF kd bs i = j := by
  obtain ⟨a1, a2, a3, a4⟩ := twF_le (kd := kd) (bs := bs) i
  by_cases z : twF kd bs i < j
  · exact absurd ⟨a2, a3⟩ (h3 _ z)
  · by_cases y : j < twF kd bs i
    · exact absurd h2 (a4 j y)
    · omega
theorem sp_p55 {i : Nat} {v1 v2 : Int32} {K : Option Nat → Int32 → Int32 → Int32 → PS → Option (Int32 × PS)} {P : Int32 → PS → Prop} (hE : 1000 ≤ E.1) (hO : Ok E σ0) (hA : AE n kd bs) (hi : i < n) (hb : MB E σ0 σ m Ma I X) (hv : EV n kd bs I X)
    (kk : ∀ τ, MB E σ0 τ m Ma I (up X 6 (up (X 6) i (nI (twF kd bs i)))) → wp (K (some m) v1 v2 (nI (i + 1)) τ) P) : ∀ (c f j : Nat), i = j + c → c < f → (∀ t, t < j → ¬ (kd i = kd t ∧ bs i = bs t)) → wp (f_X6_pack_L55 E K f (some m) v1 v2 (nI i) (nI j) σ) P := by
  have hn : n ≤ 30 := hA.1
  intro c
  induction c with
  | zero =>
    intro f j hc hf hno
    obtain ⟨f, rfl⟩ : ∃ z, f = z + 1 := ⟨f - 1, by omega⟩
    have hji : j = i := by omega
    subst hji
    rw [f_X6_pack_L55]
    refine wm_K hb (wp_rd (sp_isSame hE hO hA hi hi hb hv) ?_)
    rw [if_pos (show kd j = kd j ∧ bs j = bs j from ⟨rfl, rfl⟩)]
    refine wp_f ne01 (wm_gr hb (by decide) (wm_as hb (by decide) rfl (by show j < 30; omega) (fun s1 q1 => ?_)))
    have e := twF_eq (kd := kd) (bs := bs) (Nat.le_refl j) ⟨rfl, rfl⟩ hno
    rw [nI_1]
    exact kk s1 (by rw [e]; exact q1)
  | succ c ih =>
    intro f j hc hf hno
    obtain ⟨f, rfl⟩ : ∃ z, f = z + 1 := ⟨f - 1, by omega⟩
    rw [f_X6_pack_L55]
    refine wm_K hb (wp_rd (sp_isSame hE hO hA (by omega) hi hb hv) ?_)
    by_cases z : kd j = kd i ∧ bs j = bs i
    · rw [if_pos z]
      refine wp_f ne01 (wm_gr hb (by decide) (wm_as hb (by decide) rfl (by show i < 30; omega) (fun s1 q1 => ?_)))
      have e := twF_eq (kd := kd) (bs := bs) (show j ≤ i by omega) ⟨z.1.symm, z.2.symm⟩ hno
      rw [nI_1]
      exact kk s1 (by rw [e]; exact q1)
    · rw [if_neg z]
      refine wp_t rfl ?_
      rw [nI_1]
      refine ih f (j + 1) (by omega) (by omega) (fun t ht => ?_)
      by_cases y : t = j
      · rw [y]; exact fun w => z ⟨w.1.symm, w.2.symm⟩
      · exact hno t (by omega)
theorem sp_p44 {v1 v2 : Int32} {P : Int32 → PS → Prop} (hE : 1000 ≤ E.1) (hO : Ok E σ0) (hA : AE n kd bs) : ∀ (c f i : Nat) (σ : PS) (X : Nat → Nat → Int32), n = i + c → c < f → MB E σ0 σ m Ma I X → EV n kd bs I X → (∀ t, t < i → X 6 t = nI (twF kd bs t)) →
    (∀ τ X', MB E σ0 τ m Ma I X' → Xk [6] X X' → (∀ t, t < n → X' 6 t = nI (twF kd bs t)) → wp (f_X6_pack_L87 E E.1 (some m) v1 v2 0 τ) P) →
    wp (f_X6_pack_L44 E f (some m) v1 v2 (nI i) σ) P
  | 0, f, i, σ, X, hc, hf, hb, hv, h6, kk => by
    obtain ⟨f, rfl⟩ : ∃ z, f = z + 1 := ⟨f - 1, by omega⟩
    have hn : n ≤ 30 := hA.1
    rw [f_X6_pack_L44]
    refine wm_gi hb ?_
    rw [hv.1]
    exact wp_t (nI_le (by omega) (by omega)) (kk σ X hb Xk.rf (fun t ht => h6 t (by omega)))
  | c + 1, f, i, σ, X, hc, hf, hb, hv, h6, kk => by
    obtain ⟨f, rfl⟩ : ∃ z, f = z + 1 := ⟨f - 1, by omega⟩
    have hn : n ≤ 30 := hA.1
    rw [f_X6_pack_L44]
    refine wm_gi hb ?_
    rw [hv.1]
    refine wp_f (nI_ge (by omega) (by omega)) (sp_p55 hE hO hA (show i < n by omega) hb hv (fun τ q1 => ?_) i E.1 0 (by omega) (by omega) (fun t ht => absurd ht (Nat.not_lt_zero _)))
    have xk : Xk [6] X (up X 6 (up (X 6) i (nI (twF kd bs i)))) := Xk.u (by decide)
    refine sp_p44 hE hO hA c f (i + 1) τ _ (by omega) (by omega) q1 (hv.kx xk (by decide) (by decide) (by decide)) (fun t ht => ?_) (fun ρ X' t1 t2 t3 => kk ρ X' t1 (xk.tr t2) t3)
    rw [up_s]
    by_cases z : t = i
    · rw [z, up_s]
    · rw [up_n z]; exact h6 t (by omega)
/-! the row of a kind -/
theorem sp_p101 {tw : Nat → Nat} {k : Nat} {v1 v2 : Int32} {K : Option Nat → Int32 → Int32 → Int32 → PS → Option (Int32 × PS)} {P : Int32 → PS → Prop} (hA : AE n kd bs) (hk : k < 100) (htw : ∀ t, t < n → tw t < 1000) : ∀ (c f i : Nat) (σ : PS) (I : Nat → Int32) (X : Nat → Nat → Int32), n = i + c → c < f → MB E σ0 σ m Ma I X → EV n kd bs I X → (∀ t, t < n → X 6 t = nI (tw t)) → RW ((List.range i).filter (fun e => kd e = k ∧ tw e = e)) I X →
    (∀ f τ I' X', MB E σ0 τ m Ma I' X' → (∀ t, t ≠ 19 → I' t = I t) → Xk [18] X X' → RW (keptK n kd tw k) I' X' → wp (f_X6_pack_L101 E K (f + 1) (some m) v1 v2 (nI k) (nI n) τ) P) →
    wp (f_X6_pack_L101 E K f (some m) v1 v2 (nI k) (nI i) σ) P
  | 0, f, i, σ, I, X, hc, hf, hb, hv, h6, hr, kk => by
    obtain ⟨f, rfl⟩ : ∃ z, f = z + 1 := ⟨f - 1, by omega⟩
    have : i = n := by omega
    subst this
    exact kk f σ I X hb (fun _ _ => rfl) Xk.rf hr
  | c + 1, f, i, σ, I, X, hc, hf, hb, hv, h6, hr, kk => by
    obtain ⟨f, rfl⟩ : ∃ z, f = z + 1 := ⟨f - 1, by omega⟩
    have hn : n ≤ 30 := hA.1
    have hin : i < n := by omega
    obtain ⟨y1, -, -⟩ := hv.2 i hin
    have hkd := (hA.2 i hin).1
    have hti := htw i hin
    have hlen : ((List.range i).filter (fun e => kd e = k ∧ tw e = e)).length ≤ i := by
      have := List.length_filter_le (fun e => decide (kd e = k ∧ tw e = e)) (List.range i)
      rw [List.length_range] at this
      exact this
    have hno : ¬ (kd i = k ∧ tw i = i) → wp (f_X6_pack_L101 E K f (some m) v1 v2 (nI k) (nI (i + 1)) σ) P := fun z => by
      have e : (List.range (i + 1)).filter (fun e => decide (kd e = k ∧ tw e = e)) = (List.range i).filter (fun e => decide (kd e = k ∧ tw e = e)) := by
        rw [List.range_succ, List.filter_append, List.filter_cons_of_neg (by simpa using z), List.filter_nil, List.append_nil]
      exact sp_p101 hA hk htw c f (i + 1) σ I X (by omega) (by omega) hb hv h6 (by rw [e]; exact hr) kk
    rw [f_X6_pack_L101]
    refine wm_gi hb ?_
    rw [hv.1]
    refine wp_f (nI_ge (by omega) (by omega)) (wm_gr hb (by decide) (wm_al hb (by decide) rfl (by show i < 30; omega) ?_))
    rw [y1]
    unfold f_X6_pack_B154
    rw [nI_1]
    by_cases z : kd i = k
    · refine wp_t (congrArg nI z) (wm_gr hb (by decide) (wm_al hb (by decide) rfl (by show i < 30; omega) ?_))
      rw [h6 i hin]
      by_cases y : tw i = i
      · refine wp_t (congrArg nI y) (wm_gr hb (by decide) (wm_gi hb (wm_as hb (by decide) hr.1 (by show _ < 30; omega) (fun s1 q1 => wm_gi q1 (wm_pi q1 (fun s2 q2 => ?_))))))
        rw [hr.1, nI_1] at q2
        have e : (List.range (i + 1)).filter (fun e => decide (kd e = k ∧ tw e = e)) = (List.range i).filter (fun e => decide (kd e = k ∧ tw e = e)) ++ [i] := by
          rw [List.range_succ, List.filter_append, List.filter_cons_of_pos (by simpa using ⟨z, y⟩), List.filter_nil]
        refine sp_p101 hA hk htw c f (i + 1) s2 _ _ (by omega) (by omega) q2 (hv.ko (up_n (by decide)) (up_n (by decide)) (up_n (by decide)) (up_n (by decide))) (fun t ht => by rw [up_n (by decide)]; exact h6 t ht) ⟨?_, fun t ht => ?_⟩ (fun f' τ I' X' t1 t2 t3 t4 => kk f' τ I' X' t1 (fun t ht => by rw [t2 t ht, up_n ht]) ((Xk.u (by decide)).tr t3) t4)
        · rw [up_s, e, List.length_append]; rfl
        · rw [e, List.length_append] at ht
          have ht : t < ((List.range i).filter (fun e => decide (kd e = k ∧ tw e = e))).length + 1 := ht
          rw [up_s, e]
          by_cases w : t = ((List.range i).filter (fun e => decide (kd e = k ∧ tw e = e))).length
          · rw [w, up_s, getD_app2 (Nat.le_refl _), Nat.sub_self]; rfl
          · rw [up_n w, getD_app1 (by omega)]; exact hr.2 t (by omega)
      · exact wp_f (fun w => y ((nI_eq (by omega) (by omega)).mp w)) (hno (fun w => y w.2))
    · exact wp_f (fun w => z ((nI_eq (by omega) (by omega)).mp w)) (hno (fun w => z w.1))
theorem kept_pw (n : Nat) (kd tw : Nat → Nat) (k : Nat) : (keptK n kd tw k).Pairwise (· < ·) := List.Pairwise.filter _ List.pairwise_lt_range
/-- and its order -/
theorem sp_p101E {L : List Nat} {k way f : Nat} {v1 : Int32} {K : Option Nat → Int32 → Int32 → Int32 → PS → Option (Int32 × PS)} {P : Int32 → PS → Prop} (hE : 10000 ≤ E.1) (hO : Ok E σ0) (hA : AE n kd bs) (hway : way ≤ 2) (hs : L.Pairwise (· < ·)) (hL : ∀ x ∈ L, x < n) (hl : L.length ≤ 30) (hb : MB E σ0 σ m Ma I X) (hv : EV n kd bs I X) (hr : RW L I X)
    (kk : ∀ τ X', MB E σ0 τ m Ma I X' → Xk [15, 16, 18, 20] X X' → RW (arrF way (fun x y => distN (bs x) (bs y)) L) I X' → wp (f_X6_pack_L196 E K E.1 (some m) v1 (nI way) (nI k) 0 τ) P) :
    wp (f_X6_pack_L101 E K (f + 1) (some m) v1 (nI way) (nI k) (nI n) σ) P := by
  have chain : ¬ (way = 2 ∧ L.length ≤ 7 ∧ 1 ≤ L.length) → wp (f_X6_pack_B185 E K (some m) v1 (nI way) (nI k) σ) P := by
    intro hno
    unfold f_X6_pack_B185 f_X6_pack_B193
    by_cases z : way = 0
    · subst z
      refine wp_t (Int32.le_refl _) (kk σ X hb Xk.rf ?_)
      exact hr
    · refine wp_f (show ¬ nI way ≤ 0 from nI_nle (by omega) (by omega)) (wm_K hb (wp_bd (sp_chain6 (by omega) hO hA hs hL hl hb hr hv) ?_))
      rintro _ s ⟨X', u1, u2, u3⟩
      refine kk s X' u1 (u2.wk (by decide)) ?_
      unfold arrF
      by_cases y : way = 2 ∧ L.length ≤ 7
      · have e0 : L.length = 0 := by
          by_cases w : 1 ≤ L.length
          · exact absurd ⟨y.1, y.2, w⟩ hno
          · omega
        have eL : L = [] := List.eq_nil_of_length_eq_zero e0
        rw [if_pos y]
        rw [eL] at u3 ⊢
        exact u3
      · rw [if_neg y, if_neg z]
        exact u3
  rw [f_X6_pack_L101]
  refine wm_gi hb ?_
  rw [hv.1]
  refine wp_t (Int32.le_refl _) ?_
  by_cases z : way = 2
  · subst z
    refine wp_t rfl (wm_gi hb ?_)
    rw [hr.1]
    refine wp_rd (sp_isIn (hb.ok hO) _ 1 7) ?_
    by_cases y : 1 ≤ L.length ∧ L.length ≤ 7
    · have e : ¬ (nI L.length < 1 ∨ (7 : Int32) < nI L.length) := fun w => w.elim (show ¬ nI L.length < nI 1 from nI_nlt y.1 (by omega)) (show ¬ nI 7 < nI L.length from nI_nlt y.2 (by omega))
      rw [if_neg e]
      refine wp_f ne01 (wm_K hb (wp_bd (sp_best6 hE hO hA hs hL y.2 y.1 hb hr hv) ?_))
      rintro _ s ⟨X', u1, u2, u3⟩
      unfold f_X6_pack_B193
      refine kk s X' u1 u2 ?_
      unfold arrF
      rw [if_pos ⟨rfl, y.2⟩]
      exact u3
    · have e : nI L.length < 1 ∨ (7 : Int32) < nI L.length := by
        by_cases w : 1 ≤ L.length
        · exact Or.inr (show nI 7 < nI L.length from nI_lt (by omega) (by omega))
        · exact Or.inl (show nI L.length < nI 1 from nI_lt (by omega) (by omega))
      rw [if_pos e]
      exact wp_t rfl (chain (fun w => y ⟨w.2.2, w.2.1⟩))
  · exact wp_f (show ¬ nI way = nI 2 from fun w => z ((nI_eq (by omega) (by omega)).mp w)) (chain (fun w => z w.1))
/-! into the groups -/
theorem sp_p284 {F A : List Nat} {g e i : Nat} {K87 : Option Nat → Int32 → Int32 → Int32 → PS → Option (Int32 × PS)} {K : Option Nat → Int32 → Int32 → Int32 → Int32 → PS → Option (Int32 × PS)} {v1 v2 v3 : Int32} {P : Int32 → PS → Prop} (hF : F.length < 30) (hA : A.length = F.length) (hi : i < 30) (hb : MB E σ0 σ m Ma I X) (h9 : I 9 = nI F.length) (h10 : I 10 = nI (g + 1)) (h18 : X 18 i = nI e) (hx : ∀ k, k < F.length → X 7 k = nI (F.getD k 0) ∧ X 8 k = nI (A.getD k 0))
    (kk : ∀ τ X', MB E σ0 τ m Ma (up I 9 (nI (F.length + 1))) X' → Xk [7, 8] X X' → (∀ k, k < F.length + 1 → X' 7 k = nI ((F ++ [e]).getD k 0) ∧ X' 8 k = nI ((A ++ [g]).getD k 0)) → wp (K (some m) v1 v2 v3 (nI (i + 1)) τ) P) :
    wp (f_X6_pack_B284 E K87 K (some m) v1 v2 v3 (nI i) σ) P := by
  unfold f_X6_pack_B284
  refine wm_gr hb (by decide) (wm_gi hb (wm_gr hb (by decide) (wm_al hb (by decide) rfl (by show i < 30; omega) (wm_as hb (by decide) h9 (by show F.length < 30; omega) (fun s1 q1 => wm_gr q1 (by decide) (wm_gi q1 (wm_gi q1 (wm_as q1 (by decide) h9 (by show F.length < 30; omega) (fun s2 q2 => wm_gi q2 (wm_pi q2 (fun s3 q3 => ?_)))))))))))
  rw [h9, nI_1, h10, nI_pred, h18, up_n (show (8 : Nat) ≠ 7 by decide)] at q3
  rw [nI_1]
  refine kk s3 _ q3 ((Xk.u (by decide)).tr (Xk.u (by decide))) (fun k hk => ?_)
  rw [up_n (show (7 : Nat) ≠ 8 by decide), up_s, up_s]
  by_cases z : k = F.length
  · rw [z, up_s, up_s, getD_app2 (Nat.le_refl _), Nat.sub_self, ← hA, getD_app2 (Nat.le_refl _), Nat.sub_self]
    exact ⟨rfl, rfl⟩
  · rw [up_n z, up_n z, getD_app1 (by omega), getD_app1 (by omega)]
    exact hx k (by omega)
theorem sp_p196 {L : List Nat} {k bd : Nat} {v2 : Int32} {K : Option Nat → Int32 → Int32 → Int32 → PS → Option (Int32 × PS)} {P : Int32 → PS → Prop} (hE : 1000 ≤ E.1) (hO : Ok E σ0) (hA : AE n kd bs) (hbd : bd ≤ 400) (hk : k < 100) (hL30 : L.length ≤ 30) (hLn : L.Nodup) (hLe : ∀ e ∈ L, e < n ∧ kd e = k) : ∀ (c f i : Nat) (σ : PS) (I : Nat → Int32) (X : Nat → Nat → Int32) (gs : List Grp) (D : List Nat), L.length = i + c → c < f → MB E σ0 σ m Ma I X → EV n kd bs I X → RW L I X → GV gs I X → KS k gs → PV n kd bs gs D → (∀ e ∈ L.drop i, e ∉ D) →
    (∀ τ I' X', MB E σ0 τ m Ma I' X' → (∀ t, t ≠ 9 → t ≠ 10 → I' t = I t) → Xk [7, 8, 11, 12] X X' → GV (putAll bs bd k gs (L.drop i)) I' X' → KS k (putAll bs bd k gs (L.drop i)) → wp (K (some m) (nI bd) v2 (nI (k + 1)) τ) P) →
    wp (f_X6_pack_L196 E K f (some m) (nI bd) v2 (nI k) (nI i) σ) P
  | 0, f, i, σ, I, X, gs, D, hc, hf, hb, hv, hr, hg, hks, hp, hd, kk => by
    obtain ⟨f, rfl⟩ : ∃ z, f = z + 1 := ⟨f - 1, by omega⟩
    rw [f_X6_pack_L196]
    refine wm_gi hb ?_
    rw [hr.1, nI_1]
    rw [List.drop_eq_nil_of_le (by omega)] at kk
    exact wp_t (nI_le (by omega) (by omega)) (kk σ I X hb (fun _ _ _ => rfl) Xk.rf hg hks)
  | c + 1, f, i, σ, I, X, gs, D, hc, hf, hb, hv, hr, hg, hks, hp, hd, kk => by
    obtain ⟨f, rfl⟩ : ∃ z, f = z + 1 := ⟨f - 1, by omega⟩
    have hn : n ≤ 30 := hA.1
    have hi : i < L.length := by omega
    have hdr := drop_cons (T := L) hi 0
    have heL : L.getD i 0 ∈ L := by rw [getD_at hi]; exact List.getElem_mem hi
    obtain ⟨hen, hek⟩ := hLe _ heL
    have hri := hr.2 i hi
    generalize hee : L.getD i 0 = e at *
    have heD : e ∉ D := hd e (by rw [hdr]; exact List.mem_cons_self ..)
    have hbe := (hA.2 e hen).2.1
    obtain ⟨p1, p2⟩ := hp.len
    have hfl : (flat gs).length = D.length := hp.1.length_eq
    have hDl : D.length + 1 ≤ n := nodup_len n (e :: D) (List.nodup_cons.mpr ⟨heD, hp.2.1⟩) (fun x hx => (List.mem_cons.mp hx).elim (fun w => w ▸ hen) (hp.2.2.1 x))
    have hgi := hp.gis hn (fun e he => (hA.2 e he).1)
    have hpv := hp.put hbd hen hbe heD
    rw [hek] at hpv
    have hnd : e ∉ L.drop (i + 1) := by
      have : (L.drop i).Nodup := hLn.sublist (List.drop_sublist ..)
      rw [hdr] at this
      exact (List.nodup_cons.mp this).1
    rw [hdr] at kk
    have next : ∀ τ I' X', MB E σ0 τ m Ma I' X' → (∀ t, t ≠ 9 → t ≠ 10 → I' t = I t) → Xk [7, 8, 11, 12] X X' → GV (putE bs bd k e gs).1 I' X' → KS k (putE bs bd k e gs).1 → wp (f_X6_pack_L196 E K f (some m) (nI bd) v2 (nI k) (nI (i + 1)) τ) P := fun τ I' X' t1 t2 t3 t4 t5 =>
      sp_p196 hE hO hA hbd hk hL30 hLn hLe c f (i + 1) τ I' X' _ (e :: D) (by omega) (by omega) t1 (hv.ko (t2 0 (by decide) (by decide)) (t3 1 (by decide)) (t3 2 (by decide)) (t3 3 (by decide))) ⟨by rw [t2 19 (by decide) (by decide)]; exact hr.1, fun t ht => by rw [t3 18 (by decide)]; exact hr.2 t ht⟩ t4 t5 hpv (fun x hx w => by
        rcases List.mem_cons.mp w with w | w
        · exact hnd (w ▸ hx)
        · exact hd x (by rw [hdr]; exact List.mem_cons_of_mem _ hx) w) (fun ρ I2 X2 w1 w2 w3 w4 w5 => kk ρ I2 X2 w1 (fun t h1 h2 => (w2 t h1 h2).trans (t2 t h1 h2)) (t3.tr w3) w4 w5)
    have new : (∀ l, gs.length = l + 1 → (gs.getD l dG).1 = k → ¬ (contG bs gs l).length + (bs e).length ≤ bd) → wp (f_X6_pack_B254 E K (f_X6_pack_L196 E K f) (some m) (nI bd) v2 (nI k) (nI i) σ) P := by
      intro hf
      obtain ⟨n1, n2, n3, n4⟩ := putE_new (e := e) hks hf
      unfold f_X6_pack_B254
      refine wm_gr hb (by decide) (wm_gi hb (wm_as hb (by decide) hg.2.1 (by show gs.length < 30; omega) (fun s1 q1 => wm_gr q1 (by decide) (wm_gi q1 (wm_as q1 (by decide) hg.2.1 (by show gs.length < 30; omega) (fun s2 q2 => wm_gi q2 (wm_pi q2 (fun s3 q3 => ?_))))))))
      rw [hg.2.1, nI_1, up_n (show (12 : Nat) ≠ 11 by decide)] at q3
      refine sp_p284 (F := flat gs) (A := gatF 0 gs) (g := gs.length) (e := e) (by omega) (gatF_len _ _) (by omega) q3 (by rw [up_n (by decide)]; exact hg.1) up_s (by rw [up_n (by decide), up_n (by decide)]; exact hri) (fun t ht => by rw [up_n (by decide), up_n (by decide), up_n (by decide), up_n (by decide)]; exact hg.2.2.1 t ht) (fun τ X' t1 t2 t3 => ?_)
      refine next τ _ X' t1 (fun t h1 h2 => by rw [up_n h1, up_n h2]) (((Xk.u (by decide)).tr (Xk.u (by decide))).tr (t2.wk (by decide))) ?_ (by rw [n1]; exact n4)
      rw [n1]
      refine ⟨?_, ?_, fun t ht => ?_, fun g hg' => ?_⟩
      · rw [up_s, n2, List.length_append]; rfl
      · rw [up_n (by decide), up_s, List.length_append]; rfl
      · rw [n2, List.length_append] at ht
        rw [n2, n3]
        exact t3 t ht
      · rw [List.length_append] at hg'
        have hg' : g < gs.length + 1 := hg'
        rw [t2 11 (by decide), t2 12 (by decide), up_n (show (11 : Nat) ≠ 12 by decide), up_s, up_s]
        by_cases z : g = gs.length
        · rw [z, up_s, up_s, getD_app2 (Nat.le_refl _), Nat.sub_self]
          exact ⟨rfl, rfl⟩
        · rw [up_n z, up_n z, getD_app1 (by omega)]
          exact hg.2.2.2 g (by omega)
    rw [f_X6_pack_L196]
    refine wm_gi hb ?_
    rw [hr.1]
    refine wp_f (nI_ge (by omega) (by omega)) (wm_gi hb ?_)
    rw [hg.2.1]
    cases hl : gs.length with
    | zero =>
      exact wp_t rfl (new (fun l hl' => by omega))
    | succ l =>
      obtain ⟨q, hq⟩ := at_of (L := gs) (i := l) (by omega)
      have eq : gs.getD l dG = q := getD_of hq
      have hqk : q.1 < 1000 := (hgi q (List.mem_of_getElem? hq)).1
      have hl2 : l < gs.length := by omega
      have hcl : (contG bs gs l).length ≤ 400 := by unfold contG; rw [eq]; exact (hp.2.2.2 q (List.mem_of_getElem? hq)).2.2
      refine wp_f (show ¬ nI (l + 1) = nI 0 from fun w => by have := (nI_eq (by omega) (by omega)).mp w; omega) (wm_gr hb (by decide) (wm_gi hb ?_))
      rw [hg.2.1, hl]
      refine wm_al hb (by decide) (nI_pred l) (by show l < 30; omega) ?_
      rw [(hg.2.2.2 l hl2).1, eq]
      by_cases z : q.1 = k
      · refine wp_t (congrArg nI z) (wm_gi hb ?_)
        rw [hg.2.1, hl, nI_pred]
        refine wm_K hb (wp_rd (sp_groupBytes hE hO hb hg hv hn (by omega) (fun x hx => hp.2.2.1 x (hp.1.mem_iff.mp hx)) (by omega) hl2) (wm_gr hb (by decide) (wm_gr hb (by decide) (wm_al hb (by decide) rfl (by show i < 30; omega) ?_))))
        rw [hri]
        refine wm_al hb (by decide) rfl (by show e < 30; omega) ?_
        rw [(hv.2 e hen).2.1, nI_add]
        by_cases y : (contG bs gs l).length + (bs e).length ≤ bd
        · obtain ⟨n1, n2, n3, n4⟩ := putE_fit (e := e) hks hl hq z y
          refine wp_t (nI_le y (by omega)) (sp_p284 (F := flat gs) (A := gatF 0 gs) (g := l) (e := e) (by omega) (gatF_len _ _) (by omega) hb hg.1 (by rw [hg.2.1, hl]) hri hg.2.2.1 (fun τ X' t1 t2 t3 => ?_))
          refine next τ _ X' t1 (fun t h1 h2 => up_n h1) (t2.wk (by decide)) ?_ (by rw [n1]; exact n4)
          rw [n1]
          refine ⟨?_, ?_, fun t ht => ?_, fun g hg' => ?_⟩
          · rw [up_s, n2, List.length_append]; rfl
          · rw [up_n (by decide), List.length_set]; exact hg.2.1
          · rw [n2, List.length_append] at ht
            rw [n2, n3]
            exact t3 t ht
          · rw [List.length_set] at hg'
            rw [(set_same hq g).1, (set_same hq g).2, t2 11 (by decide), t2 12 (by decide)]
            exact hg.2.2.2 g hg'
        · refine wp_f (nI_ge (by omega) (by omega)) (new (fun l' hl' _ => ?_))
          have : l' = l := by omega
          rw [this]
          exact y
      · refine wp_f (fun w => z ((nI_eq (by omega) (by omega)).mp w)) (new (fun l' hl' w => ?_))
        have : l' = l := by omega
        rw [this, eq] at w
        exact absurd w z
/-! all rows of tokens -/
theorem sp_p339 {gs : List Grp} {tw : Nat → Nat} {bd : Nat} (hE : 1000 ≤ E.1) (hO : Ok E σ0) (hA : AE n kd bs) (hI : AI n kd bs tw bd gs) : ∀ (c f g : Nat) (σ : PS) (I : Nat → Int32) (X : Nat → Nat → Int32), gs.length = g + c → c < f → MB E σ0 σ m Ma I X → GV gs I X → EV n kd bs I X → (∀ t, t < g → TV1 (toks (contG bs gs t)) X t) →
    wp (f_X6_pack_L339 E f (some m) (nI g) σ) (fun r τ => r = nI gs.length ∧ ∃ I' X', MB E σ0 τ m Ma I' X' ∧ (∀ k, k ≠ 22 → I' k = I k) ∧ Xk [13, 14, 21] X X' ∧ TV bs gs X')
  | 0, f, g, σ, I, X, hc, hf, hb, hg, hv, ht => by
    obtain ⟨f, rfl⟩ : ∃ z, f = z + 1 := ⟨f - 1, by omega⟩
    have hm := hI.mb hA.1
    rw [f_X6_pack_L339]
    refine wm_gi hb ?_
    rw [hg.2.1]
    refine wp_t (nI_le (by omega) (by omega)) (wm_gi hb ?_)
    rw [hg.2.1]
    exact wp_ret ⟨rfl, I, X, hb, fun _ _ => rfl, Xk.rf, fun t h => ht t (by omega)⟩
  | c + 1, f, g, σ, I, X, hc, hf, hb, hg, hv, ht => by
    obtain ⟨f, rfl⟩ : ∃ z, f = z + 1 := ⟨f - 1, by omega⟩
    obtain ⟨l1, l2, l3⟩ := hI.mb hA.1
    have hgl : g < gs.length := by omega
    obtain ⟨c1, c2⟩ := hI.cg hA hgl
    rw [f_X6_pack_L339]
    refine wm_gi hb ?_
    rw [hg.2.1]
    refine wp_f (nI_ge (by omega) (by omega)) (wm_K hb (wp_bd (sp_makes hE hO hA l1 l2 (fun x hx => ((hI.2.2.1 x).mp hx).1) hgl c1 c2 hb hg hv) ?_))
    rintro _ s ⟨I', X', u1, ⟨v1, v2, v3, v4⟩, u3⟩
    rw [nI_1]
    have xk : Xk [13, 14, 21] X X' := fun k hk => v2 k (fun z => hk (by rw [z]; decide)) (fun z => hk (by rw [z]; decide)) (fun z => hk (by rw [z]; decide))
    refine wp_mono (sp_p339 hE hO hA hI c f (g + 1) s I' X' (by omega) (by omega) u1 (hg.ko (v1 9 (by decide)) (v1 10 (by decide)) (xk 7 (by decide)) (xk 8 (by decide)) (xk 11 (by decide)) (xk 12 (by decide))) (hv.ko (v1 0 (by decide)) (xk 1 (by decide)) (xk 2 (by decide)) (xk 3 (by decide))) (fun t h => ?_)) ?_
    · by_cases z : t = g
      · rw [z]; exact u3
      · have t1 := toks_len (contG bs gs t)
        have t2 := (hI.cg hA (show t < gs.length by omega)).1
        exact (ht t (by omega)).ko (v3 t z) (fun i hi => v4 _ (by omega))
    · rintro r τ ⟨rfl, I2, X2, w1, w2, w3, w4⟩
      exact ⟨rfl, I2, X2, w1, fun k hk => (w2 k hk).trans (v1 k hk), xk.tr w3, w4⟩
theorem sp_p87 {tw : Nat → Nat} {bd way : Nat} (hE : 10000 ≤ E.1) (hO : Ok E σ0) (hA : AE n kd bs) (hbd : bd ≤ 400) (hway : way ≤ 2) (htw1 : ∀ t, t < n → tw t < 1000) : ∀ (c k f : Nat) (σ : PS) (I : Nat → Int32) (X : Nat → Nat → Int32) (gs : List Grp) (D : List Nat), c + k = 6 → c < f → MB E σ0 σ m Ma I X → EV n kd bs I X → I 4 = 1 → I 5 = nI bd → (∀ t, t < n → X 6 t = nI (tw t)) → GV gs I X → KS k gs → PK2 n kd bs tw k gs D → AI n kd bs tw bd (packF n kd bs bd tw way c k gs) →
    wp (f_X6_pack_L87 E f (some m) (nI bd) (nI way) (nI k) σ) (ME E σ0 m Ma (nI (packF n kd bs bd tw way c k gs).length, (n, kd, bs, some (bd, tw, packF n kd bs bd tw way c k gs))))
  | 0, k, f, σ, I, X, gs, D, hc, hf, hb, hv, h4, h5, h6, hg, hks, hp, hI => by
    obtain ⟨f, rfl⟩ : ∃ z, f = z + 1 := ⟨f - 1, by omega⟩
    have hI : AI n kd bs tw bd gs := hI
    obtain ⟨l1, l2, l3⟩ := hI.mb hA.1
    show wp _ (ME E σ0 m Ma (nI gs.length, (n, kd, bs, some (bd, tw, gs))))
    rw [f_X6_pack_L87]
    refine wp_t (show nI 6 ≤ nI k from nI_le (by omega) (by omega)) (wp_mono (sp_p339 (by omega) hO hA hI gs.length E.1 0 σ I X (by omega) (by omega) hb hg hv (fun t ht => absurd ht (Nat.not_lt_zero _))) ?_)
    rintro r τ ⟨rfl, I', X', u1, u2, u3, u4⟩
    exact ⟨rfl, I', X', u1, hv.ko (u2 0 (by decide)) (u3 1 (by decide)) (u3 2 (by decide)) (u3 3 (by decide)), by rw [u2 4 (by decide)]; exact h4, by rw [u2 5 (by decide)]; exact h5, fun t ht => by rw [u3 6 (by decide)]; exact h6 t ht, hg.ko (u2 9 (by decide)) (u2 10 (by decide)) (u3 7 (by decide)) (u3 8 (by decide)) (u3 11 (by decide)) (u3 12 (by decide)), u4⟩
  | c + 1, k, f, σ, I, X, gs, D, hc, hf, hb, hv, h4, h5, h6, hg, hks, hp, hI => by
    obtain ⟨f, rfl⟩ : ∃ z, f = z + 1 := ⟨f - 1, by omega⟩
    have hn : n ≤ 30 := hA.1
    have hkl : (keptK n kd tw k).length ≤ 30 := by
      have := nodup_len n _ (keptK_nd n kd tw k) (fun x hx => (keptK_mem.mp hx).1)
      omega
    have hap := arrF_perm way (fun x y => distN (bs x) (bs y)) (keptK n kd tw k)
    have hbl : ∀ e, e < n → (bs e).length ≤ 60 := fun e he => (hA.2 e he).2.1
    rw [f_X6_pack_L87]
    refine wp_f (show ¬ nI 6 ≤ nI k from nI_ge (by omega) (by omega)) (wm_pi hb (fun s1 q1 => ?_))
    refine sp_p101 (tw := tw) (k := k) hA (by omega) htw1 n E.1 0 s1 _ X (by omega) (by omega) q1 (hv.ko (up_n (by decide)) rfl rfl rfl) h6 ⟨up_s, fun t ht => absurd ht (Nat.not_lt_zero _)⟩ (fun f' s2 I2 X2 q2 i2 x2 r2 => ?_)
    refine sp_p101E (L := keptK n kd tw k) hE hO hA hway (kept_pw n kd tw k) (fun x hx => (keptK_mem.mp hx).1) hkl q2 (hv.ko (by rw [i2 0 (by decide), up_n (by decide)]) (x2 1 (by decide)) (x2 2 (by decide)) (x2 3 (by decide))) r2 (fun s3 X3 q3 x3 r3 => ?_)
    have x23 : Xk [15, 16, 18, 20] X X3 := (x2.wk (by decide)).tr x3
    have i2' : ∀ t, t ≠ 19 → I2 t = I t := fun t ht => by rw [i2 t ht, up_n ht]
    refine sp_p196 (bd := bd) (k := k) (by omega) hO hA hbd (by omega) (by rw [hap.length_eq]; exact hkl) (hap.nodup_iff.mpr (keptK_nd n kd tw k)) (fun e he => by have := keptK_mem.mp (hap.mem_iff.mp he); exact ⟨this.1, this.2.1⟩) _ E.1 0 s3 I2 X3 gs D (Nat.zero_add _).symm (by rw [hap.length_eq]; omega) q3 (hv.ko (i2' 0 (by decide)) (x23 1 (by decide)) (x23 2 (by decide)) (x23 3 (by decide))) r3 (hg.ko (i2' 9 (by decide)) (i2' 10 (by decide)) (x23 7 (by decide)) (x23 8 (by decide)) (x23 11 (by decide)) (x23 12 (by decide))) hks hp.1 (fun e he w => ?_) (fun s4 I4 X4 q4 i4 x4 g4 k4 => ?_)
    · rw [List.drop_zero] at he
      have h1 := keptK_mem.mp (hap.mem_iff.mp he)
      have h2 := ((hp.2 e).mp w).2.2
      omega
    · rw [List.drop_zero] at g4 k4
      exact sp_p87 hE hO hA hbd hway htw1 c (k + 1) f s4 I4 X4 _ _ (by omega) (by omega) q4 (hv.ko (by rw [i4 0 (by decide) (by decide), i2' 0 (by decide)]) (by rw [x4 1 (by decide), x23 1 (by decide)]) (by rw [x4 2 (by decide), x23 2 (by decide)]) (by rw [x4 3 (by decide), x23 3 (by decide)])) (by rw [i4 4 (by decide) (by decide), i2' 4 (by decide)]; exact h4) (by rw [i4 5 (by decide) (by decide), i2' 5 (by decide)]; exact h5) (fun t ht => by rw [x4 6 (by decide), x23 6 (by decide)]; exact h6 t ht) g4 k4.up (hp.step (way := way) hbd hbl) hI
theorem sp_pack6 (hE : 10000 ≤ E.1) (hO : Ok E σ) (hA : AST (n, kd, bs, S)) (hb : MB E σ σ m Ma I X) (hv : MV (n, kd, bs, S) I X) (b w : Int32) : wp (f_X6_pack E (some m) b w σ) (ME E σ m Ma (aPack b w (n, kd, bs, S))) := by
  have hn : n ≤ 30 := hA.1.1
  have hAST := hA.pack b w
  refine wm_oM hb hO (fun _ _ q => by obtain ⟨-, I', X', q, -⟩ := q; exact ⟨_, _, q⟩) ?_
  unfold g_X6_pack f_X6_pack_B20
  refine wp_rd (sp_isIn hO b 1 400) ?_
  unfold aPack at hAST ⊢
  by_cases z : b < 1 ∨ (400 : Int32) < b
  · rw [if_pos z, if_pos (z.elim Or.inl (fun y => Or.inr (Or.inl y)))]
    exact wp_t rfl (wp_ret (ME.rd hb hv))
  · rw [if_neg z]
    refine wp_f ne01 (wp_rd (sp_isIn hO w 0 2) ?_)
    have hiff : (w < 0 ∨ (2 : Int32) < w) ↔ (w < 0 ∨ ¬ w ≤ 2) := by rw [Int32.not_le]
    rw [if_iff hiff]
    by_cases y : w < 0 ∨ ¬ w ≤ 2
    · rw [if_pos y, if_pos (Or.inr (Or.inr y))]
      exact wp_t rfl (wp_ret (ME.rd hb hv))
    · have hno : ¬ (b < 1 ∨ 400 < b ∨ w < 0 ∨ ¬ w ≤ 2) := fun q => q.elim (fun q => z (Or.inl q)) (fun q => q.elim (fun q => z (Or.inr q)) y)
      rw [if_neg y, if_neg hno]
      rw [if_neg hno] at hAST
      have b0 : ¬ b < 0 := fun q => z (Or.inl (Int32.lt_trans q (by decide)))
      have b4 : b ≤ 400 := Decidable.byContradiction (fun q => z (Or.inr (Int32.not_le.mp q)))
      obtain ⟨bd, hbd, rfl⟩ := nI_of2 (M := 400) (n := 400) (by decide) b0 b4
      have w2 : w ≤ 2 := Decidable.byContradiction (fun q => y (Or.inr q))
      obtain ⟨way, hway, rfl⟩ := nI_of2 (M := 2) (n := 2) (by decide) (fun q => y (Or.inl q)) w2
      rw [cl_nI (show bd < 2 ^ 31 by omega), cl_nI (show way < 2 ^ 31 by omega)] at hAST ⊢
      have hI : AI n kd bs (twF kd bs) bd (packF n kd bs bd (twF kd bs) way 6 0 []) := hAST.2 _ rfl
      have ev : EV n kd bs I X := hv.1
      refine wp_f ne01 (wm_pi hb (fun s1 q1 => wm_pi q1 (fun s2 q2 => wm_pi q2 (fun s3 q3 => wm_pi q3 (fun s4 q4 => ?_)))))
      refine sp_p44 (by omega) hO hA.1 n E.1 0 s4 X (by omega) (by omega) q4 (ev.ko (by rw [up_n (by decide), up_n (by decide), up_n (by decide), up_n (by decide)]) rfl rfl rfl) (fun t ht => absurd ht (Nat.not_lt_zero _)) (fun s5 X5 q5 x5 h6 => ?_)
      refine sp_p87 hE hO hA.1 hbd hway (fun t ht => ?_) 6 0 E.1 s5 _ X5 [] [] rfl (by omega) q5 (ev.ko (by rw [up_n (by decide), up_n (by decide), up_n (by decide), up_n (by decide)]) (x5 1 (by decide)) (x5 2 (by decide)) (x5 3 (by decide))) ?_ ?_ h6 ⟨?_, ?_, fun t ht => absurd ht (Nat.not_lt_zero _), fun t ht => absurd ht (Nat.not_lt_zero _)⟩ KS.nil PK2.nil hI
      · have := (twF_le (kd := kd) (bs := bs) t).1
        show twF kd bs t < 1000
        omega
      · rw [up_n (by decide), up_n (by decide), up_n (by decide), up_s]
      · rw [up_n (by decide), up_n (by decide), up_s]
      · rw [up_n (by decide), up_s]; rfl
      · rw [up_s]; rfl
end MBS
