/-! PACK -/
def twF (kd : Nat → Nat) (bs : Nat → List Nat) (i : Nat) : Nat := (firstF (fun j => kd i = kd j ∧ bs i = bs j) i 0).getD i
def keptK (n : Nat) (kd tw : Nat → Nat) (k : Nat) : List Nat := (List.range n).filter (fun e => kd e = k ∧ tw e = e)
def putAll (bs : Nat → List Nat) (bd k : Nat) : List Grp → List Nat → List Grp
  | gs, [] => gs
  | gs, e :: r => putAll bs bd k (putE bs bd k e gs).1 r
def packF (n : Nat) (kd : Nat → Nat) (bs : Nat → List Nat) (bd : Nat) (tw : Nat → Nat) (way : Nat) : Nat → Nat → List Grp → List Grp
  | 0, _, gs => gs
  | c + 1, k, gs => packF n kd bs bd tw way c (k + 1) (putAll bs bd k gs (arrF way (fun x y => distN (bs x) (bs y)) (keptK n kd tw k)))
def aPack (b w : Int32) (st : AS) : Int32 × AS := if b < 1 ∨ 400 < b ∨ w < 0 ∨ ¬ w ≤ 2 then (-1, st) else
  (nI (packF st.1 st.2.1 st.2.2.1 (cl b) (twF st.2.1 st.2.2.1) (cl w) 6 0 []).length, (st.1, st.2.1, st.2.2.1, some (cl b, twF st.2.1 st.2.2.1, packF st.1 st.2.1 st.2.2.1 (cl b) (twF st.2.1 st.2.2.1) (cl w) 6 0 [])))
theorem twF_le {kd : Nat → Nat} {bs : Nat → List Nat} (i : Nat) : twF kd bs i ≤ i ∧ kd i = kd (twF kd bs i) ∧ bs i = bs (twF kd bs i) ∧ ∀ j, j < twF kd bs i → ¬ (kd i = kd j ∧ bs i = bs j) := by
  unfold twF
  cases ho : firstF (fun j => kd i = kd j ∧ bs i = bs j) i 0 with
  | none => exact ⟨Nat.le_refl _, rfl, rfl, fun j hj => firstF_none _ _ _ ho j (Nat.zero_le _) (by have hj : j < i := hj; omega)⟩
  | some t =>
    obtain ⟨h1, h2, h3, h4⟩ := firstF_some _ _ _ _ ho
    exact ⟨by show t ≤ i; omega, h1.1, h1.2, fun j hj => h4 j (Nat.zero_le _) hj⟩
theorem twF_twF {kd : Nat → Nat} {bs : Nat → List Nat} (i : Nat) : twF kd bs (twF kd bs i) = twF kd bs i := by
  obtain ⟨a1, a2, a3, a4⟩ := twF_le (kd := kd) (bs := bs) i
  obtain ⟨b1, b2, b3, b4⟩ := twF_le (kd := kd) (bs := bs) (twF kd bs i)
  by_cases z : twF kd bs (twF kd bs i) < twF kd bs i
  · exact absurd ⟨a2.trans b2, a3.trans b3⟩ (a4 _ z)
  · omega
/-- what is placed: D -/
def PV (n : Nat) (kd : Nat → Nat) (bs : Nat → List Nat) (gs : List Grp) (D : List Nat) : Prop := (flat gs).Perm D ∧ D.Nodup ∧ (∀ e ∈ D, e < n) ∧ ∀ q ∈ gs, q.2.1 ≠ [] ∧ (∀ e ∈ q.2.1, kd e = q.1) ∧ (cont bs q.2.1).length ≤ 400
theorem PV.put {n : Nat} {kd : Nat → Nat} {bs : Nat → List Nat} {bd e : Nat} {gs : List Grp} {D : List Nat} (h : PV n kd bs gs D) (hbd : bd ≤ 400) (he : e < n) (hl : (bs e).length ≤ 60) (hD : e ∉ D) : PV n kd bs (putE bs bd (kd e) e gs).1 (e :: D) := by
  obtain ⟨h1, h2, h3, h4⟩ := h
  refine ⟨putE_perm.trans (List.Perm.cons _ h1), List.nodup_cons.mpr ⟨hD, h2⟩, fun x hx => (List.mem_cons.mp hx).elim (fun w => w ▸ he) (h3 x), fun q hq => ?_⟩
  rcases putE_mem q hq with z | ⟨q0, z1, z2, z3, z4⟩ | z
  · exact h4 q z
  · refine ⟨?_, fun i hi => ?_, by omega⟩
    · rw [z3]; simp
    · rw [z3] at hi ⊢
      rcases List.mem_append.mp hi with w | w
      · exact (h4 q0 z1).2.1 i w
      · rw [List.mem_singleton.mp w]; exact z2.symm
  · rw [z]
    refine ⟨by simp, fun i hi => ?_, ?_⟩
    · rw [List.mem_singleton.mp hi]
    · show (cont bs [e]).length ≤ 400
      unfold cont
      rw [List.flatMap_cons, List.flatMap_nil, List.append_nil]
      omega
theorem PV.gis {n : Nat} {kd : Nat → Nat} {bs : Nat → List Nat} {gs : List Grp} {D : List Nat} (h : PV n kd bs gs D) (hn : n ≤ 30) (hk : ∀ e, e < n → kd e < 6) : GIs n gs := by
  intro q hq
  have hm : ∀ j ∈ q.2.1, j < n := fun j hj => h.2.2.1 j (h.1.mem_iff.mp (mem_flat.mpr ⟨q, hq, hj⟩))
  refine ⟨?_, ?_, hm⟩
  · obtain ⟨h1, h2, -⟩ := h.2.2.2 q hq
    cases hc : q.2.1 with
    | nil => exact absurd hc h1
    | cons a l =>
      have ha : a ∈ q.2.1 := by rw [hc]; exact List.mem_cons_self ..
      have := h2 a ha
      have := hk a (hm a ha)
      omega
  · have e1 := mem_len gs q hq
    have e2 := h.1.length_eq
    have e3 := nodup_len n D h.2.1 h.2.2.1
    omega
theorem PV.len {n : Nat} {kd : Nat → Nat} {bs : Nat → List Nat} {gs : List Grp} {D : List Nat} (h : PV n kd bs gs D) : gs.length ≤ D.length ∧ D.length ≤ n := by
  have e1 := flat_len gs (fun q hq => (h.2.2.2 q hq).1)
  have e2 := h.1.length_eq
  exact ⟨by omega, nodup_len n D h.2.1 h.2.2.1⟩
theorem PV.all {n : Nat} {kd : Nat → Nat} {bs : Nat → List Nat} {bd k : Nat} (hbd : bd ≤ 400) : ∀ (L : List Nat) {gs : List Grp} {D : List Nat}, PV n kd bs gs D → L.Nodup → (∀ e ∈ L, e < n ∧ kd e = k ∧ (bs e).length ≤ 60 ∧ e ∉ D) → PV n kd bs (putAll bs bd k gs L) (L.reverse ++ D)
  | [], gs, D, h, _, _ => h
  | e :: r, gs, D, h, hn, hL => by
    obtain ⟨h1, h2, h3, h4⟩ := hL e (List.mem_cons_self ..)
    have hc := List.nodup_cons.mp hn
    have step := h.put hbd h1 h3 h4
    rw [h2] at step
    have := PV.all hbd r step hc.2 (fun x hx => by
      obtain ⟨x1, x2, x3, x4⟩ := hL x (List.mem_cons_of_mem _ hx)
      refine ⟨x1, x2, x3, fun w => ?_⟩
      rcases List.mem_cons.mp w with w | w
      · exact hc.1 (w ▸ hx)
      · exact x4 w)
    show PV n kd bs (putAll bs bd k (putE bs bd k e gs).1 r) ((e :: r).reverse ++ D)
    rw [List.reverse_cons, List.append_assoc]
    exact this
theorem keptK_mem {n k e : Nat} {kd tw : Nat → Nat} : e ∈ keptK n kd tw k ↔ e < n ∧ kd e = k ∧ tw e = e := by
  unfold keptK
  rw [List.mem_filter, List.mem_range]
  constructor
  · rintro ⟨h1, h2⟩; have := of_decide_eq_true h2; exact ⟨h1, this⟩
  · rintro ⟨h1, h2⟩; exact ⟨h1, decide_eq_true h2⟩
theorem keptK_nd (n : Nat) (kd tw : Nat → Nat) (k : Nat) : (keptK n kd tw k).Nodup := List.Pairwise.filter _ List.nodup_range
/-- after the kinds below k -/
def PK2 (n : Nat) (kd : Nat → Nat) (bs : Nat → List Nat) (tw : Nat → Nat) (k : Nat) (gs : List Grp) (D : List Nat) : Prop := PV n kd bs gs D ∧ ∀ e, e ∈ D ↔ e < n ∧ tw e = e ∧ kd e < k
theorem PK2.step {n : Nat} {kd tw : Nat → Nat} {bs : Nat → List Nat} {bd k way : Nat} {gs : List Grp} {D : List Nat} (hbd : bd ≤ 400) (hb : ∀ e, e < n → (bs e).length ≤ 60) (h : PK2 n kd bs tw k gs D) : PK2 n kd bs tw (k + 1) (putAll bs bd k gs (arrF way (fun x y => distN (bs x) (bs y)) (keptK n kd tw k))) ((arrF way (fun x y => distN (bs x) (bs y)) (keptK n kd tw k)).reverse ++ D) := by
  have hp := arrF_perm way (fun x y => distN (bs x) (bs y)) (keptK n kd tw k)
  refine ⟨h.1.all hbd _ (hp.nodup_iff.mpr (keptK_nd n kd tw k)) (fun e he => ?_), fun e => ?_⟩
  · obtain ⟨a1, a2, a3⟩ := keptK_mem.mp (hp.mem_iff.mp he)
    exact ⟨a1, a2, hb e a1, fun w => by have := ((h.2 e).mp w).2.2; omega⟩
  · rw [List.mem_append, List.mem_reverse, hp.mem_iff, keptK_mem, h.2 e]
    constructor
    · rintro (⟨a, b, c⟩ | ⟨a, b, c⟩)
      · exact ⟨a, c, by omega⟩
      · exact ⟨a, b, by omega⟩
    · rintro ⟨a, b, c⟩
      by_cases z : kd e = k
      · exact Or.inl ⟨a, z, b⟩
      · exact Or.inr ⟨a, b, by omega⟩
theorem PK2.fin {n : Nat} {kd tw : Nat → Nat} {bs : Nat → List Nat} {bd way : Nat} (hbd : bd ≤ 400) (hb : ∀ e, e < n → (bs e).length ≤ 60) : ∀ (c k : Nat) {gs : List Grp} {D : List Nat}, PK2 n kd bs tw k gs D → ∃ D', PK2 n kd bs tw (k + c) (packF n kd bs bd tw way c k gs) D'
  | 0, k, gs, D, h => ⟨D, h⟩
  | c + 1, k, gs, D, h => by
    obtain ⟨D', h'⟩ := PK2.fin (way := way) hbd hb c (k + 1) (h.step (way := way) hbd hb)
    refine ⟨D', ?_⟩
    have e : k + (c + 1) = k + 1 + c := by omega
    rw [e]
    exact h'
theorem PK2.nil {n : Nat} {kd tw : Nat → Nat} {bs : Nat → List Nat} : PK2 n kd bs tw 0 [] [] := ⟨⟨List.Perm.refl _, List.nodup_nil, (fun _ hx => nomatch hx), (fun _ hx => nomatch hx)⟩, fun e => ⟨(fun hx => nomatch hx), fun h => absurd h.2.2 (Nat.not_lt_zero _)⟩⟩
theorem AST.pack {st : AS} (h : AST st) (b w : Int32) : AST (aPack b w st).2 := by
  obtain ⟨n, kd, bs, S⟩ := st
  unfold aPack
  by_cases z : b < 1 ∨ 400 < b ∨ w < 0 ∨ ¬ w ≤ 2
  · rw [if_pos z]; exact h
  · rw [if_neg z]
    refine ⟨h.1, fun s hs => ?_⟩
    cases hs
    have hb : cl b ≤ 400 := by
      have h0 : ¬ b < 0 := fun q => z (Or.inl (Int32.lt_trans q (by decide)))
      have h4 : ¬ 400 < b := fun q => z (Or.inr (Or.inl q))
      obtain ⟨k, hk, rfl⟩ := nI_of h0
      rw [cl_nI hk]
      have : ¬ nI 400 < nI k := h4
      have := (not_congr (nI_ltI (by decide) hk)).mp this
      omega
    obtain ⟨D, h1, h2⟩ := PK2.fin (n := n) (kd := kd) (bs := bs) (tw := twF kd bs) (way := cl w) hb (fun e he => (h.1.2 e he).2.1) 6 0 PK2.nil
    refine ⟨fun e he => ?_, h1.1.nodup_iff.mpr h1.2.1, fun e => ?_, h1.2.2.2, hb⟩
    · obtain ⟨a1, a2, a3, -⟩ := twF_le (kd := kd) (bs := bs) e
      exact ⟨Nat.lt_of_le_of_lt a1 he, twF_twF e, a2.symm, a3.symm⟩
    · rw [h1.1.mem_iff, h2 e]
      constructor
      · rintro ⟨a, b, -⟩; exact ⟨a, b⟩
      · rintro ⟨a, b⟩; exact ⟨a, b, (h.1.2 e a).1⟩
section CPS
variable {E : PE} {σ τ : PS} {A : Nat → Nat} {F : Nat → Int32} {LL : Nat → List Nat} {n : Nat} {Es kd tw : Nat → Nat} {ed : Nat → Nat × List Nat × Nat} {GA : Nat → Prop} {gd : Nat → Nat × Nat × List Nat × List (Nat × Nat × Nat)} {G : List (Nat × Grp)} {P Ln : List Nat} {bs bo : Nat → List Nat} {V : Nat → Prop} {S : Option PK} {t : Nat}
theorem CB.edc (h : CB E σ A F LL n Es ed GA gd) {ed' : Nat → Nat × List Nat × Nat} (he : ∀ i, i < n → ed' i = ed i) : CB E σ A F LL n Es ed' GA gd := ⟨h.1, h.2.1, h.2.2.1, fun i hi => by rw [he i hi]; exact h.e hi, h.2.2.2.2⟩
theorem sp_flL {i : Nat} (hE : 1000 ≤ E.1) (hn : n ≤ 30) (hk : ∀ j, j < n → kd j < 100) (hi : i < n) (hO : Ok E σ) (c : CB E σ A F LL n Es (fun i => (kd i, bs i, tw i)) GA gd) (h1 : LL 1 = (List.range n).map Es) : ∀ (k f j : Nat), i = j + k → k < f → f_X5_firstLike_L2 E f (some (A 0)) (some (Es i)) (nI j) σ = some (nI ((firstF (fun j => kd i = kd j ∧ bs i = bs j) k j).getD i), σ)
  | 0, f, j, hm, hf => by
    obtain ⟨f, rfl⟩ : ∃ z, f = z + 1 := ⟨f - 1, by omega⟩
    obtain ⟨b, m, g0, -⟩ := c.e hi
    rw [f_X5_firstLike_L2]
    refine e_gi rfl g0.1 ?_
    rw [g0.2.1]
    refine e_t (nI_le (by omega) (by omega)) (e_gi rfl g0.1 ?_)
    rw [g0.2.1]
    rfl
  | k + 1, f, j, hm, hf => by
    obtain ⟨f, rfl⟩ : ∃ z, f = z + 1 := ⟨f - 1, by omega⟩
    obtain ⟨b, m, g0, -⟩ := c.e hi
    have hj : j < n := by omega
    have ih := sp_flL hE hn hk hi hO c h1 k f (j + 1) (by omega) (by omega)
    rw [f_X5_firstLike_L2]
    refine e_gi rfl g0.1 ?_
    rw [g0.2.1]
    refine e_f (nI_ge (by omega) (by omega)) (e_K rfl c.kx (bd_rd (sp_isEntry hO c _) ?_))
    rw [CB.lenE h1, in_y hj (by omega)]
    refine e_f ne01 (e_gr rfl c.kx (e_K c.f0 (c.l j1).1 ?_))
    rw [c.f0]
    refine bd_rd (c.getE hO h1 hj) (e_ca rfl (c.ke hj) (e_K rfl g0.1 (bd_rd (sp_isLike (by omega) hO (c.e hi) (c.e hj) (hk i hi) (hk j hj)) ?_)))
    unfold f_X5_firstLike_B38
    have hF : firstF (fun j => kd i = kd j ∧ bs i = bs j) (k + 1) j = if kd i = kd j ∧ bs i = bs j then some j else firstF (fun j => kd i = kd j ∧ bs i = bs j) k (j + 1) := rfl
    rw [hF]
    by_cases z : kd i = kd j ∧ bs i = bs j
    · rw [show (if (kd i, bs i, tw i).1 = (kd j, bs j, tw j).1 ∧ (kd i, bs i, tw i).2.1 = (kd j, bs j, tw j).2.1 then (1 : Int32) else 0) = 1 from if_pos z, if_pos z]
      exact e_f ne01 rfl
    · rw [show (if (kd i, bs i, tw i).1 = (kd j, bs j, tw j).1 ∧ (kd i, bs i, tw i).2.1 = (kd j, bs j, tw j).2.1 then (1 : Int32) else 0) = 0 from if_neg z, if_neg z]
      refine e_t rfl ?_
      rw [nI_1]
      exact ih
theorem sp_firstLike {i : Nat} (hE : 1000 ≤ E.1) (hn : n ≤ 30) (hk : ∀ j, j < n → kd j < 100) (hi : i < n) (hO : Ok E σ) (c : CB E σ A F LL n Es (fun i => (kd i, bs i, tw i)) GA gd) (h1 : LL 1 = (List.range n).map Es) : f_X5_firstLike E (some (A 0)) (some (Es i)) σ = some (nI (twF kd bs i), σ) :=
  oM_rd hO (sp_flL hE hn hk hi hO c h1 i E.1 0 (by omega) (by omega))
theorem sp_ftL (hE : 1000 ≤ E.1) (hn : n ≤ 30) (hk : ∀ j, j < n → kd j < 100) (h1 : LL 1 = (List.range n).map Es) : ∀ (k f i : Nat) (σ : PS) (tw : Nat → Nat), n = i + k → k < f → Ok E σ → CB E σ A F LL n Es (fun i => (kd i, bs i, tw i)) GA gd → (∀ j, j < i → tw j = twF kd bs j) →
    wp (f_X5_findTwins_L2 E f (some (A 0)) (nI i) σ) (fun _ τ => CB E τ A F LL n Es (fun i => (kd i, bs i, twF kd bs i)) GA gd ∧ Fc E σ τ ∧ Gr σ τ 0 0)
  | 0, f, i, σ, tw, hm, hf, hO, c, ht => by
    obtain ⟨f, rfl⟩ : ∃ z, f = z + 1 := ⟨f - 1, by omega⟩
    rw [f_X5_findTwins_L2]
    refine wp_gr rfl c.kx (wp_K c.f0 (c.l j1).1 ?_)
    rw [c.f0]
    refine wp_rd (sp_size hO (c.l j1)) (wp_t (by rw [CB.lenE h1]; exact nI_le (by omega) (by omega)) (wp_ret ⟨c.edc (fun j hj => ?_), Fc.rf c.wf, Gr.rf⟩))
    rw [ht j (by omega)]
  | k + 1, f, i, σ, tw, hm, hf, hO, c, ht => by
    obtain ⟨f, rfl⟩ : ∃ z, f = z + 1 := ⟨f - 1, by omega⟩
    have hi : i < n := by omega
    rw [f_X5_findTwins_L2]
    refine wp_gr rfl c.kx (wp_K c.f0 (c.l j1).1 ?_)
    rw [c.f0]
    refine wp_rd (sp_size hO (c.l j1)) (wp_f (by rw [CB.lenE h1]; exact nI_ge (by omega) (by omega)) (wp_gr rfl c.kx (wp_K c.f0 (c.l j1).1 ?_)))
    rw [c.f0]
    refine wp_rd (c.getE hO h1 hi) (wp_ca rfl (c.ke hi) (wp_K rfl c.kx (wp_rd (sp_firstLike hE hn hk hi hO c h1) (wp_pi rfl (c.ke hi) ?_))))
    have fo : Fo E σ (pI 2 5 (Es i) (nI (twF kd bs i)) σ) (fun b => b = Es i) := Fo.pI c.wf (c.ke hi) (by decide)
    have c2 := c.ent (d := (kd i, bs i, twF kd bs i)) (by omega) hi fo (c.e hi).tw
    have ee : up (fun i => (kd i, bs i, tw i)) i (kd i, bs i, twF kd bs i) = fun j => (kd j, bs j, up tw i (twF kd bs i) j) := by
      funext j
      by_cases z : j = i
      · rw [z, up_s, up_s]
      · rw [up_n z, up_n z]
    rw [ee] at c2
    rw [nI_1]
    refine wp_mono (sp_ftL hE hn hk h1 k f (i + 1) _ (up tw i (twF kd bs i)) (by omega) (by omega) hO c2 (fun j hj => ?_)) ?_
    · by_cases z : j = i
      · rw [z, up_s]
      · rw [up_n z]; exact ht j (by omega)
    · rintro _ τ ⟨u1, u2, u3⟩
      exact ⟨u1, (Fc.one fo (c.ke hi) (by decide)).tr u2, u3⟩
theorem sp_dgL {Gl P : List Nat} (hE : 1000 ≤ E.1) (h2 : LL 2 = Gl) (hG : ∀ g ∈ Gl, GA g) (hl : Gl.length + P.length ≤ 30) : ∀ (k f i : Nat) (σ : PS), Gl.length = i + k → k < f → CB E σ A F (up LL 3 (P ++ Gl.take i)) n Es ed GA gd → sN σ + k ≤ E.2.1 → sS σ + 49 * k ≤ E.2.2.1 →
    wp (f_X5_dropGroups_L2 E f (some (A 0)) (nI i) σ) (fun _ τ => CB E τ A F (up (up LL 3 (P ++ Gl)) 2 []) n Es ed GA gd ∧ Fc E σ τ ∧ Gr σ τ k (49 * k))
  | 0, f, i, σ, hm, hf, c, r1, r2 => by
    obtain ⟨f, rfl⟩ : ∃ z, f = z + 1 := ⟨f - 1, by omega⟩
    have hO : Ok E σ := ⟨by omega, by omega⟩
    have l2 := c.l j2
    rw [up_n (show (2 : Nat) ≠ 3 by decide), h2] at l2
    rw [f_X5_dropGroups_L2]
    refine wp_gr rfl c.kx (wp_K c.f1 l2.1 ?_)
    rw [c.f1]
    refine wp_rd (sp_size hO l2) (wp_t (nI_le (by omega) (by omega)) (wp_gr rfl c.kx (wp_K c.f1 l2.1 ?_)))
    rw [c.f1]
    refine wp_bd (so_clear (by omega) c.wf hO l2) ?_
    rintro _ s ⟨t1, t2, t3⟩
    have c2 := c.lst j2 t2 t1
    rw [List.take_of_length_le (by omega)] at c2
    exact wp_ret ⟨c2, Fc.one t2 l2.1 (by decide), t3⟩
  | k + 1, f, i, σ, hm, hf, c, r1, r2 => by
    obtain ⟨f, rfl⟩ : ∃ z, f = z + 1 := ⟨f - 1, by omega⟩
    have hO : Ok E σ := ⟨by omega, by omega⟩
    have l2 := c.l j2
    rw [up_n (show (2 : Nat) ≠ 3 by decide), h2] at l2
    have l3 := c.l j3
    rw [up_s] at l3
    have hi : i < Gl.length := by omega
    have hget : Gl[i]? = some Gl[i] := List.getElem?_eq_getElem hi
    have hga := (c.g (hG _ (List.getElem_mem hi))).1
    rw [f_X5_dropGroups_L2]
    refine wp_gr rfl c.kx (wp_K c.f1 l2.1 ?_)
    rw [c.f1]
    refine wp_rd (sp_size hO l2) (wp_f (nI_ge hi (by omega)) (wp_gr rfl c.kx (wp_gr rfl c.kx (wp_K c.f1 l2.1 ?_))))
    rw [c.f1, c.f2]
    refine wp_rd (sp_get hO l2 hi) ?_
    rw [hget]
    refine wp_ca rfl hga (wp_K rfl l3.1 (wp_bd (so_add c.wf l3 (by rw [List.length_append, List.length_take]; omega) (Or.inr hga) (by omega) (by omega)) ?_))
    rintro _ s ⟨t1, t2, t3⟩
    have c2 := c.lst j3 t2 t1
    rw [up_up] at c2
    have et : P ++ Gl.take i ++ [Gl[i]] = P ++ Gl.take (i + 1) := by rw [List.take_succ, hget, List.append_assoc]; rfl
    rw [et] at c2
    rw [nI_1]
    have s1 := t3.2.2.1
    have s2 := t3.2.2.2
    refine wp_mono (sp_dgL hE h2 hG hl k f (i + 1) s (by omega) (by omega) c2 (by omega) (by omega)) ?_
    rintro _ τ ⟨u1, u2, u3⟩
    exact ⟨u1, (Fc.one t2 l3.1 (by decide)).tr u2, (t3.tr u3).wk (by omega) (by omega)⟩
theorem sp_luL {kind : Nat} (hE : 1000 ≤ E.1) (hn : n ≤ 30) (hkind : kind < 100) (hk : ∀ j, j < n → kd j < 100) (htw : ∀ j, j < n → tw j < 1000) (h1 : LL 1 = (List.range n).map Es) : ∀ (k f i : Nat) (σ : PS) (ln : List Nat), n = i + k → k < f → CB E σ A F (up LL 4 (ln.map Es)) n Es (fun i => (kd i, bs i, tw i)) GA gd → ln.length ≤ i → sN σ + ((List.range' i k).filter (fun e => kd e = kind ∧ tw e = e)).length ≤ E.2.1 → sS σ + 49 * ((List.range' i k).filter (fun e => kd e = kind ∧ tw e = e)).length ≤ E.2.2.1 →
    wp (f_X5_lineUpKept_L9 E f (some (A 0)) (nI kind) (nI i) σ) (fun _ τ => CB E τ A F (up LL 4 ((ln ++ (List.range' i k).filter (fun e => kd e = kind ∧ tw e = e)).map Es)) n Es (fun i => (kd i, bs i, tw i)) GA gd ∧ Fc E σ τ ∧ Gr σ τ ((List.range' i k).filter (fun e => kd e = kind ∧ tw e = e)).length (49 * ((List.range' i k).filter (fun e => kd e = kind ∧ tw e = e)).length))
  | 0, f, i, σ, ln, hm, hf, c, hl, r1, r2 => by
    obtain ⟨f, rfl⟩ : ∃ z, f = z + 1 := ⟨f - 1, by omega⟩
    have hO : Ok E σ := ⟨by omega, by omega⟩
    have l1 := c.l j1
    rw [up_n (show (1 : Nat) ≠ 4 by decide)] at l1
    rw [f_X5_lineUpKept_L9]
    refine wp_gr rfl c.kx (wp_K c.f0 l1.1 ?_)
    rw [c.f0]
    refine wp_rd (sp_size hO l1) (wp_t (by rw [CB.lenE h1]; exact nI_le (by omega) (by omega)) (wp_ret ⟨?_, Fc.rf c.wf, Gr.rf⟩))
    show CB E σ A F (up LL 4 ((ln ++ []).map Es)) n Es _ GA gd
    rw [List.append_nil]
    exact c
  | k + 1, f, i, σ, ln, hm, hf, c, hl, r1, r2 => by
    obtain ⟨f, rfl⟩ : ∃ z, f = z + 1 := ⟨f - 1, by omega⟩
    have hO : Ok E σ := ⟨by omega, by omega⟩
    have hi : i < n := by omega
    have l1 := c.l j1
    rw [up_n (show (1 : Nat) ≠ 4 by decide)] at l1
    have l4 := c.l j4
    rw [up_s] at l4
    have hg1 : (up LL 4 (ln.map Es)) 1 = (List.range n).map Es := by rw [up_n (by decide)]; exact h1
    obtain ⟨b, m, g0, -⟩ := id (c.e hi)
    have hki := hk i hi
    have hti := htw i hi
    rw [List.range'_succ] at r1 r2 ⊢
    rw [f_X5_lineUpKept_L9]
    refine wp_gr rfl c.kx (wp_K c.f0 l1.1 ?_)
    rw [c.f0]
    refine wp_rd (sp_size hO l1) (wp_f (by rw [CB.lenE h1]; exact nI_ge (by omega) (by omega)) (wp_gr rfl c.kx (wp_K c.f0 l1.1 ?_)))
    rw [c.f0]
    refine wp_rd (c.getE hO hg1 hi) (wp_ca rfl g0.1 (wp_gi rfl g0.1 ?_))
    rw [g0.2.2.1]
    unfold f_X5_lineUpKept_B56
    rw [nI_1]
    by_cases z : kd i = kind ∧ tw i = i
    · rw [List.filter_cons_of_pos (by exact decide_eq_true z)] at r1 r2 ⊢
      rw [List.length_cons] at r1 r2 ⊢
      refine wp_t (congrArg nI z.1) (wp_K rfl g0.1 (wp_rd (sp_isKept hO (c.e hi) (by omega) hti) ?_))
      rw [show (if (kd i, bs i, tw i).2.2 = i then (1 : Int32) else 0) = 1 from if_pos z.2]
      refine wp_f ne01 (wp_gr rfl c.kx (wp_K c.f3 l4.1 ?_))
      rw [c.f3]
      refine wp_bd (so_add c.wf l4 (by rw [List.length_map]; omega) (Or.inl g0.1) (by omega) (by omega)) ?_
      rintro _ s ⟨t1, t2, t3⟩
      have c2 := c.lst j4 t2 t1
      rw [up_up] at c2
      have et : ln.map Es ++ [Es i] = (ln ++ [i]).map Es := by rw [List.map_append]; rfl
      rw [et] at c2
      have s1 := t3.2.2.1
      have s2 := t3.2.2.2
      refine wp_mono (sp_luL hE hn hkind hk htw h1 k f (i + 1) s (ln ++ [i]) (by omega) (by omega) c2 (by rw [List.length_append]; show ln.length + 1 ≤ i + 1; omega) (by omega) (by omega)) ?_
      rintro _ τ ⟨u1, u2, u3⟩
      refine ⟨?_, (Fc.one t2 l4.1 (by decide)).tr u2, (t3.tr u3).wk (by omega) (by omega)⟩
      rw [List.append_assoc] at u1
      exact u1
    · rw [List.filter_cons_of_neg (by simpa using z)] at r1 r2 ⊢
      have go := sp_luL hE hn hkind hk htw h1 k f (i + 1) σ ln (by omega) (by omega) c (by omega) r1 r2
      by_cases y : kd i = kind
      · refine wp_t (congrArg nI y) (wp_K rfl g0.1 (wp_rd (sp_isKept hO (c.e hi) (by omega) hti) ?_))
        rw [show (if (kd i, bs i, tw i).2.2 = i then (1 : Int32) else 0) = 0 from if_neg (fun q => z ⟨y, q⟩)]
        exact wp_t rfl go
      · exact wp_f (fun q => y ((nI_eq (by omega) (by omega)).mp q)) go
end CPS
