/-! THE CHAIN -/
def nearL (f : Nat → Nat) : List Nat → Nat → Nat → Nat → Nat
  | [], b, _, _ => b
  | x :: r, b, l, p => if f x < l then nearL f r p (f x) (p + 1) else nearL f r b l (p + 1)
def nearI (f : Nat → Nat) : List Nat → Nat
  | [] => 0
  | x :: r => nearL f r 0 (f x) 1
def chainR (d : Nat → Nat → Nat) : Nat → Nat → List Nat → List Nat
  | 0, _, _ => []
  | k + 1, a, rest => rest.getD (nearI (d a) rest) 0 :: chainR d k (rest.getD (nearI (d a) rest) 0) (rest.eraseIdx (nearI (d a) rest))
def chainL (d : Nat → Nat → Nat) : List Nat → List Nat
  | [] => []
  | a :: r => a :: chainR d r.length a r
def arrF (way : Nat) (d : Nat → Nat → Nat) (ln : List Nat) : List Nat := if way = 2 ∧ ln.length ≤ 7 then bestL d ln else if way = 0 then ln else chainL d ln
theorem nearL_lt (f : Nat → Nat) : ∀ (r : List Nat) (b l p : Nat), b < p → nearL f r b l p < p + r.length
  | [], b, l, p, h => h
  | x :: r, b, l, p, h => by
    unfold nearL
    rw [List.length_cons]
    split
    · have := nearL_lt f r p (f x) (p + 1) (by omega); omega
    · have := nearL_lt f r b l (p + 1) (by omega); omega
theorem nearI_lt {f : Nat → Nat} {r : List Nat} (h : 0 < r.length) : nearI f r < r.length := by
  cases r with
  | nil => exact absurd h (Nat.lt_irrefl 0)
  | cons x r =>
    have := nearL_lt f r 0 (f x) 1 (by omega)
    show nearL f r 0 (f x) 1 < r.length + 1
    omega
theorem era_perm {l : List Nat} {i : Nat} (h : i < l.length) : (l.getD i 0 :: l.eraseIdx i).Perm l := by
  have h1 : l[i]? = some (l.getD i 0) := by rw [List.getD_eq_getElem?_getD, List.getElem?_eq_getElem h]; rfl
  have h2 := (set_split (y := 0) h1).1
  have h3 : l.eraseIdx i = l.take i ++ l.drop (i + 1) := List.eraseIdx_eq_take_drop_succ ..
  rw [h3]
  have := (@List.perm_middle Nat (l.getD i 0) (l.take i) (l.drop (i + 1))).symm
  rw [← h2] at this
  exact this
theorem chainR_perm (d : Nat → Nat → Nat) : ∀ (k a : Nat) (r : List Nat), r.length = k → (chainR d k a r).Perm r
  | 0, a, r, h => by rw [List.eq_nil_of_length_eq_zero h]; exact List.Perm.refl _
  | k + 1, a, r, h => by
    have hl := nearI_lt (f := d a) (r := r) (by omega)
    have ih := chainR_perm d k (r.getD (nearI (d a) r) 0) (r.eraseIdx (nearI (d a) r)) (by rw [List.length_eraseIdx_of_lt hl]; omega)
    exact (List.Perm.cons _ ih).trans (era_perm hl)
theorem chainL_perm (d : Nat → Nat → Nat) (l : List Nat) : (chainL d l).Perm l := by
  cases l with
  | nil => exact List.Perm.refl _
  | cons a r => exact List.Perm.cons _ (chainR_perm d _ a r rfl)
theorem arrF_perm (way : Nat) (d : Nat → Nat → Nat) (l : List Nat) : (arrF way d l).Perm l := by
  unfold arrF
  split
  · exact bestP_perm d _ _ _ rfl
  · split
    · exact List.Perm.refl _
    · exact chainL_perm d l
theorem map_eraI (f : Nat → Nat) (l : List Nat) (i : Nat) : (l.map f).eraseIdx i = (l.eraseIdx i).map f := by
  rw [List.eraseIdx_eq_take_drop_succ, List.eraseIdx_eq_take_drop_succ, List.map_append, List.map_take, List.map_drop]
section CPS
variable {E : PE} {σ τ : PS} {A : Nat → Nat} {F : Nat → Int32} {LL : Nat → List Nat} {n : Nat} {Es kd tw : Nat → Nat} {ed : Nat → Nat × List Nat × Nat} {GA : Nat → Prop} {gd : Nat → Nat × Nat × List Nat × List (Nat × Nat × Nat)} {G : List (Nat × Grp)} {P Ln : List Nat} {bs bo : Nat → List Nat} {V : Nat → Prop} {S : Option PK} {t : Nat}
theorem sp_chB {pre rest : List Nat} {a : Nat} {P : Unit → PS → Prop} {K : Option Nat → Int32 → PS → Option (Unit × PS)} (hE : 1000 ≤ E.1) (hn : ∀ i ∈ pre ++ a :: rest, i < n) (hbl : ∀ i, i < n → (bs i).length ≤ 60) (hlen : pre.length + 1 + rest.length ≤ 31) : ∀ (k f j b l : Nat) (σ : PS), rest.length = j + k → k < f → b < rest.length → b < j → l ≤ 1980 → CB E σ A F (up LL 4 ((pre ++ a :: rest).map Es)) n Es (fun i => (kd i, bs i, tw i)) GA gd → sN σ + 1 ≤ E.2.1 → sS σ + 49 ≤ E.2.2.1 →
    (∀ τ, CB E τ A F (up LL 4 ((pre ++ a :: (rest.getD (nearL (fun x => distN (bs a) (bs x)) (rest.drop j) b l j) 0 :: rest.eraseIdx (nearL (fun x => distN (bs a) (bs x)) (rest.drop j) b l j))).map Es)) n Es (fun i => (kd i, bs i, tw i)) GA gd → Fc E σ τ → Gr σ τ 1 49 → wp (K (some (A 4)) (nI (pre.length + 1 + 1)) τ) P) →
    wp (f_X0_arrangeChain_L43 E K f (some (A 4)) (nI (pre.length + 1)) (some (Es a)) (nI (pre.length + 1 + b)) (nI l) (nI (pre.length + 1 + j)) σ) P
  | 0, f, j, b, l, σ, hk, hf, hb, hbj, hl, c, h1, h2, kk => by
    obtain ⟨f, rfl⟩ : ∃ z, f = z + 1 := ⟨f - 1, by omega⟩
    have hO : Ok E σ := ⟨by omega, by omega⟩
    have l4 := c.l j4
    rw [up_s] at l4
    have hcl : ((pre ++ a :: rest).map Es).length = pre.length + 1 + rest.length := by rw [List.length_map, List.length_append, List.length_cons]; omega
    rw [f_X0_arrangeChain_L43]
    have hd : rest.drop j = [] := List.drop_eq_nil_of_le (by omega)
    rw [hd] at kk
    have kk : ∀ τ, CB E τ A F (up LL 4 ((pre ++ a :: (rest.getD b 0 :: rest.eraseIdx b)).map Es)) n Es (fun i => (kd i, bs i, tw i)) GA gd → Fc E σ τ → Gr σ τ 1 49 → wp (K (some (A 4)) (nI (pre.length + 1 + 1)) τ) P := kk
    have hx : ((pre ++ a :: rest).map Es)[pre.length + 1 + b]? = some (Es (rest.getD b 0)) := by
      rw [List.getElem?_map, List.getElem?_append_right (by omega)]
      have : pre.length + 1 + b - pre.length = b + 1 := by omega
      rw [this, List.getElem?_cons_succ, List.getElem?_eq_getElem hb, List.getD_eq_getElem?_getD, List.getElem?_eq_getElem hb]
      rfl
    have hxn : rest.getD b 0 < n := by
      rw [List.getD_eq_getElem?_getD, List.getElem?_eq_getElem hb]
      exact hn _ (List.mem_append_right _ (List.mem_cons_of_mem _ (List.getElem_mem hb)))
    refine wp_K rfl l4.1 (wp_rd (sp_size hO l4) (wp_t (by rw [hcl]; exact nI_le (by omega) (by omega)) (wp_K rfl l4.1 (wp_bd (so_remove c.wf hO l4 (by omega)) ?_))))
    rintro r s ⟨e1, t1, t2, t3⟩
    rw [hx] at e1
    rw [e1]
    have c2 := c.lst j4 t2 t1
    rw [up_up] at c2
    have ee : ((pre ++ a :: rest).map Es).eraseIdx (pre.length + 1 + b) = (pre ++ a :: rest.eraseIdx b).map Es := by
      rw [map_eraI]
      congr 1
      rw [List.eraseIdx_append_of_length_le (by omega)]
      have : pre.length + 1 + b - pre.length = b + 1 := by omega
      rw [this]
      rfl
    rw [ee] at c2 t1
    have s1 := t3.2.2.1
    have s2 := t3.2.2.2
    have hl2 : (rest.eraseIdx b).length + 1 = rest.length := by rw [List.length_eraseIdx_of_lt hb]; omega
    have hcl2 : ((pre ++ a :: rest.eraseIdx b).map Es).length = pre.length + rest.length := by rw [List.length_map, List.length_append, List.length_cons]; omega
    refine wp_ca rfl (c2.ke hxn) (wp_K rfl t1.1 (wp_bd (so_addAt c2.wf t1 (by omega) (by omega) (Or.inl (c2.ke hxn)) (by omega) (by omega)) ?_))
    rintro _ τ ⟨v1, v2, v3⟩
    have c3 := c2.lst j4 v2 v1
    rw [up_up] at c3
    have ei : insL ((pre ++ a :: rest.eraseIdx b).map Es) (pre.length + 1) (Es (rest.getD b 0)) = (pre ++ a :: (rest.getD b 0 :: rest.eraseIdx b)).map Es := by
      unfold insL
      rw [← List.map_take, ← List.map_drop, ← List.map_cons, ← List.map_append]
      congr 1
      have e3 : pre ++ a :: rest.eraseIdx b = (pre ++ [a]) ++ rest.eraseIdx b := by rw [List.append_assoc]; rfl
      have e4 : pre.length + 1 = (pre ++ [a]).length := by rw [List.length_append]; rfl
      rw [e3, e4, List.take_left, List.drop_left, List.append_assoc]
      rfl
    rw [ei] at c3
    rw [nI_1]
    exact kk τ c3 ((Fc.one t2 l4.1 (by decide)).tr (Fc.one v2 t1.1 (by decide))) ((t3.tr v3).wk (by omega) (by omega))
  | k + 1, f, j, b, l, σ, hk, hf, hb, hbj, hl, c, h1, h2, kk => by
    obtain ⟨f, rfl⟩ : ∃ z, f = z + 1 := ⟨f - 1, by omega⟩
    have hO : Ok E σ := ⟨by omega, by omega⟩
    have l4 := c.l j4
    rw [up_s] at l4
    have hj : j < rest.length := by omega
    have hcl : ((pre ++ a :: rest).map Es).length = pre.length + 1 + rest.length := by rw [List.length_map, List.length_append, List.length_cons]; omega
    have hx : ((pre ++ a :: rest).map Es)[pre.length + 1 + j]? = some (Es rest[j]) := by
      rw [List.getElem?_map, List.getElem?_append_right (by omega)]
      have : pre.length + 1 + j - pre.length = j + 1 := by omega
      rw [this, List.getElem?_cons_succ, List.getElem?_eq_getElem hj]
      rfl
    have hxn : rest[j] < n := hn _ (List.mem_append_right _ (List.mem_cons_of_mem _ (List.getElem_mem hj)))
    have han : a < n := hn _ (List.mem_append_right _ (List.mem_cons_self ..))
    have hdr : rest.drop j = rest[j] :: rest.drop (j + 1) := List.drop_eq_getElem_cons hj
    have hdle := distN_le (hbl a han) (hbl _ hxn)
    rw [hdr] at kk
    rw [f_X0_arrangeChain_L43]
    refine wp_K rfl l4.1 (wp_rd (sp_size hO l4) (wp_f (by rw [hcl]; exact nI_ge (by omega) (by omega)) (wp_K rfl l4.1 (wp_rd (sp_get hO l4 (by omega)) ?_))))
    rw [hx]
    refine wp_ca rfl (c.ke hxn) (wp_rd (sp_apart (by omega) hO (c.e han) (c.e hxn)) ?_)
    unfold f_X0_arrangeChain_B82
    have e3 : nI (pre.length + 1 + j) + 1 = nI (pre.length + 1 + (j + 1)) := nI_1 _
    rw [e3]
    by_cases z : distN (bs a) (bs rest[j]) < l
    · have e4 : nearL (fun x => distN (bs a) (bs x)) (rest[j] :: rest.drop (j + 1)) b l j = nearL (fun x => distN (bs a) (bs x)) (rest.drop (j + 1)) j (distN (bs a) (bs rest[j])) (j + 1) := if_pos z
      rw [e4] at kk
      exact wp_f (show ¬ nI l ≤ nI (distN (bs a) (bs rest[j])) from nI_ge z (by omega)) (sp_chB hE hn hbl hlen k f (j + 1) j _ σ (by omega) (by omega) hj (by omega) hdle c h1 h2 kk)
    · have e4 : nearL (fun x => distN (bs a) (bs x)) (rest[j] :: rest.drop (j + 1)) b l j = nearL (fun x => distN (bs a) (bs x)) (rest.drop (j + 1)) b l (j + 1) := if_neg z
      rw [e4] at kk
      exact wp_t (show nI l ≤ nI (distN (bs a) (bs rest[j])) from nI_le (by omega) (by omega)) (sp_chB hE hn hbl hlen k f (j + 1) b l σ (by omega) (by omega) hb (by omega) hl c h1 h2 kk)
theorem sp_chA (hE : 1000 ≤ E.1) (hbl : ∀ i, i < n → (bs i).length ≤ 60) : ∀ (k f a : Nat) (pre rest : List Nat) (σ : PS), rest.length = k → k < f → (∀ i ∈ pre ++ a :: rest, i < n) → pre.length + 1 + k ≤ 31 → CB E σ A F (up LL 4 ((pre ++ a :: rest).map Es)) n Es (fun i => (kd i, bs i, tw i)) GA gd → sN σ + k ≤ E.2.1 → sS σ + 49 * k ≤ E.2.2.1 →
    wp (f_X0_arrangeChain_L2 E f (some (A 4)) (nI (pre.length + 1)) σ) (fun _ τ => CB E τ A F (up LL 4 ((pre ++ a :: chainR (fun x y => distN (bs x) (bs y)) k a rest).map Es)) n Es (fun i => (kd i, bs i, tw i)) GA gd ∧ Fc E σ τ ∧ Gr σ τ k (49 * k))
  | 0, f, a, pre, rest, σ, hk, hf, hn, hlen, c, h1, h2 => by
    obtain ⟨f, rfl⟩ : ∃ z, f = z + 1 := ⟨f - 1, by omega⟩
    have hO : Ok E σ := ⟨by omega, by omega⟩
    have l4 := c.l j4
    rw [up_s] at l4
    have hcl : ((pre ++ a :: rest).map Es).length = pre.length + 1 + rest.length := by rw [List.length_map, List.length_append, List.length_cons]; omega
    rw [f_X0_arrangeChain_L2]
    refine wp_K rfl l4.1 (wp_rd (sp_size hO l4) (wp_t (by rw [hcl]; exact nI_le (by omega) (by omega)) (wp_ret ⟨?_, Fc.rf c.wf, Gr.rf⟩)))
    rw [List.eq_nil_of_length_eq_zero hk] at c
    exact c
  | k + 1, f, a, pre, rest, σ, hk, hf, hn, hlen, c, h1, h2 => by
    obtain ⟨f, rfl⟩ : ∃ z, f = z + 1 := ⟨f - 1, by omega⟩
    have hO : Ok E σ := ⟨by omega, by omega⟩
    have l4 := c.l j4
    rw [up_s] at l4
    have h0 : 0 < rest.length := by omega
    have hcl : ((pre ++ a :: rest).map Es).length = pre.length + 1 + rest.length := by rw [List.length_map, List.length_append, List.length_cons]; omega
    have hxa : ((pre ++ a :: rest).map Es)[pre.length]? = some (Es a) := by
      rw [List.getElem?_map, List.getElem?_append_right (Nat.le_refl _), Nat.sub_self]
      rfl
    have hx0 : ((pre ++ a :: rest).map Es)[pre.length + 1]? = some (Es rest[0]) := by
      rw [List.getElem?_map, List.getElem?_append_right (by omega)]
      have : pre.length + 1 - pre.length = 0 + 1 := by omega
      rw [this, List.getElem?_cons_succ, List.getElem?_eq_getElem h0]
      rfl
    have hxn : rest[0] < n := hn _ (List.mem_append_right _ (List.mem_cons_of_mem _ (List.getElem_mem h0)))
    have han : a < n := hn _ (List.mem_append_right _ (List.mem_cons_self ..))
    have hdle := distN_le (hbl a han) (hbl _ hxn)
    rw [f_X0_arrangeChain_L2]
    refine wp_K rfl l4.1 (wp_rd (sp_size hO l4) (wp_f (by rw [hcl]; exact nI_ge (by omega) (by omega)) (wp_K rfl l4.1 ?_)))
    rw [nI_pred]
    refine wp_rd (sp_get hO l4 (by omega)) ?_
    rw [hxa]
    refine wp_ca rfl (c.ke han) (wp_K rfl l4.1 (wp_rd (sp_get hO l4 (by omega)) ?_))
    rw [hx0]
    refine wp_ca rfl (c.ke hxn) (wp_rd (sp_apart (by omega) hO (c.e han) (c.e hxn)) ?_)
    have e1 : nI (pre.length + 1) + 1 = nI (pre.length + 1 + 1) := nI_1 _
    rw [e1]
    refine sp_chB (pre := pre) (rest := rest) (a := a) hE hn hbl (by omega) k E.1 1 0 _ σ (by omega) (by omega) h0 (by omega) hdle c (by omega) (by omega) (fun τ t1 t2 t3 => ?_)
    have en : nearL (fun x => distN (bs a) (bs x)) (rest.drop 1) 0 (distN (bs a) (bs rest[0])) 1 = nearI ((fun x y => distN (bs x) (bs y)) a) rest := by
      have : rest = rest[0] :: rest.drop 1 := by have := List.drop_eq_getElem_cons h0; rw [List.drop_zero] at this; exact this
      rw [show nearI ((fun x y => distN (bs x) (bs y)) a) rest = nearI ((fun x y => distN (bs x) (bs y)) a) (rest[0] :: rest.drop 1) from congrArg _ this]
      rfl
    rw [en] at t1
    have hil := nearI_lt (f := (fun x y => distN (bs x) (bs y)) a) h0
    have s1 := t3.2.2.1
    have s2 := t3.2.2.2
    have e5 : pre ++ a :: (rest.getD (nearI ((fun x y => distN (bs x) (bs y)) a) rest) 0 :: rest.eraseIdx (nearI ((fun x y => distN (bs x) (bs y)) a) rest)) = (pre ++ [a]) ++ rest.getD (nearI ((fun x y => distN (bs x) (bs y)) a) rest) 0 :: rest.eraseIdx (nearI ((fun x y => distN (bs x) (bs y)) a) rest) := by rw [List.append_assoc]; rfl
    rw [e5] at t1
    have e6 : pre.length + 1 = (pre ++ [a]).length := by rw [List.length_append]; rfl
    rw [e6]
    refine wp_mono (sp_chA hE hbl k f _ (pre ++ [a]) _ τ (by rw [List.length_eraseIdx_of_lt hil]; omega) (by omega) (fun i hi => ?_) (by rw [← e6]; omega) t1 (by omega) (by omega)) ?_
    · rw [← e5] at hi
      rcases List.mem_append.mp hi with w | w
      · exact hn i (List.mem_append_left _ w)
      · rcases List.mem_cons.mp w with w | w
        · rw [w]; exact han
        · exact hn i (List.mem_append_right _ (List.mem_cons_of_mem _ ((era_perm hil).mem_iff.mp w)))
    · rintro _ ρ ⟨u1, u2, u3⟩
      refine ⟨?_, t2.tr u2, (t3.tr u3).wk (by omega) (by omega)⟩
      rw [List.append_assoc] at u1
      exact u1
theorem sp_chain {ln : List Nat} (hE : 1000 ≤ E.1) (hbl : ∀ i, i < n → (bs i).length ≤ 60) (hln : ∀ i ∈ ln, i < n) (hl : ln.length ≤ 30) (c : CB E σ A F LL n Es (fun i => (kd i, bs i, tw i)) GA gd) (h4 : LL 4 = ln.map Es) (h1 : sN σ + ln.length ≤ E.2.1) (h2 : sS σ + 49 * ln.length ≤ E.2.2.1) :
    wp (f_X0_arrangeChain E (some (A 5)) (some (A 4)) σ) (fun _ τ => CB E τ A F (up LL 4 ((chainL (fun x y => distN (bs x) (bs y)) ln).map Es)) n Es (fun i => (kd i, bs i, tw i)) GA gd ∧ Fc E σ τ ∧ Gr σ τ ln.length (49 * ln.length)) := by
  have hO : Ok E σ := ⟨by omega, by omega⟩
  refine wp_oM (E := E) ?_
  unfold g_X0_arrangeChain
  cases ln with
  | nil =>
    have l4 := c.l j4
    rw [h4] at l4
    obtain ⟨f, hf⟩ : ∃ f, E.1 = f + 1 := ⟨E.1 - 1, by omega⟩
    rw [hf, f_X0_arrangeChain_L2]
    refine wp_K rfl l4.1 (wp_rd (sp_size hO l4) (wp_t (show nI 0 ≤ nI 1 from nI_le (by omega) (by omega)) (wp_ret ⟨⟨Nat.le_refl _, Nat.le_refl _, hO.1, hO.2⟩, ?_, Fc.rf c.wf, Gr.rf⟩)))
    have : up LL 4 (List.map Es []) = LL := by rw [← h4]; exact up_id LL 4
    show CB E σ A F (up LL 4 (List.map Es [])) n Es _ GA gd
    rw [this]
    exact c
  | cons a r =>
    have hc : CB E σ A F (up LL 4 (([] ++ a :: r).map Es)) n Es (fun i => (kd i, bs i, tw i)) GA gd := by
      have : up LL 4 (([] ++ a :: r).map Es) = LL := by rw [List.nil_append, ← h4]; exact up_id LL 4
      rw [this]; exact c
    rw [List.length_cons] at hl h1 h2 ⊢
    refine wp_mono (sp_chA hE hbl r.length E.1 a [] r σ rfl (by omega) hln (by show 0 + 1 + r.length ≤ 31; omega) hc (by omega) (by omega)) ?_
    rintro _ τ ⟨u1, u2, u3⟩
    exact ⟨u3.bk (by omega) (by omega), u1, u2, u3.wk (by omega) (by omega)⟩
theorem sp_abF {ln : List Nat} {L6 : List Nat} (hE : 1000 ≤ E.1) (hnd : ln.Nodup) (hm7 : ln.length ≤ 7) (hln : ∀ i ∈ ln, i < n) (hbl : ∀ i, i < n → (bs i).length ≤ 60) (h4 : LL 4 = ln.map Es) : ∀ (k f i : Nat) (σ : PS), ln.length = i + k → k < f → CB E σ A F (up LL 6 ((ln.take i).map Es)) n Es (fun i => (kd i, bs i, tw i)) GA gd → sN σ + k ≤ E.2.1 → sS σ + 49 * k ≤ E.2.2.1 →
    wp (f_X0_arrangeBest_L14 E f (some (A 5)) (some (A 4)) (nI ln.length) (nI i) σ) (fun _ τ => CB E τ A F (up (up LL 6 (ln.map Es)) 4 ((bestL (fun x y => distN (bs x) (bs y)) ln).map Es)) n Es (fun i => (kd i, bs i, tw i)) GA gd ∧ Fc E σ τ ∧ Gr σ τ k (49 * k))
  | 0, f, i, σ, hk, hf, c, h1, h2 => by
    obtain ⟨f, rfl⟩ : ∃ z, f = z + 1 := ⟨f - 1, by omega⟩
    have hO : Ok E σ := ⟨by omega, by omega⟩
    rw [List.take_of_length_le (by omega)] at c
    obtain ⟨sa, ua, aw⟩ := c.aw
    have h128 := pw7 hm7
    rw [f_X0_arrangeBest_L14]
    refine wp_t (nI_le (by omega) (by omega)) (wp_K rfl c.ka (wp_bd (sp_measureSteps (ln := ln) hE hm7 hln up_s hO c aw) ?_))
    rintro _ s1 ⟨c1, aw1, js1, f1, g1⟩
    have hO1 := g1.ok (E := E) hO.1 hO.2
    have hw : ∀ a b, (fun x y => distN (bs (ln.getD x 0)) (bs (ln.getD y 0))) a b ≤ 1980 ∨ ln.length = 0 := by
      intro a b
      by_cases z : ln.length = 0
      · exact Or.inr z
      · exact Or.inl (distN_le (hbl _ (getD_in (by omega) hln a)) (hbl _ (getD_in (by omega) hln b)))
    refine wp_K rfl c1.ka ?_
    by_cases z : ln.length = 0
    · have zl := List.eq_nil_of_length_eq_zero z
      subst zl
      refine wp_bd (sp_measureSums (m := 0) (w := fun _ _ => 0) hE (fun _ _ => Nat.zero_le _) (by omega) hO1 c1 aw1 (fun a' b' h1 _ _ => absurd h1 (Nat.not_lt_zero _))) ?_
      rintro _ s2 ⟨c2, aw2, js2, us2, f2, g2⟩
      obtain ⟨f0, hf0⟩ : ∃ f0, E.1 = f0 + 1 := ⟨E.1 - 1, by omega⟩
      rw [hf0, f_X0_arrangeBest_L63]
      refine wp_t (Int32.le_refl _) (wp_ret ⟨?_, f1.tr f2, g1.tr g2⟩)
      have : up (up LL 6 (List.map Es [])) 4 (List.map Es (bestL (fun x y => distN (bs x) (bs y)) [])) = up LL 6 (List.map Es []) := by
        have e := up_id (up LL 6 (List.map Es [])) 4
        rw [up_n (show (4 : Nat) ≠ 6 by decide), h4] at e
        exact e
      rw [this]
      exact c2
    · refine wp_bd (sp_measureSums (m := ln.length) (w := fun x y => distN (bs (ln.getD x 0)) (bs (ln.getD y 0))) hE (fun a b => (hw a b).elim id (fun y => absurd y z)) hm7 hO1 c1 aw1 js1) ?_
      rintro _ s2 ⟨c2, aw2, js2, us2, f2, g2⟩
      have hO2 := g2.ok (E := E) hO1.1 hO1.2
      have hc2 : CB E s2 A F (up (up LL 6 (ln.map Es)) 4 (ln.map Es)) n Es (fun i => (kd i, bs i, tw i)) GA gd := by
        have : up (up LL 6 (ln.map Es)) 4 (ln.map Es) = up LL 6 (ln.map Es) := by
          have e := up_id (up LL 6 (ln.map Es)) 4
          rw [up_n (show (4 : Nat) ≠ 6 by decide), h4] at e
          exact e
        rw [this]; exact c2
      have e1 : ((1 : Int32) <<< (nI ln.length &&& 31)) - (1 : Int32) = nI (2 ^ ln.length - 1) := by
        rw [bt3 _ (by omega)]
        exact pk_sub (Nat.two_pow_pos _)
      rw [e1]
      have hba := bits_all ln.length (by omega)
      have hbl2 : (bitsL ln.length (2 ^ ln.length - 1)).length = ln.length := by rw [hba, List.length_range']
      have h2p := Nat.two_pow_pos ln.length
      refine wp_mono (sp_abL (ln := ln) (LL := up LL 6 (ln.map Es)) hE hm7 hln hbl up_s ln.length E.1 0 (2 ^ ln.length - 1) none ln s2 (by omega) (by omega) hbl2 (by omega) rfl (fun a z => nomatch z) hO2 hc2 aw2 js2 us2) ?_
      rintro _ τ ⟨u1, u2, u3⟩
      refine ⟨?_, (f1.tr f2).tr u2, (g1.tr g2).tr u3⟩
      have e2 : (ln.take 0 ++ (bestP (fun x y => distN (bs (ln.getD x 0)) (bs (ln.getD y 0))) ln.length (gS (fun x y => distN (bs (ln.getD x 0)) (bs (ln.getD y 0))) none) (bitsL ln.length (2 ^ ln.length - 1))).2.map (fun x => ln.getD x 0)) = bestL (fun x y => distN (bs x) (bs y)) ln := by
        rw [List.take_zero, List.nil_append, hba]
        have bm := bestP_map (fun x y => distN (bs x) (bs y)) (fun x => ln.getD x 0) ln.length (fun _ => 0) (List.range' 0 ln.length) (fun x hx y hy hxy => by
          have hx' := (List.mem_range'_1.mp hx).2
          have hy' := (List.mem_range'_1.mp hy).2
          have ex : ln[x]? = some (ln.getD x 0) := by rw [List.getD_eq_getElem?_getD, List.getElem?_eq_getElem (by omega)]; rfl
          have ey : ln[y]? = some (ln.getD y 0) := by rw [List.getD_eq_getElem?_getD, List.getElem?_eq_getElem (by omega)]; rfl
          exact nd_ix ln hnd x y (ln.getD x 0) ex (by rw [ey, hxy]))
        rw [rg_getD] at bm
        unfold bestL
        rw [bm]
        rfl
      rw [e2] at u1
      exact u1
  | k + 1, f, i, σ, hk, hf, c, h1, h2 => by
    obtain ⟨f, rfl⟩ : ∃ z, f = z + 1 := ⟨f - 1, by omega⟩
    have hO : Ok E σ := ⟨by omega, by omega⟩
    have hi : i < ln.length := by omega
    have l4 := c.l j4
    rw [up_n (show (4 : Nat) ≠ 6 by decide), h4] at l4
    have l6 := c.l j6
    rw [up_s] at l6
    have hlm : (ln.map Es).length = ln.length := List.length_map ..
    have hget : (ln.map Es)[i]? = some (Es ln[i]) := by rw [List.getElem?_map, List.getElem?_eq_getElem hi]; rfl
    have hin := hln _ (List.getElem_mem hi)
    have f6 : sR σ 1 0 (A 5) = some (A 6) := c.rt.2.1.2.1
    rw [f_X0_arrangeBest_L14]
    refine wp_f (nI_ge hi (by omega)) (wp_gr rfl c.ka (wp_K rfl l4.1 (wp_rd (sp_get hO l4 (by omega)) ?_)))
    rw [hget, f6]
    refine wp_ca rfl (c.ke hin) (wp_K rfl l6.1 (wp_bd (so_add c.wf l6 (by rw [List.length_map, List.length_take]; omega) (Or.inl (c.ke hin)) (by omega) (by omega)) ?_))
    rintro _ s ⟨t1, t2, t3⟩
    have c2 := c.lst j6 t2 t1
    rw [up_up] at c2
    have et : (ln.take i).map Es ++ [Es ln[i]] = (ln.take (i + 1)).map Es := by rw [List.take_succ, List.getElem?_eq_getElem hi, List.map_append]; rfl
    rw [et] at c2
    rw [nI_1]
    have s1 := t3.2.2.1
    have s2 := t3.2.2.2
    refine wp_mono (sp_abF (L6 := L6) hE hnd hm7 hln hbl h4 k f (i + 1) s (by omega) (by omega) c2 (by omega) (by omega)) ?_
    rintro _ τ ⟨u1, u2, u3⟩
    exact ⟨u1, (Fc.one t2 l6.1 (by decide)).tr u2, (t3.tr u3).wk (by omega) (by omega)⟩
theorem sp_best {ln : List Nat} (hE : 1000 ≤ E.1) (hnd : ln.Nodup) (hm7 : ln.length ≤ 7) (hln : ∀ i ∈ ln, i < n) (hbl : ∀ i, i < n → (bs i).length ≤ 60) (c : CB E σ A F LL n Es (fun i => (kd i, bs i, tw i)) GA gd) (h4 : LL 4 = ln.map Es) (h1 : sN σ + ln.length ≤ E.2.1) (h2 : sS σ + 49 * ln.length ≤ E.2.2.1) :
    wp (f_X0_arrangeBest E (some (A 5)) (some (A 4)) σ) (fun _ τ => CB E τ A F (up (up LL 6 (ln.map Es)) 4 ((bestL (fun x y => distN (bs x) (bs y)) ln).map Es)) n Es (fun i => (kd i, bs i, tw i)) GA gd ∧ Fc E σ τ ∧ Gr σ τ ln.length (49 * ln.length)) := by
  have hO : Ok E σ := ⟨by omega, by omega⟩
  have l4 := c.l j4
  rw [h4] at l4
  have f6 : sR σ 1 0 (A 5) = some (A 6) := c.rt.2.1.2.1
  refine wp_oM (E := E) ?_
  unfold g_X0_arrangeBest
  refine wp_K rfl l4.1 (wp_rd (sp_size hO l4) (wp_gr rfl c.ka (wp_K f6 (c.l j6).1 ?_)))
  rw [f6, List.length_map]
  refine wp_bd (so_clear (by omega) c.wf hO (c.l j6)) ?_
  rintro _ s ⟨t1, t2, t3⟩
  have c2 := c.lst j6 t2 t1
  have s1 := t3.2.2.1
  have s2 := t3.2.2.2
  refine wp_mono (sp_abF (L6 := []) hE hnd hm7 hln hbl h4 ln.length E.1 0 s (by omega) (by omega) c2 (by omega) (by omega)) ?_
  rintro _ τ ⟨u1, u2, u3⟩
  have sz : Gr σ τ ln.length (49 * ln.length) := (t3.tr u3).wk (by omega) (by omega)
  exact ⟨sz.bk h1 h2, u1, (Fc.one t2 (c.l j6).1 (by decide)).tr u2, sz⟩
theorem sp_arrange {ln : List Nat} {way : Nat} (hE : 1000 ≤ E.1) (hway : way ≤ 2) (hnd : ln.Nodup) (hl : ln.length ≤ 30) (hln : ∀ i ∈ ln, i < n) (hbl : ∀ i, i < n → (bs i).length ≤ 60) (c : CB E σ A F LL n Es (fun i => (kd i, bs i, tw i)) GA gd) (h4 : LL 4 = ln.map Es) (h1 : sN σ + ln.length ≤ E.2.1) (h2 : sS σ + 49 * ln.length ≤ E.2.2.1) :
    wp (f_X0_arrange E (some (A 5)) (some (A 4)) (nI way) σ) (fun _ τ => (∃ L6, CB E τ A F (up (up LL 6 L6) 4 ((arrF way (fun x y => distN (bs x) (bs y)) ln).map Es)) n Es (fun i => (kd i, bs i, tw i)) GA gd) ∧ Fc E σ τ ∧ Gr σ τ ln.length (49 * ln.length)) := by
  have hO : Ok E σ := ⟨by omega, by omega⟩
  have l4 := c.l j4
  rw [h4] at l4
  have tail : ¬ (way = 2 ∧ ln.length ≤ 7) → wp (f_X0_arrange_B22 E (some (A 5)) (some (A 4)) (nI way) σ) (fun _ τ => (sN σ ≤ sN τ ∧ sS σ ≤ sS τ ∧ sN τ ≤ E.2.1 ∧ sS τ ≤ E.2.2.1) ∧ (∃ L6, CB E τ A F (up (up LL 6 L6) 4 ((arrF way (fun x y => distN (bs x) (bs y)) ln).map Es)) n Es (fun i => (kd i, bs i, tw i)) GA gd) ∧ Fc E σ τ ∧ Gr σ τ ln.length (49 * ln.length)) := by
    intro hno
    unfold f_X0_arrange_B22 f_X0_arrange_B31 arrF
    rw [if_neg hno]
    by_cases z : way = 0
    · rw [if_pos z]
      refine wp_t (by rw [z]; rfl) (wp_ret ⟨⟨Nat.le_refl _, Nat.le_refl _, hO.1, hO.2⟩, ⟨LL 6, ?_⟩, Fc.rf c.wf, Gr.rf.wk (by omega) (by omega)⟩)
      rw [up_id, ← h4, up_id]
      exact c
    · rw [if_neg z]
      refine wp_f (nI_ne0 (by omega) (by omega)) (wp_K rfl c.ka (wp_bd (sp_chain hE hbl hln hl c h4 h1 h2) ?_))
      rintro _ τ ⟨u1, u2, u3⟩
      refine wp_ret ⟨u3.bk h1 h2, ⟨LL 6, ?_⟩, u2, u3⟩
      rw [up_id]
      exact u1
  refine wp_oM (E := E) ?_
  unfold g_X0_arrange
  by_cases w2 : way = 2
  · refine wp_t (by rw [w2]; rfl) (wp_K rfl l4.1 (wp_rd (sp_size hO l4) ?_))
    rw [List.length_map]
    by_cases w7 : ln.length ≤ 7
    · refine wp_f (show ¬ nI 7 < nI ln.length from nI_nlt w7 (by omega)) (wp_K rfl c.ka (wp_bd (sp_best hE hnd w7 hln hbl c h4 h1 h2) ?_))
      rintro _ τ ⟨u1, u2, u3⟩
      unfold f_X0_arrange_B31 arrF
      rw [if_pos ⟨w2, w7⟩]
      exact wp_ret ⟨u3.bk h1 h2, ⟨_, u1⟩, u2, u3⟩
    · exact wp_t (show nI 7 < nI ln.length from nI_lt (by omega) (by omega)) (tail (fun q => w7 q.2))
  · exact wp_f (fun q => w2 ((nI_eq (b := 2) (by omega) (by omega)).mp q)) (tail (fun q => w2 q.1))
end CPS
