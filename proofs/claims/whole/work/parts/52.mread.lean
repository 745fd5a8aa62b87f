theorem shA : ∀ k, k < 8 → (((8 : Int32) * nI k).toInt64 &&& 63).toBitVec.smod 64 = BitVec.ofNat 64 (8 * k) := by decide
theorem byA (v : Int64) {k : Nat} (hk : k < 8) : ((v >>> (((8 : Int32) * nI k).toInt64 &&& 63)).toInt32) &&& (255 : Int32) = nI (byN v k) := by
  rw [to32_and]
  congr 1
  unfold byN
  apply Nat.eq_of_testBit_eq
  intro i
  have e8 : (256 : Nat) = 2 ^ 8 := rfl
  rw [e8, Nat.testBit_mod_two_pow, Nat.testBit_mod_two_pow, Nat.testBit_div_two_pow]
  by_cases hi : i < 8
  · have e1 : (uN (v >>> (((8 : Int32) * nI k).toInt64 &&& 63))).testBit i = (v.toBitVec.sshiftRight (8 * k)).getLsbD i := by
      show ((v >>> (((8 : Int32) * nI k).toInt64 &&& 63)).toBitVec).getLsbD i = _
      rw [Int64.toBitVec_shiftRight, shA k hk]
      show (v.toBitVec.sshiftRight (BitVec.ofNat 64 (8 * k)).toNat).getLsbD i = _
      rw [BitVec.toNat_ofNat, Nat.mod_eq_of_lt (by omega)]
    rw [e1, BitVec.getLsbD_sshiftRight, if_pos (by omega)]
    have e2 : (!decide (64 ≤ i)) = true := by simp; omega
    rw [e2, Bool.true_and]
    rw [Nat.add_comm i (8 * k)]
    rfl
  · have e3 : decide (i < 8) = false := by simp; omega
    rw [e3, Bool.false_and, Bool.false_and]
theorem MV.s {n : Nat} {kd : Nat → Nat} {bs : Nat → List Nat} {s : PK} {I : Nat → Int32} {X : Nat → Nat → Int32} (h : MV (n, kd, bs, some s) I X) : EV n kd bs I X ∧ I 4 = 1 ∧ I 5 = nI s.1 ∧ (∀ e, e < n → X 6 e = nI (s.2.1 e)) ∧ GV s.2.2 I X ∧ TV bs s.2.2 X := h
section MBS
variable {E : PE} {σ0 σ : PS} {m : Nat} {Ma : Nat → Nat} {I : Nat → Int32} {X : Nat → Nat → Int32} {β : Type} {n : Nat} {kd : Nat → Nat} {bs : Nat → List Nat} {S : Option PK}
theorem gat_lt {gs : List Grp} {k : Nat} (h : k < (flat gs).length) : (gatF 0 gs).getD k 0 < gs.length := by
  have aux : ∀ (gs : List Grp) (b : Nat), ∀ x ∈ gatF b gs, x < b + gs.length := by
    intro gs
    induction gs with
    | nil => intro b x hx; exact nomatch hx
    | cons q r ih =>
      intro b x hx
      unfold gatF at hx
      rw [List.length_cons]
      rcases List.mem_append.mp hx with w | w
      · have := (List.mem_replicate.mp w).2; omega
      · have := ih (b + 1) x w; omega
  have hk2 : k < (gatF 0 gs).length := by rw [gatF_len]; exact h
  have := aux gs 0 _ (by rw [getD_at hk2]; exact List.getElem_mem hk2 : (gatF 0 gs).getD k 0 ∈ gatF 0 gs)
  omega
theorem take_d {α : Type} {l : List α} {k a : Nat} (h : k < a) (hl : k < l.length) (d : α) : (l.take a).drop k = l.getD k d :: (l.take a).drop (k + 1) := by
  have := drop_cons (T := l.take a) (i := k) (by rw [List.length_take]; omega) d
  rw [this]
  congr 1
  rw [List.getD_eq_getElem?_getD, List.getD_eq_getElem?_getD, List.getElem?_take_of_lt h]
theorem sp_poL {gs : List Grp} {a : Nat} (h : MB E σ0 σ m Ma I X) (hg : GV gs I X) (hv : EV n kd bs I X) (hn : n ≤ 30) (hl : (flat gs).length ≤ 30) (hb : ∀ e ∈ flat gs, e < n) (hgl : gs.length ≤ 30) (ha : a < (flat gs).length) : ∀ (c f k acc : Nat), a = k + c → c < f → f_X6_placeOf_L16 E f (some m) (nI a) (nI acc) (nI k) σ = some (nI (acc + gsum bs ((gatF 0 gs).getD a 0) (((flat gs).take a).drop k) (((gatF 0 gs).take a).drop k)), σ)
  | 0, f, k, acc, hc, hf => by
    obtain ⟨f, rfl⟩ : ∃ z, f = z + 1 := ⟨f - 1, by omega⟩
    rw [f_X6_placeOf_L16]
    refine e_t (nI_le (by omega) (by omega)) ?_
    rw [List.drop_eq_nil_of_le (by rw [List.length_take]; omega)]
    rfl
  | c + 1, f, k, acc, hc, hf => by
    obtain ⟨f, rfl⟩ : ∃ z, f = z + 1 := ⟨f - 1, by omega⟩
    have hk : k < (flat gs).length := by omega
    have hk2 : k < (gatF 0 gs).length := by rw [gatF_len]; exact hk
    have hd := take_d (l := flat gs) (a := a) (k := k) (by omega) hk 0
    have hd2 := take_d (l := gatF 0 gs) (a := a) (k := k) (by omega) hk2 0
    have hen : (flat gs).getD k 0 < n := hb _ (by rw [getD_at hk]; exact List.getElem_mem hk)
    obtain ⟨x1, x2⟩ := hg.2.2.1 k hk
    obtain ⟨-, z2⟩ := hg.2.2.1 a ha
    obtain ⟨-, y2, -⟩ := hv.2 _ hen
    have g1 := gat_lt hk
    have g2 := gat_lt ha
    rw [f_X6_placeOf_L16]
    refine e_f (nI_ge (by omega) (by omega)) (em_gr h (by decide) (em_al h (by decide) rfl (by show k < 30; omega) (em_gr h (by decide) (em_al h (by decide) rfl (by show a < 30; omega) ?_))))
    rw [x2, z2, hd, hd2]
    unfold f_X6_placeOf_B55
    show _ = some (nI (acc + ((if (gatF 0 gs).getD k 0 = (gatF 0 gs).getD a 0 then (bs ((flat gs).getD k 0)).length else 0) + gsum bs ((gatF 0 gs).getD a 0) (((flat gs).take a).drop (k + 1)) (((gatF 0 gs).take a).drop (k + 1)))), σ)
    by_cases z : (gatF 0 gs).getD k 0 = (gatF 0 gs).getD a 0
    · refine e_t (congrArg nI z) (em_gr h (by decide) (em_gr h (by decide) (em_al h (by decide) rfl (by show k < 30; omega) ?_)))
      rw [x1]
      refine em_al h (by decide) rfl (by show (flat gs).getD k 0 < 30; omega) ?_
      rw [y2, nI_add, nI_1, sp_poL h hg hv hn hl hb hgl ha c f (k + 1) _ (by omega) (by omega), if_pos z, Nat.add_assoc]
    · refine e_f (fun y => z ((nI_eq (by omega) (by omega)).mp y)) ?_
      have e0 : nI acc + (0 : Int32) = nI acc := nI_add acc 0
      rw [e0, nI_1, sp_poL h hg hv hn hl hb hgl ha c f (k + 1) _ (by omega) (by omega), if_neg z, Nat.zero_add]
theorem sp_placeOf6 {s : PK} {e : Nat} (hE : 1000 ≤ E.1) (hO : Ok E σ0) (h : MB E σ0 σ m Ma I X) (hg : GV s.2.2 I X) (hv : EV n kd bs I X) (htw : ∀ e, e < n → X 6 e = nI (s.2.1 e)) (hn : n ≤ 30) (hI : AI n kd bs s.2.1 s.1 s.2.2) (he : e < n) : f_X6_placeOf E (some m) (nI e) σ = some (nI (placeN bs s.2.1 s.2.2 e), σ) := by
  obtain ⟨l1, l2, l3⟩ := hI.mb hn
  have hm := hI.tmem he
  have hix := (ix_mem _ _).mpr hm
  refine oM_rd (h.ok hO) ?_
  unfold g_X6_placeOf
  refine em_gr h (by decide) (em_al h (by decide) rfl (by show e < 30; omega) (em_K h ?_))
  rw [htw e he]
  refine bd_rd (sp_pio hE hO h hg l1 l3 hm) ?_
  have run := sp_poL (E := E) h hg hv hn l1 (fun x hx => ((hI.2.2.1 x).mp hx).1) l2 hix (ix (s.2.1 e) (flat s.2.2)) E.1 0 0 (by omega) (by omega)
  rw [List.drop_zero, List.drop_zero, Nat.zero_add, gat_ix _ _ _ hm, gsum_take bs _ _ _ hm] at run
  exact run
theorem sp_place6 (hE : 1000 ≤ E.1) (hO : Ok E σ) (hA : AST (n, kd, bs, S)) (h : MB E σ σ m Ma I X) (hv : MV (n, kd, bs, S) I X) (v : Int32) : f_X6_place E (some m) v σ = some (aPlace v (n, kd, bs, S), σ) := by
  have hn : n ≤ 30 := hA.1.1
  refine oM_rd hO ?_
  unfold g_X6_place f_X6_place_B27 aPlace
  refine em_K h (bd_rd (sp_isEntry6 h hO hn hv.1.1 v) ?_)
  rcases in2 v (L := n) (by omega) with ⟨e1, e2⟩ | ⟨e1, e2, j, hj, rfl⟩
  · rw [if_pos e1, if_pos e1, if_pos rfl]
  · rw [if_neg e1, if_neg e1, if_neg ne01]
    refine em_gi h ?_
    cases S with
    | none => rw [show I 4 = 0 from hv.2]; exact e_t rfl rfl
    | some s =>
      obtain ⟨a1, a2, a3, gv, -⟩ := hv.2
      rw [a1]
      refine e_f ne01 (em_K h (bd_rd (sp_placeOf6 hE hO h gv hv.1 a3 hn (hA.2 s rfl) hj) ?_))
      show _ = some (nI (placeN bs s.2.1 s.2.2 (cl (nI j))), σ)
      rw [cl_nI (by omega)]
theorem tk0 (g j : Nat) : (5400 : Int32) * nI g + (3 : Int32) * nI j = nI (5400 * g + 3 * j) := by
  have e1 : (5400 : Int32) * nI g = nI (5400 * g) := pk_mul 5400 g
  have e2 : (3 : Int32) * nI j = nI (3 * j) := pk_mul 3 j
  rw [e1, e2, nI_add]
theorem sp_acL {T : List (Nat × Nat × Nat)} {g b : Nat} (h : MB E σ0 σ m Ma I X) (ht : TV1 T X g) (hg : g < 30) (hT : ∀ x ∈ T, 1 ≤ x.2.2 ∧ x.2.2 ≤ 60) (hb : b ≤ 100000) (hl : T.length ≤ 1800) : ∀ (c f j th : Nat), T.length = j + c → c < f → th ≤ 60 * j → b - th ≤ ((T.drop j).map (fun x => x.2.2)).sum → f_X6_access_L58 E f (some m) (nI g) (nI b) (nI j) (nI th) σ = some (nI (j + till (T.drop j) (b - th)), σ)
  | 0, f, j, th, hc, hf, h1, h2 => by
    obtain ⟨f, rfl⟩ : ∃ z, f = z + 1 := ⟨f - 1, by omega⟩
    rw [List.drop_eq_nil_of_le (by omega)] at h2 ⊢
    have h2 : b - th ≤ 0 := h2
    rw [f_X6_access_L58]
    exact e_t (nI_le (by omega) (by omega)) rfl
  | c + 1, f, j, th, hc, hf, h1, h2 => by
    obtain ⟨f, rfl⟩ : ∃ z, f = z + 1 := ⟨f - 1, by omega⟩
    have hj : j < T.length := by omega
    have hd := drop_cons (T := T) hj (0, 0, 0)
    have hx := hT _ (by rw [getD_at hj]; exact List.getElem_mem hj : T.getD j (0, 0, 0) ∈ T)
    rw [hd] at h2 ⊢
    rw [List.map_cons, List.sum_cons] at h2
    rw [f_X6_access_L58]
    by_cases z : b ≤ th
    · refine e_t (nI_le z (by omega)) ?_
      have : b - th = 0 := by omega
      rw [this, till_0]
      rfl
    · refine e_f (nI_ge (by omega) (by omega)) (em_gr h (by decide) (em_al h (by decide) (by rw [tk0]; exact nI_add _ 2) (by show 5400 * g + 3 * j + 2 < 162000; omega) ?_))
      rw [(ht.2 j hj).2.2, nI_1, nI_add, sp_acL h ht hg hT hb hl c f (j + 1) _ (by omega) (by omega) (by omega) (by omega)]
      have et : till (T.getD j (0, 0, 0) :: T.drop (j + 1)) (b - th) = 1 + till (T.drop (j + 1)) (b - th - (T.getD j (0, 0, 0)).2.2) := if_neg (by omega)
      rw [et]
      congr 3
      have : b - (th + (T.getD j (0, 0, 0)).2.2) = b - th - (T.getD j (0, 0, 0)).2.2 := by omega
      rw [this]
      omega
/-- all tokens together tell all bytes -/
theorem tokF_sum (c : List Nat) : ∀ k p, p ≤ c.length → c.length ≤ p + k → ((tokF c k p).map (fun x => x.2.2)).sum = c.length - p
  | 0, p, h1, h2 => by
    show 0 = _
    omega
  | k + 1, p, h1, h2 => by
    unfold tokF
    by_cases z : c.length ≤ p
    · rw [if_pos z]
      show 0 = _
      omega
    · rw [if_neg z]
      have hle := fc_le c p (min 60 (c.length - p)) p
      by_cases y : (fc c p (min 60 (c.length - p)) p).2 < 4
      · rw [if_pos y, List.map_cons, List.sum_cons, tokF_sum c k (p + 1) (by omega) (by omega)]
        show 1 + (c.length - (p + 1)) = _
        omega
      · rw [if_neg y, List.map_cons, List.sum_cons, tokF_sum c k _ (by omega) (by omega)]
        show (fc c p (min 60 (c.length - p)) p).2 + _ = _
        omega
theorem toks_sum (c : List Nat) : ((toks c).map (fun x => x.2.2)).sum = c.length := tokF_sum c c.length 0 (Nat.zero_le _) (by omega)
theorem sp_access6 (hE : 1000 ≤ E.1) (hO : Ok E σ) (hA : AST (n, kd, bs, S)) (h : MB E σ σ m Ma I X) (hv : MV (n, kd, bs, S) I X) (v : Int32) : f_X6_access E (some m) v σ = some (aAccess v (n, kd, bs, S), σ) := by
  have hn : n ≤ 30 := hA.1.1
  refine oM_rd hO ?_
  unfold g_X6_access f_X6_access_B51 aAccess
  refine em_K h (bd_rd (sp_isEntry6 h hO hn hv.1.1 v) ?_)
  rcases in2 v (L := n) (by omega) with ⟨e1, e2⟩ | ⟨e1, e2, j, hj, rfl⟩
  · rw [if_pos e1, if_pos e1, if_pos rfl]
  · rw [if_neg e1, if_neg e1, if_neg ne01]
    refine em_gi h ?_
    cases S with
    | none => rw [show I 4 = 0 from hv.2]; exact e_t rfl rfl
    | some s =>
      obtain ⟨a1, a2, a3, gv, tv⟩ := hv.2
      have hI : AI n kd bs s.2.1 s.1 s.2.2 := hA.2 s rfl
      obtain ⟨l1, l2, l3⟩ := hI.mb hn
      have hm := hI.tmem hj
      obtain ⟨x1, x2⟩ := gx_lt _ _ hm
      have hbl : (bs j).length ≤ 60 := (hA.1.2 j hj).2.1
      obtain ⟨-, y2, -⟩ := hv.1.2 j hj
      have y2 : X 2 j = nI (bs j).length := y2
      have hgr : f_X6_group E (some m) (nI j) σ = some (nI (gx (s.2.1 j) s.2.2), σ) := by
        rw [sp_group6 hE hO hA h hv (nI j)]
        unfold aGroup
        rw [if_neg e1]
        show some (nI (gx (s.2.1 (cl (nI j))) s.2.2), σ) = _
        rw [cl_nI (by omega)]
      have tv1 : TV1 (toks (contG bs s.2.2 (gx (s.2.1 j) s.2.2))) X (gx (s.2.1 j) s.2.2) := tv (gx (s.2.1 j) s.2.2) x1
      have hqm : s.2.2.getD (gx (s.2.1 j) s.2.2) dG ∈ s.2.2 := by rw [getD_at x1]; exact List.getElem_mem x1
      have hc400 := (hI.2.2.2.1 _ hqm).2.2
      have htl := toks_len (contG bs s.2.2 (gx (s.2.1 j) s.2.2))
      have hpl := place_le (bs := bs) x2
      rw [(hI.1 j hj).2.2.2] at hpl
      rw [a1]
      refine e_f ne01 (em_K h (bd_rd hgr (em_gr h (by decide) (em_al h (by decide) rfl (by show j < 30; omega) ?_))))
      rw [y2]
      show _ = some (nI (till (toks (contG bs s.2.2 (gx (s.2.1 (cl (nI j))) s.2.2))) (if (bs (cl (nI j))).length = 0 then 0 else placeN bs s.2.1 s.2.2 (cl (nI j)) + (bs (cl (nI j))).length)), σ)
      rw [cl_nI (by omega)]
      have hcl : (contG bs s.2.2 (gx (s.2.1 j) s.2.2)).length ≤ 400 := hc400
      have fin : ∀ b, b ≤ (contG bs s.2.2 (gx (s.2.1 j) s.2.2)).length → f_X6_access_L58 E E.1 (some m) (nI (gx (s.2.1 j) s.2.2)) (nI b) 0 0 σ = some (nI (till (toks (contG bs s.2.2 (gx (s.2.1 j) s.2.2))) b), σ) := by
        intro b hb
        have run := sp_acL (E := E) (b := b) h tv1 (by omega) (fun x hx => tokF_many _ _ _ x hx) (by omega) (by omega) (toks (contG bs s.2.2 (gx (s.2.1 j) s.2.2))).length E.1 0 0 (by omega) (by omega) (by omega) (by rw [List.drop_zero, toks_sum]; omega)
        rw [List.drop_zero, Nat.zero_add, Nat.sub_zero] at run
        exact run
      by_cases z : (bs j).length = 0
      · rw [if_pos z]
        refine e_t (by rw [z]; rfl) (fin 0 (Nat.zero_le _))
      · rw [if_neg z]
        refine e_f (nI_ne0 (by omega) (by omega)) (em_K h (bd_rd (sp_placeOf6 hE hO h gv hv.1 a3 hn hI hj) (em_gr h (by decide) (em_al h (by decide) rfl (by show j < 30; omega) ?_))))
        rw [y2, nI_add]
        exact fin _ hpl
theorem sp_szL {T : List (Nat × Nat × Nat)} {g : Nat} (h : MB E σ0 σ m Ma I X) (ht : TV1 T X g) (hg : g < 30) (hT : ∀ x ∈ T, x.1 < 256) (hl : T.length ≤ 1800) : ∀ (c f j acc : Nat), T.length = j + c → c < f → f_X6_sizeOf_L4 E f (some m) (nI g) (nI acc) (nI j) σ = some (nI (acc + sizeT (T.drop j)), σ)
  | 0, f, j, acc, hc, hf => by
    obtain ⟨f, rfl⟩ : ∃ z, f = z + 1 := ⟨f - 1, by omega⟩
    rw [f_X6_sizeOf_L4]
    refine em_gr h (by decide) (em_al h (by decide) rfl (by show g < 30; omega) ?_)
    rw [ht.1]
    refine e_t (nI_le (by omega) (by omega)) ?_
    rw [List.drop_eq_nil_of_le (by omega)]
    rfl
  | c + 1, f, j, acc, hc, hf => by
    obtain ⟨f, rfl⟩ : ∃ z, f = z + 1 := ⟨f - 1, by omega⟩
    have hj : j < T.length := by omega
    have hd := drop_cons (T := T) hj (0, 0, 0)
    have hx := hT _ (by rw [getD_at hj]; exact List.getElem_mem hj : T.getD j (0, 0, 0) ∈ T)
    rw [f_X6_sizeOf_L4]
    refine em_gr h (by decide) (em_al h (by decide) rfl (by show g < 30; omega) ?_)
    rw [ht.1]
    refine e_f (nI_ge hj (by omega)) (em_gr h (by decide) (em_al h (by decide) (tk0 g j) (by show 5400 * g + 3 * j < 162000; omega) ?_))
    rw [(ht.2 j hj).1, hd]
    unfold f_X6_sizeOf_B37
    show _ = some (nI (acc + (tsz (T.getD j (0, 0, 0)) + sizeT (T.drop (j + 1)))), σ)
    unfold tokV tsz
    by_cases z : (T.getD j (0, 0, 0)).2.1 = 0
    · rw [if_pos z, if_pos z]
      refine e_t (nI_pos' (by omega)) ?_
      have e0 : nI acc + (1 : Int32) = nI (acc + 1) := nI_add acc 1
      rw [e0, nI_1, sp_szL h ht hg hT hl c f (j + 1) _ (by omega) (by omega), Nat.add_assoc]
    · rw [if_neg z, if_neg z]
      refine e_f (by decide) ?_
      have e0 : nI acc + (3 : Int32) = nI (acc + 3) := nI_add acc 3
      rw [e0, nI_1, sp_szL h ht hg hT hl c f (j + 1) _ (by omega) (by omega), Nat.add_assoc]
theorem tokF_val {c : List Nat} (hc : ∀ x ∈ c, x < 256) : ∀ k p, ∀ x ∈ tokF c k p, x.1 < 256
  | 0, p, x, h => by cases h
  | k + 1, p, x, h => by
    unfold tokF at h
    by_cases z : c.length ≤ p
    · rw [if_pos z] at h; cases h
    · rw [if_neg z] at h
      by_cases y : (fc c p (min 60 (c.length - p)) p).2 < 4
      · rw [if_pos y] at h
        rcases List.mem_cons.mp h with h | h
        · rw [h]; exact getD_lt hc p
        · exact tokF_val hc k _ x h
      · rw [if_neg y] at h
        rcases List.mem_cons.mp h with h | h
        · rw [h]; show 0 < 256; omega
        · exact tokF_val hc k _ x h
theorem AI.cg {n : Nat} {kd tw : Nat → Nat} {bs : Nat → List Nat} {bd : Nat} {gs : List Grp} (hI : AI n kd bs tw bd gs) (hA : AE n kd bs) {g : Nat} (hg : g < gs.length) : (contG bs gs g).length ≤ 400 ∧ ∀ x ∈ contG bs gs g, x < 256 := by
  have hqm : gs.getD g dG ∈ gs := by rw [getD_at hg]; exact List.getElem_mem hg
  refine ⟨(hI.2.2.2.1 _ hqm).2.2, cont_lt (n := n) (fun i hi => ((hI.2.2.1 i).mp (mem_flat.mpr ⟨_, hqm, hi⟩)).1) (fun e he => (hA.2 e he).2.2)⟩
theorem sp_sizeOf {gs : List Grp} {g : Nat} {tw : Nat → Nat} {bd : Nat} (hE : 2000 ≤ E.1) (hO : Ok E σ0) (h : MB E σ0 σ m Ma I X) (tv : TV bs gs X) (hA : AE n kd bs) (hI : AI n kd bs tw bd gs) (hg : g < gs.length) : f_X6_sizeOf E (some m) (nI g) σ = some (nI (sizeT (toks (contG bs gs g))), σ) := by
  obtain ⟨c1, c2⟩ := hI.cg hA hg
  obtain ⟨l1, l2, l3⟩ := hI.mb hA.1
  have htl := toks_len (contG bs gs g)
  have run := sp_szL (E := E) h (tv g hg) (by omega) (tokF_val c2 _ _) (by omega) (toks (contG bs gs g)).length E.1 0 0 (by omega) (by omega)
  rw [List.drop_zero, Nat.zero_add] at run
  exact oM_rd (h.ok hO) run
theorem sp_token6 (hE : 1000 ≤ E.1) (hO : Ok E σ) (hA : AST (n, kd, bs, S)) (h : MB E σ σ m Ma I X) (hv : MV (n, kd, bs, S) I X) (v i w : Int32) : f_X6_token E (some m) v i w σ = some (aToken v i w (n, kd, bs, S), σ) := by
  have hn : n ≤ 30 := hA.1.1
  refine oM_rd hO ?_
  unfold g_X6_token f_X6_token_B68 f_X6_token_B69 aToken
  refine em_gi h ?_
  cases S with
  | none => rw [show I 4 = 0 from hv.2]; exact e_t rfl rfl
  | some s =>
    obtain ⟨a1, a2, a3, gv, tv⟩ := hv.2
    have hI : AI n kd bs s.2.1 s.1 s.2.2 := hA.2 s rfl
    obtain ⟨l1, l2, l3⟩ := hI.mb hn
    rw [a1]
    refine e_f ne01 (em_gi h ?_)
    rw [gv.2.1]
    refine bd_rd (sp_isIn hO v 0 _) ?_
    rw [if_iff (out_iff v (by omega))]
    show _ = some (if v < 0 ∨ nI s.2.2.length ≤ v then -1 else if i < 0 ∨ nI (toks (contG bs s.2.2 (cl v))).length ≤ i then -1 else if w = 0 then tokV ((toks (contG bs s.2.2 (cl v))).getD (cl i) (0, 0, 0)) else if w = 1 then nI ((toks (contG bs s.2.2 (cl v))).getD (cl i) (0, 0, 0)).2.1 else if w = 2 then nI ((toks (contG bs s.2.2 (cl v))).getD (cl i) (0, 0, 0)).2.2 else -1, σ)
    rcases in2 v (L := s.2.2.length) (by omega) with ⟨e1, e2⟩ | ⟨e1, e2, g, hg, rfl⟩
    · rw [if_pos e1, if_pos e1, if_pos rfl]
    · rw [if_neg e1, if_neg e1, if_neg ne01, cl_nI (show g < 2 ^ 31 by omega)]
      obtain ⟨c1, c2⟩ := hI.cg hA.1 hg
      have htl := toks_len (contG bs s.2.2 g)
      obtain ⟨t1, t2⟩ := tv g hg
      have t1 : X 13 g = nI (toks (contG bs s.2.2 g)).length := t1
      refine em_gr h (by decide) (em_al h (by decide) rfl (by show g < 30; omega) ?_)
      rw [t1]
      refine bd_rd (sp_isIn hO i 0 _) ?_
      rw [if_iff (out_iff i (by omega))]
      rcases in2 i (L := (toks (contG bs s.2.2 g)).length) (by omega) with ⟨d1, d2⟩ | ⟨d1, d2, j, hj, rfl⟩
      · rw [if_pos d1, if_pos d1, if_pos rfl]
      · rw [if_neg d1, if_neg d1, if_neg ne01, cl_nI (show j < 2 ^ 31 by omega)]
        obtain ⟨x1, x2, x3⟩ := t2 j hj
        have x1 : X 14 (5400 * g + 3 * j) = tokV ((toks (contG bs s.2.2 g)).getD j (0, 0, 0)) := x1
        have x2 : X 14 (5400 * g + 3 * j + 1) = nI ((toks (contG bs s.2.2 g)).getD j (0, 0, 0)).2.1 := x2
        have x3 : X 14 (5400 * g + 3 * j + 2) = nI ((toks (contG bs s.2.2 g)).getD j (0, 0, 0)).2.2 := x3
        refine bd_rd (sp_isIn hO w 0 2) ?_
        by_cases w0 : w = 0
        · subst w0
          rw [if_neg (show ¬ ((0 : Int32) < 0 ∨ (2 : Int32) < 0) by decide), if_neg ne01, if_pos rfl]
          refine em_gr h (by decide) (em_al h (by decide) (by rw [tk0]; exact nI_add _ 0) (by show 5400 * g + 3 * j + 0 < 162000; omega) ?_)
          rw [Nat.add_zero, x1]
        · rw [if_neg w0]
          by_cases w1 : w = 1
          · subst w1
            rw [if_neg (show ¬ ((1 : Int32) < 0 ∨ (2 : Int32) < 1) by decide), if_neg ne01, if_pos rfl]
            refine em_gr h (by decide) (em_al h (by decide) (by rw [tk0]; exact nI_add _ 1) (by show 5400 * g + 3 * j + 1 < 162000; omega) ?_)
            rw [x2]
          · rw [if_neg w1]
            by_cases w2 : w = 2
            · subst w2
              rw [if_neg (show ¬ ((2 : Int32) < 0 ∨ (2 : Int32) < 2) by decide), if_neg ne01, if_pos rfl]
              refine em_gr h (by decide) (em_al h (by decide) (by rw [tk0]; exact nI_add _ 2) (by show 5400 * g + 3 * j + 2 < 162000; omega) ?_)
              rw [x3]
            · rw [if_neg w2]
              have hw : w < 0 ∨ (2 : Int32) < w := by
                by_cases q : w < 0
                · exact Or.inl q
                · obtain ⟨k, hk, rfl⟩ := nI_of q
                  right
                  have : k ≠ 0 := fun z => w0 (by rw [z]; rfl)
                  have : k ≠ 1 := fun z => w1 (by rw [z]; rfl)
                  have : k ≠ 2 := fun z => w2 (by rw [z]; rfl)
                  exact (show nI 2 < nI k from nI_lt (by omega) hk)
              rw [if_pos hw, if_pos rfl]
end MBS
