/-! ENTRIES, their methods -/
/-- (out of laws/BITS.to-paste) -/
def uN (x : Int64) : Nat := x.toUInt64.toNat
theorem uN_shr (x : Int64) (s : UInt64) : uN (x.toUInt64 >>> s).toInt64 = uN x / 2 ^ (s.toNat % 64) := by
  show (x.toUInt64 >>> s).toNat = _
  rw [UInt64.toNat_shiftRight, Nat.shiftRight_eq_div_pow]
  rfl
theorem uN_sk (x : Int64) {k : Nat} (hk : k < 64) : uN (x.toUInt64 >>> ((nI k).toInt64.toUInt64 &&& Int64.toUInt64 63)).toInt64 = uN x / 2 ^ k := by
  have h : ((nI k).toInt64.toUInt64 &&& Int64.toUInt64 63).toNat % 64 = k := by
    rw [nI_l (by omega), UInt64.toNat_and]
    have e : (lN k).toUInt64.toNat = k % 2 ^ 64 := rfl
    have e2 : (Int64.toUInt64 63).toNat = 2 ^ 6 - 1 := by decide
    rw [e, e2, Nat.and_two_pow_sub_one_eq_mod]
    omega
  rw [uN_shr, h]
/-- byte k of a number -/
def byN (v : Int64) (k : Nat) : Nat := uN v / 2 ^ (8 * k) % 256
theorem byN_lt (v : Int64) (k : Nat) : byN v k < 256 := Nat.mod_lt _ (by decide)
theorem to32_and (x : Int64) : x.toInt32 &&& 255 = nI (uN x % 256) := by
  rw [pk_and (x.toInt32) (m := 255) 8 (by decide)]
  congr 1
  have e : x.toInt32.toBitVec.toNat = uN x % 2 ^ 32 := by
    show (x.toBitVec.signExtend 32).toNat = _
    rw [BitVec.signExtend_eq_setWidth_of_le _ (by decide), BitVec.toNat_setWidth]
    rfl
  rw [e]
  omega
theorem byI (v : Int64) {k : Nat} (hk : k < 8) : (((v.toUInt64 >>> (((8 : Int32) * nI k).toInt64.toUInt64 &&& Int64.toUInt64 63)).toInt64).toInt32) &&& (255 : Int32) = nI (byN v k) := by
  have e : (8 : Int32) * nI k = nI (8 * k) := pk_mul 8 k
  rw [e, to32_and, uN_sk v (by omega)]
  rfl
/-- the bytes that come -/
def newB (v : Int64) (n : Nat) : List Nat := (List.range n).map (byN v)
theorem newB_len (v : Int64) (n : Nat) : (newB v n).length = n := by simp [newB]
theorem newB_succ (v : Int64) (n : Nat) : newB v (n + 1) = newB v n ++ [byN v n] := by simp [newB, List.range_succ]
theorem newB_lt (v : Int64) (n : Nat) : ∀ x ∈ newB v n, x < 256 := by
  intro x hx
  obtain ⟨k, -, rfl⟩ := List.mem_map.mp hx
  exact byN_lt v k
/-- the cells of an Entry -/
def ex (σ : PS) (e b : Nat) : Prop := b = e ∨ sR σ 2 2 e = some b ∨ sR σ 2 3 e = some b
/-- nothing made, no reference changed -/
def Sk (σ τ : PS) : Prop := (sN τ = sN σ ∧ sS τ = sS σ) ∧ sK τ = sK σ ∧ sR τ = sR σ ∧ sL τ = sL σ
theorem Sk.rf {σ : PS} : Sk σ σ := ⟨⟨rfl, rfl⟩, rfl, rfl, rfl⟩
theorem Sk.tr {σ τ ρ : PS} (h : Sk σ τ) (k : Sk τ ρ) : Sk σ ρ := ⟨⟨k.1.1.trans h.1.1, k.1.2.trans h.1.2⟩, k.2.1.trans h.2.1, k.2.2.1.trans h.2.2.1, k.2.2.2.trans h.2.2.2⟩
theorem Sk.wf {E : PE} {σ τ : PS} (h : Sk σ τ) (hw : Wf E σ) : Wf E τ := hw.same h.1.1 h.2.1 h.2.2.1
theorem Sk.ok {E : PE} {σ τ : PS} (h : Sk σ τ) (hO : Ok E σ) : Ok E τ := ⟨by rw [h.1.1]; exact hO.1, by rw [h.1.2]; exact hO.2⟩
theorem Sk.bk {E : PE} {σ τ : PS} (h : Sk σ τ) (hO : Ok E σ) : sN σ ≤ sN τ ∧ sS σ ≤ sS τ ∧ sN τ ≤ E.2.1 ∧ sS τ ≤ E.2.2.1 := by
  have a1 := h.1.1
  have a2 := h.1.2
  have a3 := hO.1
  have a4 := hO.2
  omega
theorem isE0.lens {σ : PS} {e b m num kd tw : Nat} {bs : List Nat} (h : isE0 σ e b m num kd bs tw) : bs.length ≤ 60 := h.2.2.2.2.2.1.1
theorem sp_appL {E : PE} {e b m num kd tw N : Nat} {v : Int64} (hE : 100 ≤ E.1) (hN : N ≤ 8) : ∀ (k n i : Nat) (σ : PS) (bs : List Nat), N = i + k → k < n → Wf E σ → Ok E σ → isE0 σ e b m num kd bs tw → bs.length + k ≤ 60 →
    wp (f_X1_append_L3 E n (some e) (nI N) v (nI i) σ) (fun _ τ => isE τ e num kd (bs ++ (List.range k).map (fun q => byN v (i + q))) tw ∧ Fr σ τ (ex σ e) ∧ Sk σ τ)
  | 0, n, i, σ, bs, hm, hn, hw, hO, h, hl => by
    obtain ⟨n, rfl⟩ : ∃ z, n = z + 1 := ⟨n - 1, by omega⟩
    rw [f_X1_append_L3]
    refine wp_t (nI_le (by omega) (by omega)) ?_
    unfold f_X1_append_B55
    obtain ⟨g, hg, g1⟩ := sp_countMarks hE hw hO h
    refine wp_K rfl h.1 (wp_rd hg (wp_ret ⟨?_, ?_, ⟨⟨rfl, rfl⟩, rfl, rfl, rfl⟩⟩))
    · rw [List.range_zero, List.map_nil, List.append_nil]; exact g1
    · exact Fr.pAs.wk (fun b _ z => by rw [z]; exact Or.inr (Or.inr h.2.2.2.2.2.2.2.1.1))
  | k + 1, n, i, σ, bs, hm, hn, hw, hO, h, hl => by
    obtain ⟨n, rfl⟩ : ∃ z, n = z + 1 := ⟨n - 1, by omega⟩
    obtain ⟨h1, h2, h3, h4, h5, ⟨h6, h6'⟩, ⟨r1, r2, r3⟩, ⟨q1, q2, q3⟩, h9⟩ := id h
    rw [f_X1_append_L3]
    refine wp_f (fun z => by have := (nI_leI (by omega) (by omega)).mp z; omega) (wp_gi rfl h1 ?_)
    rw [h4]
    refine wp_f (show ¬ nI 60 ≤ nI bs.length from nI_ge (by omega) (by omega)) (wp_gr rfl h1 (wp_gi rfl h1 (wp_as (j := bs.length) r1 h4 r2 (by omega) (by omega) (wp_gi rfl h1 (wp_pi rfl h1 ?_)))))
    rw [byI v (by omega)]
    obtain ⟨ρ, hρ⟩ : ∃ ρ, ρ = pI 2 4 e (sI (pA b bs.length (nI (byN v i)) σ) 2 4 e + 1) (pA b bs.length (nI (byN v i)) σ) := ⟨_, rfl⟩
    have hsk : Sk σ ρ := by rw [hρ]; exact ⟨⟨rfl, rfl⟩, rfl, rfl, rfl⟩
    have hfr : Fr σ ρ (ex σ e) := by
      rw [hρ]
      exact Fr.pA.tr Fr.pI (fun b _ z => by rw [z]; exact Or.inr (Or.inl r1)) (fun _ _ z => Or.inl z)
    have hρE : isE0 ρ e b m num kd (bs ++ [byN v i]) tw := by
      rw [hρ]
      have hIne : ∀ k2, k2 ≠ 4 → sI (pI 2 4 e (sI (pA b bs.length (nI (byN v i)) σ) 2 4 e + 1) (pA b bs.length (nI (byN v i)) σ)) 2 k2 e = sI σ 2 k2 e := by
        intro k2 hk2
        rw [sI_pI, if_neg (fun z => hk2 z.2.1)]
        rfl
      refine ⟨h1, by rw [hIne 0 (by decide)]; exact h2, by rw [hIne 1 (by decide)]; exact h3, ?_, by rw [hIne 5 (by decide)]; exact h5, ⟨by rw [List.length_append]; show bs.length + 1 ≤ 60; omega, ?_⟩, ⟨r1, r2, r3⟩, ⟨q1, q2, q3⟩, fun j hj => ?_⟩
      · rw [sI_pI, if_pos ⟨rfl, rfl, rfl⟩, List.length_append]
        show sI σ 2 4 e + 1 = nI (bs.length + 1)
        rw [h4, nI_1]
      · intro x hx
        rcases List.mem_append.mp hx with hx | hx
        · exact h6' x hx
        · rw [List.mem_singleton.mp hx]; exact byN_lt v i
      · rw [List.length_append] at hj
        have hj : j < bs.length + 1 := hj
        show (if b = b ∧ j = bs.length then nI (byN v i) else sA σ b j) = _
        by_cases e : j = bs.length
        · rw [if_pos ⟨rfl, e⟩, e, List.getD_eq_getElem?_getD, List.getElem?_append_right (Nat.le_refl _), Nat.sub_self]; rfl
        · rw [if_neg (fun z => e z.2), h9 j (by omega), List.getD_eq_getElem?_getD, List.getD_eq_getElem?_getD, List.getElem?_append_left (by omega)]
    show wp (f_X1_append_L3 E n (some e) (nI N) v (nI i + 1) (pI 2 4 e (sI (pA b bs.length (nI (byN v i)) σ) 2 4 e + 1) (pA b bs.length (nI (byN v i)) σ))) _
    rw [← hρ, nI_1]
    refine wp_mono (sp_appL hE hN k n (i + 1) ρ (bs ++ [byN v i]) (by omega) (by omega) (hsk.wf hw) (hsk.ok hO) hρE (by rw [List.length_append]; show bs.length + 1 + k ≤ 60; omega)) ?_
    rintro _ τ ⟨t1, t2, t3⟩
    refine ⟨?_, ?_, hsk.tr t3⟩
    · have el : bs ++ (List.range (k + 1)).map (fun q => byN v (i + q)) = bs ++ [byN v i] ++ (List.range k).map (fun q => byN v (i + 1 + q)) := by
        rw [List.range_succ_eq_map, List.map_cons, List.map_map, List.append_assoc, List.singleton_append, Nat.add_zero]
        congr 2
        refine List.map_congr_left (fun q _ => ?_)
        show byN v (i + (q + 1)) = _
        congr 1
        omega
      rw [el]
      exact t1
    · refine hfr.tr t2 (fun _ _ z => z) (fun b2 _ z => ?_)
      unfold ex at z ⊢
      rw [hsk.2.2.1] at z
      exact z
theorem sp_append {E : PE} {σ : PS} {e num kd tw n : Nat} {bs : List Nat} {v : Int64} (hE : 100 ≤ E.1) (hw : Wf E σ) (hO : Ok E σ) (h : isE σ e num kd bs tw) (hn : n ≤ 8) (hl : bs.length + n ≤ 60) :
    wp (f_X1_append E (some e) (nI n) v σ) (fun _ τ => isE τ e num kd (bs ++ newB v n) tw ∧ Fr σ τ (ex σ e) ∧ Sk σ τ) := by
  obtain ⟨b, m, h0, -⟩ := h
  refine wp_oM (E := E) (wp_mono (sp_appL hE hn n E.1 0 σ bs (by omega) (by omega) hw hO h0 (by omega)) ?_)
  rintro _ τ ⟨t1, t2, t3⟩
  refine ⟨t3.bk hO, ?_, t2, t3⟩
  have el : (List.range n).map (fun q => byN v (0 + q)) = newB v n := by
    unfold newB
    exact List.map_congr_left (fun q _ => by rw [Nat.zero_add])
  rw [← el]
  exact t1
theorem sp_replace {E : PE} {σ : PS} {e num kd tw i x : Nat} {bs : List Nat} (hE : 100 ≤ E.1) (hw : Wf E σ) (hO : Ok E σ) (h : isE σ e num kd bs tw) (hi : i < bs.length) (hx : x < 256) :
    wp (f_X1_replace E (some e) (nI i) (nI x) σ) (fun _ τ => isE τ e num kd (bs.set i x) tw ∧ Fr σ τ (ex σ e) ∧ Sk σ τ) := by
  obtain ⟨b, m, h0, -⟩ := h
  obtain ⟨h1, h2, h3, h4, h5, ⟨h6, h6'⟩, ⟨r1, r2, r3⟩, ⟨q1, q2, q3⟩, h9⟩ := id h0
  refine wp_oM (E := E) ?_
  unfold g_X1_replace
  refine wp_f (nI_pos (by omega)) (wp_gi rfl h1 ?_)
  rw [h4]
  refine wp_f (nI_ge hi (by omega)) (wp_gr rfl h1 (wp_as r1 rfl r2 (by omega) (by omega) (wp_K rfl h1 ?_)))
  have hE0 : isE0 (pA b i (nI x) σ) e b m num kd (bs.set i x) tw := by
    refine ⟨h1, h2, h3, by rw [List.length_set]; exact h4, h5, ⟨by rw [List.length_set]; exact h6, ?_⟩, ⟨r1, r2, r3⟩, ⟨q1, q2, q3⟩, fun j hj => ?_⟩
    · intro y hy
      rcases List.mem_or_eq_of_mem_set hy with z | z
      · exact h6' y z
      · rw [z]; exact hx
    · rw [List.length_set] at hj
      rw [sA_pA, List.getD_eq_getElem?_getD, List.getElem?_set]
      by_cases z : j = i
      · rw [if_pos ⟨rfl, z⟩, if_pos z.symm, if_pos hi]; rfl
      · rw [if_neg (fun y => z y.2), if_neg (fun y => z y.symm), h9 j hj, List.getD_eq_getElem?_getD]
  obtain ⟨g, hg, g1⟩ := sp_countMarks (σ := pA b i (nI x) σ) hE (hw.same rfl rfl rfl) hO hE0
  refine wp_rd hg (wp_ret ⟨?_, g1, ?_, ⟨⟨rfl, rfl⟩, rfl, rfl, rfl⟩⟩)
  · exact ⟨Nat.le_refl _, Nat.le_refl _, hO.1, hO.2⟩
  · exact Fr.pA.tr Fr.pAs (fun b2 _ z => by rw [z]; exact Or.inr (Or.inl r1)) (fun b2 _ z => by rw [z]; exact Or.inr (Or.inr q1))
theorem sp_isKept {E : PE} {σ : PS} {e num kd tw : Nat} {bs : List Nat} (hO : Ok E σ) (h : isE σ e num kd bs tw) (h1 : num < 1000) (h2 : tw < 1000) : f_X1_isKept E (some e) σ = some (if tw = num then 1 else 0, σ) := by
  obtain ⟨b, m, h0, -⟩ := h
  refine oM_rd hO ?_
  unfold g_X1_isKept
  refine e_gi rfl h0.1 (e_gi rfl h0.1 ?_)
  rw [h0.2.1, h0.2.2.2.2.1]
  by_cases e2 : tw = num
  · rw [if_pos (congrArg nI e2), if_pos e2]; rfl
  · rw [if_neg (fun z => e2 ((nI_eq (by omega) (by omega)).mp z)), if_neg e2]; rfl
/-- the same bytes from a place on -/
theorem sp_likeL {E : PE} {σ : PS} {e1 e2 num1 kd1 tw1 num2 kd2 tw2 : Nat} {b1 b2 : List Nat} (h1 : isE σ e1 num1 kd1 b1 tw1) (h2 : isE σ e2 num2 kd2 b2 tw2) (hl : b1.length = b2.length) : ∀ (k n i : Nat), b1.length = i + k → k < n → (∀ j, j < i → b1.getD j 0 = b2.getD j 0) → f_X1_isLike_L26 E n (some e1) (some e2) (nI i) σ = some (if b1 = b2 then 1 else 0, σ)
  | 0, n, i, hm, hn, hp => by
    obtain ⟨n, rfl⟩ : ∃ z, n = z + 1 := ⟨n - 1, by omega⟩
    obtain ⟨x1, y1, g1, -⟩ := h1
    have hb := g1.lens
    have he : b1 = b2 := by
      refine List.ext_getElem hl (fun j a c => ?_)
      have := hp j (by omega)
      rw [List.getD_eq_getElem?_getD, List.getD_eq_getElem?_getD, List.getElem?_eq_getElem a, List.getElem?_eq_getElem c] at this
      exact this
    rw [f_X1_isLike_L26, if_pos he]
    refine e_gi rfl g1.1 ?_
    rw [g1.2.2.2.1]
    exact e_t (nI_le (by omega) (by omega)) rfl
  | k + 1, n, i, hm, hn, hp => by
    obtain ⟨n, rfl⟩ : ∃ z, n = z + 1 := ⟨n - 1, by omega⟩
    have ih := sp_likeL (E := E) h1 h2 hl k n (i + 1) (by omega) (by omega)
    obtain ⟨x1, y1, g1, -⟩ := h1
    obtain ⟨x2, y2, g2, -⟩ := h2
    have hb := g1.lens
    obtain ⟨-, -, -, -, -, ⟨-, w1⟩, ⟨r1, r2, r3⟩, -, r9⟩ := id g1
    obtain ⟨-, -, -, -, -, ⟨-, w2⟩, ⟨s1, s2, s3⟩, -, s9⟩ := id g2
    rw [f_X1_isLike_L26]
    refine e_gi rfl g1.1 ?_
    rw [g1.2.2.2.1]
    refine e_f (nI_ge (by omega) (by omega)) (e_gr rfl g1.1 (e_al r1 rfl r2 (by omega) (by omega) (e_gr rfl g2.1 (e_al s1 rfl s2 (by omega) (by omega) ?_))))
    rw [r9 i (by omega), s9 i (by omega)]
    have l1 := getD_lt w1 i
    have l2 := getD_lt w2 i
    by_cases e : b1.getD i 0 = b2.getD i 0
    · refine e_t (congrArg nI e) ?_
      rw [nI_1]
      exact ih (fun j hj => by
        by_cases z : j = i
        · rw [z]; exact e
        · exact hp j (by omega))
    · refine e_f (fun z => e ((nI_eq (by omega) (by omega)).mp z)) ?_
      rw [if_neg (fun z => e (by rw [z]))]
theorem sp_isLike {E : PE} {σ : PS} {e1 e2 num1 kd1 tw1 num2 kd2 tw2 : Nat} {b1 b2 : List Nat} (hE : 100 ≤ E.1) (hO : Ok E σ) (h1 : isE σ e1 num1 kd1 b1 tw1) (h2 : isE σ e2 num2 kd2 b2 tw2) (k1 : kd1 < 100) (k2 : kd2 < 100) : f_X1_isLike E (some e1) (some e2) σ = some (if kd1 = kd2 ∧ b1 = b2 then 1 else 0, σ) := by
  have L := sp_likeL (E := E) h1 h2
  obtain ⟨x1, y1, g1, -⟩ := h1
  obtain ⟨x2, y2, g2, -⟩ := h2
  have hb1 := g1.lens
  have hb2 := g2.lens
  refine oM_rd hO ?_
  unfold g_X1_isLike
  refine e_gi rfl g1.1 (e_gi rfl g2.1 ?_)
  rw [g1.2.2.1, g2.2.2.1]
  by_cases e : kd1 = kd2
  · refine e_t (congrArg nI e) (e_gi rfl g1.1 (e_gi rfl g2.1 ?_))
    rw [g1.2.2.2.1, g2.2.2.2.1]
    by_cases el : b1.length = b2.length
    · refine e_t (congrArg nI el) ?_
      have := L el b1.length E.1 0 (by omega) (by omega) (fun j hj => by omega)
      refine this.trans ?_
      by_cases eb : b1 = b2
      · rw [if_pos eb, if_pos ⟨e, eb⟩]
      · rw [if_neg eb, if_neg (fun z => eb z.2)]
    · refine e_f (fun z => el ((nI_eq (by omega) (by omega)).mp z)) ?_
      rw [if_neg (fun z => el (by rw [z.2]))]
      rfl
  · refine e_f (fun z => e ((nI_eq (by omega) (by omega)).mp z)) ?_
    rw [if_neg (fun z => e z.1)]
    rfl
theorem sp_apartL {E : PE} {σ : PS} {e1 e2 num1 kd1 tw1 num2 kd2 tw2 : Nat} {b1 b2 : List Nat} (h1 : isE σ e1 num1 kd1 b1 tw1) (h2 : isE σ e2 num2 kd2 b2 tw2) : ∀ (k n i t : Nat), 32 = i + k → k < n → f_X5_apart_L15 E n (some e1) (some e2) (nI (t + sm (fun m => ad (marks b1 m) (marks b2 m)) i)) (nI i) σ = some (nI (t + sm (fun m => ad (marks b1 m) (marks b2 m)) 32), σ)
  | 0, n, i, t, hm, hn => by
    obtain ⟨n, rfl⟩ : ∃ z, n = z + 1 := ⟨n - 1, by omega⟩
    have : i = 32 := by omega
    subst this
    rw [f_X5_apart_L15]
    exact e_t (show nI 32 ≤ nI 32 from nI_le (by omega) (by omega)) rfl
  | k + 1, n, i, t, hm, hn => by
    obtain ⟨n, rfl⟩ : ∃ z, n = z + 1 := ⟨n - 1, by omega⟩
    have ih := sp_apartL (E := E) h1 h2 k n (i + 1) t (by omega) (by omega)
    obtain ⟨x1, y1, g1, m1⟩ := h1
    obtain ⟨x2, y2, g2, m2⟩ := h2
    have hb1 := g1.lens
    have hb2 := g2.lens
    obtain ⟨r1, r2, r3⟩ := g1.2.2.2.2.2.2.2.1
    obtain ⟨s1, s2, s3⟩ := g2.2.2.2.2.2.2.2.1
    have l1 := marks_le b1 i
    have l2 := marks_le b2 i
    rw [f_X5_apart_L15]
    refine e_f (show ¬ nI 32 ≤ nI i from nI_ge (by omega) (by omega)) (e_gr rfl g1.1 (e_al r1 rfl r2 (by omega) (by omega) (e_gr rfl g2.1 (e_al s1 rfl s2 (by omega) (by omega) ?_))))
    rw [m1 i (by omega), m2 i (by omega), adI (by omega) (by omega), nI_add, nI_1, Nat.add_assoc]
    exact ih
theorem sp_apart {E : PE} {σ : PS} {e1 e2 num1 kd1 tw1 num2 kd2 tw2 : Nat} {b1 b2 : List Nat} (hE : 100 ≤ E.1) (hO : Ok E σ) (h1 : isE σ e1 num1 kd1 b1 tw1) (h2 : isE σ e2 num2 kd2 b2 tw2) : f_X5_apart E (some e1) (some e2) σ = some (nI (distN b1 b2), σ) := by
  have L := sp_apartL (E := E) h1 h2 32 E.1 0 (ad b1.length b2.length) (by omega) (by omega)
  obtain ⟨x1, y1, g1, -⟩ := h1
  obtain ⟨x2, y2, g2, -⟩ := h2
  have hb1 := g1.lens
  have hb2 := g2.lens
  refine oM_rd hO ?_
  unfold g_X5_apart
  refine e_gi rfl g1.1 (e_gi rfl g2.1 ?_)
  rw [g1.2.2.2.1, g2.2.2.2.1, adI (by omega) (by omega)]
  exact L
theorem minI {a b : Nat} (ha : a < 2 ^ 31) (hb : b < 2 ^ 31) : (if nI b < nI a then nI b else nI a) = nI (min a b) := by
  by_cases h : b < a
  · rw [if_pos (nI_lt h ha), Nat.min_eq_right (by omega)]
  · rw [if_neg (nI_nlt (by omega) hb), Nat.min_eq_left (by omega)]
theorem sp_comL {E : PE} {σ : PS} {e1 e2 num1 kd1 tw1 num2 kd2 tw2 : Nat} {b1 b2 : List Nat} (h1 : isE σ e1 num1 kd1 b1 tw1) (h2 : isE σ e2 num2 kd2 b2 tw2) : ∀ (k n i : Nat), 32 = i + k → k < n → f_X5_commonMarks_L4 E n (some e1) (some e2) (nI (sm (fun m => min (marks b1 m) (marks b2 m)) i)) (nI i) σ = some (nI (commonN b1 b2), σ)
  | 0, n, i, hm, hn => by
    obtain ⟨n, rfl⟩ : ∃ z, n = z + 1 := ⟨n - 1, by omega⟩
    have : i = 32 := by omega
    subst this
    rw [f_X5_commonMarks_L4]
    exact e_t (show nI 32 ≤ nI 32 from nI_le (by omega) (by omega)) rfl
  | k + 1, n, i, hm, hn => by
    obtain ⟨n, rfl⟩ : ∃ z, n = z + 1 := ⟨n - 1, by omega⟩
    have ih := sp_comL (E := E) h1 h2 k n (i + 1) (by omega) (by omega)
    obtain ⟨x1, y1, g1, m1⟩ := h1
    obtain ⟨x2, y2, g2, m2⟩ := h2
    have hb1 := g1.lens
    have hb2 := g2.lens
    obtain ⟨r1, r2, r3⟩ := g1.2.2.2.2.2.2.2.1
    obtain ⟨s1, s2, s3⟩ := g2.2.2.2.2.2.2.2.1
    have l1 := marks_le b1 i
    have l2 := marks_le b2 i
    rw [f_X5_commonMarks_L4]
    refine e_f (show ¬ nI 32 ≤ nI i from nI_ge (by omega) (by omega)) (e_gr rfl g1.1 (e_al r1 rfl r2 (by omega) (by omega) (e_gr rfl g2.1 (e_al s1 rfl s2 (by omega) (by omega) ?_))))
    rw [m1 i (by omega), m2 i (by omega), minI (by omega) (by omega), nI_add, nI_1]
    exact ih
theorem sp_commonMarks {E : PE} {σ : PS} {e1 e2 num1 kd1 tw1 num2 kd2 tw2 : Nat} {b1 b2 : List Nat} (hE : 100 ≤ E.1) (hO : Ok E σ) (h1 : isE σ e1 num1 kd1 b1 tw1) (h2 : isE σ e2 num2 kd2 b2 tw2) : f_X5_commonMarks E (some e1) (some e2) σ = some (nI (commonN b1 b2), σ) :=
  oM_rd hO (sp_comL (E := E) h1 h2 32 E.1 0 (by omega) (by omega))
