/-! an entry settles: THE ORDER and the groups of its places -/
theorem gatF_app : ∀ (a b : List Grp) (k : Nat), gatF k (a ++ b) = gatF k a ++ gatF (k + a.length) b
  | [], b, k => by show gatF k b = gatF (k + 0) b; rfl
  | q :: a, b, k => by
    show List.replicate q.2.1.length k ++ gatF (k + 1) (a ++ b) = (List.replicate q.2.1.length k ++ gatF (k + 1) a) ++ gatF (k + (a.length + 1)) b
    rw [gatF_app a b (k + 1), List.append_assoc]
    have : k + 1 + a.length = k + (a.length + 1) := by omega
    rw [this]
theorem gatF_succ : ∀ (b : List Grp) (k : Nat), gatF (k + 1) b = (gatF k b).map (· + 1)
  | [], k => rfl
  | q :: b, k => by
    show List.replicate q.2.1.length (k + 1) ++ gatF (k + 1 + 1) b = (List.replicate q.2.1.length k ++ gatF (k + 1) b).map (· + 1)
    rw [List.map_append, List.map_replicate, gatF_succ b (k + 1)]
theorem gatF_bd : ∀ (b : List Grp) (k : Nat), ∀ x ∈ gatF k b, k ≤ x ∧ x < k + b.length
  | [], k, x, h => nomatch h
  | q :: b, k, x, h => by
    unfold gatF at h
    rw [List.length_cons]
    rcases List.mem_append.mp h with w | w
    · have := (List.mem_replicate.mp w).2; omega
    · have := gatF_bd b (k + 1) x w; omega
/-- the places of the groups up to l -/
def upTo (gs : List Grp) (l : Nat) : Nat := (flat (gs.take (l + 1))).length
theorem split_at {gs : List Grp} {l : Nat} (h : l < gs.length) : flat gs = flat (gs.take (l + 1)) ++ flat (gs.drop (l + 1)) ∧ gatF 0 gs = gatF 0 (gs.take (l + 1)) ++ gatF (l + 1) (gs.drop (l + 1)) := by
  have e : gs = gs.take (l + 1) ++ gs.drop (l + 1) := (List.take_append_drop _ _).symm
  have hl : (gs.take (l + 1)).length = l + 1 := by rw [List.length_take]; omega
  constructor
  · have := congrArg flat e
    rw [flat_app] at this
    exact this
  · have := congrArg (gatF 0) e
    rw [gatF_app, hl, Nat.zero_add] at this
    exact this
theorem gat_side {gs : List Grp} {l : Nat} (h : l < gs.length) {k : Nat} (hk : k < (flat gs).length) : (k < upTo gs l → (gatF 0 gs).getD k 0 ≤ l) ∧ (upTo gs l ≤ k → l + 1 ≤ (gatF 0 gs).getD k 0) := by
  obtain ⟨e1, e2⟩ := split_at h
  have hl : (gs.take (l + 1)).length = l + 1 := by rw [List.length_take]; omega
  have g1 := gatF_len (gs.take (l + 1)) 0
  have g2 := gatF_len (gs.drop (l + 1)) (l + 1)
  rw [e1, List.length_append] at hk
  unfold upTo
  rw [e2]
  constructor
  · intro q
    rw [getD_app1 (by omega)]
    have hq : k < (gatF 0 (gs.take (l + 1))).length := by omega
    have := gatF_bd (gs.take (l + 1)) 0 _ (by rw [getD_at hq]; exact List.getElem_mem hq : (gatF 0 (gs.take (l + 1))).getD k 0 ∈ _)
    omega
  · intro q
    rw [getD_app2 (by omega)]
    have hq : k - (gatF 0 (gs.take (l + 1))).length < (gatF (l + 1) (gs.drop (l + 1))).length := by omega
    have := gatF_bd (gs.drop (l + 1)) (l + 1) _ (by rw [getD_at hq]; exact List.getElem_mem hq : (gatF (l + 1) (gs.drop (l + 1))).getD (k - (gatF 0 (gs.take (l + 1))).length) 0 ∈ _)
    omega
theorem ins_split {α : Type} (a b : List α) (x : α) : ins (a ++ b) a.length x = a ++ x :: b := by
  unfold ins
  rw [List.take_left, List.drop_left]
/-- into the last group -/
theorem fit_flat {gs : List Grp} {l e : Nat} {q : Grp} (hq : gs[l]? = some q) : flat (gs.set l (q.1, q.2.1 ++ [e], q.2.2)) = ins (flat gs) (upTo gs l) e ∧ gatF 0 (gs.set l (q.1, q.2.1 ++ [e], q.2.2)) = ins (gatF 0 gs) (upTo gs l) l := by
  have h := lt_of hq
  obtain ⟨e1, e2⟩ := split_at h
  obtain ⟨s1, s2⟩ := set_split (y := ((q.1, q.2.1 ++ [e], q.2.2) : Grp)) hq
  have ht : gs.take (l + 1) = gs.take l ++ [q] := by rw [List.take_succ, hq]; rfl
  have hl : (gs.take l).length = l := by rw [List.length_take]; omega
  have hlen : (gatF 0 (gs.take (l + 1))).length = upTo gs l := gatF_len _ _
  constructor
  · rw [s2, e1, flat_app, flat_cons]
    unfold upTo
    rw [ins_split, ht, flat_app, flat_cons]
    show flat (gs.take l) ++ (q.2.1 ++ [e] ++ flat (gs.drop (l + 1))) = flat (gs.take l) ++ (q.2.1 ++ []) ++ e :: flat (gs.drop (l + 1))
    rw [List.append_nil, List.append_assoc, List.append_assoc]
    rfl
  · rw [s2, e2, gatF_app, ← hlen, ins_split, ht, gatF_app, hl]
    show gatF 0 (gs.take l) ++ (List.replicate (q.2.1 ++ [e]).length (0 + l) ++ gatF (0 + l + 1) (gs.drop (l + 1))) = gatF 0 (gs.take l) ++ (List.replicate q.2.1.length (0 + l) ++ []) ++ l :: gatF (l + 1) (gs.drop (l + 1))
    rw [Nat.zero_add, List.append_nil, List.append_assoc, List.length_append]
    congr 1
    show List.replicate (q.2.1.length + 1) l ++ gatF (l + 1) (gs.drop (l + 1)) = _
    rw [List.replicate_succ', List.append_assoc]
    rfl
/-- into a new group behind it -/
theorem new_flat {gs : List Grp} {l e kd : Nat} (h : l < gs.length) : flat (ins gs (l + 1) (kd, [e], 0)) = ins (flat gs) (upTo gs l) e ∧ gatF 0 (ins gs (l + 1) (kd, [e], 0)) = ins ((gatF 0 gs).map (fun x => if l + 1 ≤ x then x + 1 else x)) (upTo gs l) (l + 1) := by
  obtain ⟨e1, e2⟩ := split_at h
  have hl : (gs.take (l + 1)).length = l + 1 := by rw [List.length_take]; omega
  have hlen : (gatF 0 (gs.take (l + 1))).length = upTo gs l := gatF_len _ _
  constructor
  · rw [e1]
    unfold upTo ins
    rw [flat_app, flat_cons]
    show flat (gs.take (l + 1)) ++ ([e] ++ flat (gs.drop (l + 1))) = _
    rw [List.take_left, List.drop_left]
    rfl
  · unfold ins
    rw [gatF_app, hl, e2, List.map_append]
    have m1 : (gatF 0 (gs.take (l + 1))).map (fun x => if l + 1 ≤ x then x + 1 else x) = gatF 0 (gs.take (l + 1)) := by
      have : ∀ x ∈ gatF 0 (gs.take (l + 1)), (if l + 1 ≤ x then x + 1 else x) = x := fun x hx => if_neg (by have := gatF_bd _ _ x hx; omega)
      rw [List.map_congr_left this, List.map_id']
    have m2 : (gatF (l + 1) (gs.drop (l + 1))).map (fun x => if l + 1 ≤ x then x + 1 else x) = gatF (l + 1 + 1) (gs.drop (l + 1)) := by
      rw [gatF_succ (gs.drop (l + 1)) (l + 1)]
      exact List.map_congr_left (fun x hx => if_pos (gatF_bd _ _ x hx).1)
    rw [m1, m2, ← hlen, List.take_left, List.drop_left]
    show gatF 0 (gs.take (l + 1)) ++ (List.replicate 1 (0 + (l + 1)) ++ gatF (0 + (l + 1) + 1) (gs.drop (l + 1))) = _
    rw [Nat.zero_add]
    rfl
theorem ins_getD {α : Type} {L : List α} {i : Nat} {x d : α} (h : i ≤ L.length) (j : Nat) : (ins L i x).getD j d = if j < i then L.getD j d else if j = i then x else L.getD (j - 1) d := by
  rw [List.getD_eq_getElem?_getD, ins_at h]
  by_cases h1 : j < i
  · rw [if_pos h1, if_pos h1, List.getD_eq_getElem?_getD]
  · rw [if_neg h1, if_neg h1]
    by_cases h2 : j = i
    · rw [if_pos h2, if_pos h2]; rfl
    · rw [if_neg h2, if_neg h2, List.getD_eq_getElem?_getD]
section MBS
variable {E : PE} {σ0 σ : PS} {m : Nat} {Ma : Nat → Nat} {I : Nat → Int32} {X : Nat → Nat → Int32} {β : Type} {n : Nat} {kd : Nat → Nat} {bs : Nat → List Nat} {S : Option PK}
/-- the places behind p go on by one -/
theorem sp_shL {e into p K : Nat} (hK : K < 30) (hI9 : I 9 = nI K) : ∀ (c f a : Nat) (σ : PS) (X : Nat → Nat → Int32), a = p + c → c < f → a ≤ K → MB E σ0 σ m Ma I X → (∀ k, p ≤ k → k < a → ¬ X 8 k ≤ nI into) → (0 < p → X 8 (p - 1) ≤ nI into) →
    wp (f_X6_settles_L263 E f (some m) (nI e) (nI into) (nI a) σ) (fun _ τ => ∃ g7 g8, MB E σ0 τ m Ma (up I 9 (nI (K + 1))) (up (up X 7 g7) 8 g8) ∧ (∀ k, k < p → g7 k = X 7 k ∧ g8 k = X 8 k) ∧ (g7 p = nI e ∧ g8 p = nI into) ∧ (∀ k, p ≤ k → k < a → g7 (k + 1) = X 7 k ∧ g8 (k + 1) = X 8 k) ∧ ∀ k, a < k → g7 k = X 7 k ∧ g8 k = X 8 k)
  | 0, f, a, σ, X, ha, hf, haK, h, h1, h2 => by
    obtain ⟨f, rfl⟩ : ∃ z, f = z + 1 := ⟨f - 1, by omega⟩
    have hap : a = p := by omega
    subst hap
    have tail : wp (f_X6_settles_B319 E (some m) (nI e) (nI into) (nI a) σ) (fun _ τ => ∃ g7 g8, MB E σ0 τ m Ma (up I 9 (nI (K + 1))) (up (up X 7 g7) 8 g8) ∧ (∀ k, k < a → g7 k = X 7 k ∧ g8 k = X 8 k) ∧ (g7 a = nI e ∧ g8 a = nI into) ∧ (∀ k, a ≤ k → k < a → g7 (k + 1) = X 7 k ∧ g8 (k + 1) = X 8 k) ∧ ∀ k, a < k → g7 k = X 7 k ∧ g8 k = X 8 k) := by
      unfold f_X6_settles_B319
      refine wm_gr h (by decide) (wm_as h (by decide) rfl (by show a < 30; omega) (fun s1 h1 => wm_gr h1 (by decide) (wm_as h1 (by decide) rfl (by show a < 30; omega) (fun s2 h2 => wm_gi h2 (wm_pi h2 (fun s3 h3 => wp_ret ?_))))))
      rw [hI9, nI_1, up_n (show (8 : Nat) ≠ 7 by decide)] at h3
      refine ⟨_, _, h3, fun k hk => ⟨up_n (by omega), up_n (by omega)⟩, ⟨up_s, up_s⟩, fun k k1 k2 => by omega, fun k hk => ⟨up_n (by omega), up_n (by omega)⟩⟩
    rw [f_X6_settles_L263]
    by_cases z : a = 0
    · subst z
      exact wp_t (Int32.le_refl _) tail
    · have e1 : nI a - 1 = nI (a - 1) := by
        have : a = (a - 1) + 1 := by omega
        rw [this, nI_pred]
        congr 1
      refine wp_f (nI_nle (by omega) (by omega)) (wm_gr h (by decide) (wm_al h (by decide) e1 (by show a - 1 < 30; omega) (wp_t (h2 (by omega)) tail)))
  | c + 1, f, a, σ, X, ha, hf, haK, h, h1, h2 => by
    obtain ⟨f, rfl⟩ : ∃ z, f = z + 1 := ⟨f - 1, by omega⟩
    obtain ⟨b, rfl⟩ : ∃ b, a = b + 1 := ⟨a - 1, by omega⟩
    rw [f_X6_settles_L263]
    refine wp_f (nI_nle (by omega) (by omega)) (wm_gr h (by decide) (wm_al h (by decide) (nI_pred b) (by show b < 30; omega) (wp_f (h1 b (by omega) (by omega)) (wm_gr h (by decide) (wm_gr h (by decide) (wm_al h (by decide) (nI_pred b) (by show b < 30; omega) (wm_as h (by decide) rfl (by show b + 1 < 30; omega) (fun s1 q1 => wm_gr q1 (by decide) (wm_gr q1 (by decide) (wm_al q1 (by decide) (nI_pred b) (by show b < 30; omega) (wm_as q1 (by decide) rfl (by show b + 1 < 30; omega) (fun s2 q2 => ?_))))))))))))
    rw [up_n (show (8 : Nat) ≠ 7 by decide)] at q2
    have em : nI (b + 1) + (-1) = nI b := pk_m1 b
    rw [em]
    refine wp_mono (sp_shL (p := p) hK hI9 c f b s2 _ (by omega) (by omega) (by omega) q2 (fun k k1 k2 => ?_) (fun hp => ?_)) ?_
    · rw [up_s, up_n (by omega)]; exact h1 k k1 (by omega)
    · rw [up_s, up_n (by omega)]; exact h2 hp
    · rintro _ τ ⟨g7, g8, u1, u2, u3, u4, u5⟩
      have eX : up (up (up (up X 7 (up (X 7) (b + 1) (X 7 b))) 8 (up (X 8) (b + 1) (X 8 b))) 7 g7) 8 g8 = up (up X 7 g7) 8 g8 := by
        funext j
        by_cases j8 : j = 8
        · rw [j8, up_s, up_s]
        · rw [up_n j8, up_n j8]
          by_cases j7 : j = 7
          · rw [j7, up_s, up_s]
          · rw [up_n j7, up_n j7, up_n j8, up_n j7]
      rw [eX] at u1
      have x7 : ∀ k, up (up X 7 (up (X 7) (b + 1) (X 7 b))) 8 (up (X 8) (b + 1) (X 8 b)) 7 k = up (X 7) (b + 1) (X 7 b) k := fun k => by rw [up_n (show (7 : Nat) ≠ 8 by decide), up_s]
      have x8 : ∀ k, up (up X 7 (up (X 7) (b + 1) (X 7 b))) 8 (up (X 8) (b + 1) (X 8 b)) 8 k = up (X 8) (b + 1) (X 8 b) k := fun k => by rw [up_s]
      refine ⟨g7, g8, u1, fun k hk => ?_, u3, fun k k1 k2 => ?_, fun k hk => ?_⟩
      · obtain ⟨v1, v2⟩ := u2 k hk
        rw [x7, up_n (by omega)] at v1
        rw [x8, up_n (by omega)] at v2
        exact ⟨v1, v2⟩
      · by_cases z : k = b
        · obtain ⟨v1, v2⟩ := u5 (k + 1) (by omega)
          rw [x7, z, up_s] at v1
          rw [x8, z, up_s] at v2
          rw [z]
          exact ⟨v1, v2⟩
        · obtain ⟨v1, v2⟩ := u4 k k1 (by omega)
          rw [x7, up_n (by omega)] at v1
          rw [x8, up_n (by omega)] at v2
          exact ⟨v1, v2⟩
      · obtain ⟨v1, v2⟩ := u5 k (by omega)
        rw [x7, up_n (by omega)] at v1
        rw [x8, up_n (by omega)] at v2
        exact ⟨v1, v2⟩
/-- an order O, its groups A: e comes to place p, into group `into` -/
theorem sp_B257 {e into p : Nat} {O A : List Nat} (hE : 1000 ≤ E.1) (hl : O.length < 30) (hA : A.length = O.length) (hp : p ≤ O.length) (h : MB E σ0 σ m Ma I X) (h9 : I 9 = nI O.length) (hx : ∀ k, k < O.length → X 7 k = nI (O.getD k 0) ∧ X 8 k = nI (A.getD k 0)) (hs : ∀ k, k < O.length → A.getD k 0 < 1000 ∧ (k < p → A.getD k 0 ≤ into) ∧ (p ≤ k → into + 1 ≤ A.getD k 0)) (hin : into < 1000) :
    wp (f_X6_settles_B257 E (some m) (nI e) (nI into) σ) (fun _ τ => ∃ g7 g8, MB E σ0 τ m Ma (up I 9 (nI (O.length + 1))) (up (up X 7 g7) 8 g8) ∧ ∀ k, k < O.length + 1 → g7 k = nI ((ins O p e).getD k 0) ∧ g8 k = nI ((ins A p into).getD k 0)) := by
  unfold f_X6_settles_B257
  refine wm_gi h ?_
  rw [h9]
  refine wp_mono (sp_shL (e := e) (into := into) (p := p) (K := O.length) hl h9 (O.length - p) E.1 O.length σ X (by omega) (by omega) (Nat.le_refl _) h (fun k k1 k2 => ?_) (fun hp0 => ?_)) ?_
  · obtain ⟨s1, s2, s3⟩ := hs k k2
    rw [(hx k k2).2]
    exact nI_ge (by have := s3 k1; omega) (by omega)
  · obtain ⟨s1, s2, s3⟩ := hs (p - 1) (by omega)
    rw [(hx (p - 1) (by omega)).2]
    exact nI_le (s2 (by omega)) (by omega)
  · rintro _ τ ⟨g7, g8, u1, u2, u3, u4, u5⟩
    refine ⟨g7, g8, u1, fun k hk => ?_⟩
    rw [ins_getD hp, ins_getD (by omega)]
    by_cases c1 : k < p
    · rw [if_pos c1, if_pos c1, (u2 k c1).1, (u2 k c1).2]
      exact hx k (by omega)
    · rw [if_neg c1, if_neg c1]
      by_cases c2 : k = p
      · rw [if_pos c2, if_pos c2, c2]; exact u3
      · rw [if_neg c2, if_neg c2]
        obtain ⟨j, rfl⟩ : ∃ j, k = j + 1 := ⟨k - 1, by omega⟩
        have := u4 j (by omega) (by omega)
        rw [this.1, this.2, Nat.add_sub_cancel]
        exact hx j (by omega)
/-- the groups behind go on by one -/
theorem sp_L216 {into : Nat} {v1 : Int32} {A : List Nat} {P : Unit → PS → Prop} (hl : A.length ≤ 30) (h9 : I 9 = nI A.length) (hA : ∀ x ∈ A, x < 1000) (hin : into < 1000) : ∀ (c f k : Nat) (σ : PS) (X : Nat → Nat → Int32), A.length = k + c → c < f → MB E σ0 σ m Ma I X → (∀ j, k ≤ j → j < A.length → X 8 j = nI (A.getD j 0)) →
    (∀ τ g, MB E σ0 τ m Ma I (up X 8 g) → (∀ j, j < k → g j = X 8 j) → (∀ j, k ≤ j → j < A.length → g j = nI ((A.map (fun x => if into ≤ x then x + 1 else x)).getD j 0)) → wp (f_X6_settles_B257 E (some m) v1 (nI into) τ) P) →
    wp (f_X6_settles_L216 E f (some m) v1 (nI into) (nI k) σ) P
  | 0, f, k, σ, X, hc, hf, h, hx, kk => by
    obtain ⟨f, rfl⟩ : ∃ z, f = z + 1 := ⟨f - 1, by omega⟩
    rw [f_X6_settles_L216]
    refine wm_gi h ?_
    rw [h9]
    exact wp_t (nI_le (by omega) (by omega)) (kk σ (X 8) (by rw [up_id]; exact h) (fun _ _ => rfl) (fun j j1 j2 => by omega))
  | c + 1, f, k, σ, X, hc, hf, h, hx, kk => by
    obtain ⟨f, rfl⟩ : ∃ z, f = z + 1 := ⟨f - 1, by omega⟩
    have hk : k < A.length := by omega
    have hxk := hx k (Nat.le_refl _) hk
    have hak := hA _ (by rw [getD_at hk]; exact List.getElem_mem hk : A.getD k 0 ∈ A)
    have hmk : (A.map (fun x => if into ≤ x then x + 1 else x)).getD k 0 = if into ≤ A.getD k 0 then A.getD k 0 + 1 else A.getD k 0 := by
      rw [List.getD_eq_getElem?_getD, List.getElem?_map, List.getElem?_eq_getElem hk, getD_at hk]
      rfl
    rw [f_X6_settles_L216]
    refine wm_gi h ?_
    rw [h9]
    refine wp_f (nI_ge hk (by omega)) (wm_gr h (by decide) (wm_al h (by decide) rfl (by show k < 30; omega) (wm_gr h (by decide) (wm_al h (by decide) rfl (by show k < 30; omega) ?_))))
    rw [hxk]
    unfold f_X6_settles_B249
    have go : ∀ (v : Int32), nI (A.getD k 0) + v = nI ((A.map (fun x => if into ≤ x then x + 1 else x)).getD k 0) → wp ((oAs (some (Ma 8)) (nI k) (nI (A.getD k 0) + v) σ).bind fun s55 => f_X6_settles_L216 E f (some m) v1 (nI into) (nI k + 1) s55) P := by
      intro v hv
      rw [hv, nI_1]
      refine wm_as h (by decide) rfl (by show k < 30; omega) (fun s1 h1 => sp_L216 hl h9 hA hin c f (k + 1) s1 _ (by omega) (by omega) h1 (fun j j1 j2 => ?_) (fun τ g t1 t2 t3 => kk τ g (by rw [up_up] at t1; exact t1) (fun j hj => ?_) (fun j j1 j2 => ?_)))
      · rw [up_s, up_n (by omega)]; exact hx j (by omega) j2
      · rw [t2 j (by omega), up_s, up_n (by omega)]
      · by_cases z : j = k
        · rw [z, t2 k (by omega), up_s, up_s]
        · exact t3 j (by omega) j2
    by_cases z : into ≤ A.getD k 0
    · rw [if_pos z] at hmk
      refine wp_f (nI_nlt z (by omega)) (go 1 ?_)
      rw [hmk]; exact nI_1 _
    · rw [if_neg z] at hmk
      refine wp_t (nI_lt (by omega) (by omega)) (go 0 ?_)
      rw [hmk]; exact nI_add _ 0
/-- a group's row -/
def RV (d : Nat × Nat × List (Nat × Nat × Nat)) (X : Nat → Nat → Int32) (g : Nat) : Prop := X 11 g = nI d.1 ∧ X 12 g = nI d.2.1 ∧ TV1 d.2.2 X g
theorem TV1.ko {T : List (Nat × Nat × Nat)} {X X' : Nat → Nat → Int32} {g : Nat} (h : TV1 T X g) (h1 : X' 13 g = X 13 g) (h2 : ∀ i, i < 3 * T.length → X' 14 (5400 * g + i) = X 14 (5400 * g + i)) : TV1 T X' g := by
  obtain ⟨a, b⟩ := h
  refine ⟨by rw [h1]; exact a, fun j hj => ?_⟩
  obtain ⟨b1, b2, b3⟩ := b j hj
  refine ⟨?_, ?_, ?_⟩
  · rw [h2 (3 * j) (by omega)]; exact b1
  · rw [Nat.add_assoc, h2 (3 * j + 1) (by omega), ← Nat.add_assoc]; exact b2
  · rw [Nat.add_assoc, h2 (3 * j + 2) (by omega), ← Nat.add_assoc]; exact b3
/-- one row of tokens is copied on -/
theorem sp_L128 {k T : Nat} {v1 v3 : Int32} {P : Unit → PS → Prop} {K : Option Nat → Int32 → Int32 → Int32 → PS → Option (Unit × PS)} (hk : k + 1 < 30) (hT : T ≤ 400) : ∀ (r f i : Nat) (σ : PS) (X : Nat → Nat → Int32), 3 * T = i + r → r < f → MB E σ0 σ m Ma I X → X 13 (k + 1) = nI T →
    (∀ τ g, MB E σ0 τ m Ma I (up X 14 g) → (∀ j, i ≤ j → j < 3 * T → g (5400 * (k + 1) + j) = X 14 (5400 * k + j)) → (∀ j, j < 5400 * (k + 1) + i ∨ 5400 * (k + 1) + 5400 ≤ j → g j = X 14 j) → wp (K (some m) v1 v3 (nI k) τ) P) →
    wp (f_X6_settles_L128 E K f (some m) v1 v3 (nI (k + 1)) (nI i) σ) P
  | 0, f, i, σ, X, hr, hf, h, h13, kk => by
    obtain ⟨f, rfl⟩ : ∃ z, f = z + 1 := ⟨f - 1, by omega⟩
    rw [f_X6_settles_L128]
    refine wm_gr h (by decide) (wm_al h (by decide) rfl (by show k + 1 < 30; omega) ?_)
    have e3 : (3 : Int32) * nI T = nI (3 * T) := pk_mul 3 T
    rw [h13, e3, pk_m1]
    exact wp_t (nI_le (by omega) (by omega)) (kk σ (X 14) (by rw [up_id]; exact h) (fun j j1 j2 => by omega) (fun _ _ => rfl))
  | r + 1, f, i, σ, X, hr, hf, h, h13, kk => by
    obtain ⟨f, rfl⟩ : ∃ z, f = z + 1 := ⟨f - 1, by omega⟩
    have e3 : (3 : Int32) * nI T = nI (3 * T) := pk_mul 3 T
    have a1 : (5400 : Int32) * (nI (k + 1) - 1) + nI i = nI (5400 * k + i) := by
      rw [nI_pred]
      have : (5400 : Int32) * nI k = nI (5400 * k) := pk_mul 5400 k
      rw [this, nI_add]
    have a2 : (5400 : Int32) * nI (k + 1) + nI i = nI (5400 * (k + 1) + i) := by
      have : (5400 : Int32) * nI (k + 1) = nI (5400 * (k + 1)) := pk_mul 5400 (k + 1)
      rw [this, nI_add]
    rw [f_X6_settles_L128]
    refine wm_gr h (by decide) (wm_al h (by decide) rfl (by show k + 1 < 30; omega) ?_)
    rw [h13, e3]
    refine wp_f (nI_ge (by omega) (by omega)) (wm_gr h (by decide) (wm_gr h (by decide) (wm_al h (by decide) a1 (by show 5400 * k + i < 162000; omega) (wm_as h (by decide) a2 (by show 5400 * (k + 1) + i < 162000; omega) (fun s1 h1 => ?_)))))
    rw [nI_1]
    refine sp_L128 hk hT r f (i + 1) s1 _ (by omega) (by omega) h1 (by rw [up_n (by decide)]; exact h13) (fun τ g t1 t2 t3 => kk τ g (by rw [up_up] at t1; exact t1) (fun j j1 j2 => ?_) (fun j hj => ?_))
    · by_cases z : j = i
      · rw [z, t3 _ (Or.inl (by omega)), up_s, up_s]
      · rw [t2 j (by omega) j2, up_s, up_n (by omega)]
    · rw [t3 j (by omega), up_s, up_n (by omega)]
theorem sp_L71 {e into N : Nat} {D : Nat → Nat × Nat × List (Nat × Nat × Nat)} {P : Unit → PS → Prop} (hE : 10000 ≤ E.1) (hen : e < n) (hn : n ≤ 30) (hN : N < 30) (hin : into ≤ N) (h10 : I 10 = nI N) (hD : ∀ g, g < N → (D g).2.2.length ≤ 400) : ∀ (c f k : Nat) (σ : PS) (X0 X : Nat → Nat → Int32), k = into + c → c < f → k ≤ N → MB E σ0 σ m Ma I X → X 1 e = nI (kd e) → (∀ j, j < 11 ∨ 14 < j → X j = X0 j) → (∀ g, g < k → RV (D g) X g) → (∀ g, k < g → g ≤ N → RV (D (g - 1)) X g) →
    (∀ τ X', MB E σ0 τ m Ma (up I 10 (nI (N + 1))) X' → (∀ j, j < 11 ∨ 14 < j → X' j = X0 j) → (∀ g, g < into → RV (D g) X' g) → (∀ g, into < g → g ≤ N → RV (D (g - 1)) X' g) → (X' 11 into = nI (kd e) ∧ X' 12 into = 0) → wp (f_X6_settles_L216 E E.1 (some m) (nI e) (nI into) 0 τ) P) →
    wp (f_X6_settles_L71 E f (some m) (nI e) (nI into) (nI k) σ) P
  | 0, f, k, σ, X0, X, hk, hf, hkN, h, hx1, hx, h1, h2, kk => by
    obtain ⟨f, rfl⟩ : ∃ z, f = z + 1 := ⟨f - 1, by omega⟩
    have : k = into := by omega
    subst this
    rw [f_X6_settles_L71]
    refine wp_t (Int32.le_refl _) (wm_gi h (wm_pi h (fun s1 q1 => wm_gr q1 (by decide) (wm_gr q1 (by decide) (wm_al q1 (by decide) rfl (by show e < 30; omega) ?_)))))
    rw [h10, nI_1] at q1
    rw [hx1]
    refine wm_as q1 (by decide) rfl (by show k < 30; omega) (fun s2 q2 => wm_gr q2 (by decide) (wm_as q2 (by decide) rfl (by show k < 30; omega) (fun s3 q3 => ?_)))
    rw [up_n (show (12 : Nat) ≠ 11 by decide)] at q3
    refine kk s3 _ q3 (fun j hj => ?_) (fun g hg => ?_) (fun g g1 g2 => ?_) ⟨?_, ?_⟩
    · rw [up_n (by omega), up_n (by omega)]; exact hx j hj
    · obtain ⟨r1, r2, r3⟩ := h1 g hg
      refine ⟨?_, ?_, r3.ko (by rw [up_n (by decide), up_n (by decide)]) (fun i _ => by rw [up_n (by decide), up_n (by decide)])⟩
      · rw [up_n (by decide), up_s, up_n (by omega)]; exact r1
      · rw [up_s, up_n (by omega)]; exact r2
    · obtain ⟨r1, r2, r3⟩ := h2 g g1 g2
      refine ⟨?_, ?_, r3.ko (by rw [up_n (by decide), up_n (by decide)]) (fun i _ => by rw [up_n (by decide), up_n (by decide)])⟩
      · rw [up_n (by decide), up_s, up_n (by omega)]; exact r1
      · rw [up_s, up_n (by omega)]; exact r2
    · rw [up_n (by decide), up_s, up_s]
    · rw [up_s, up_s]
  | c + 1, f, k, σ, X0, X, hk, hf, hkN, h, hx1, hx, h1, h2, kk => by
    obtain ⟨f, rfl⟩ : ∃ z, f = z + 1 := ⟨f - 1, by omega⟩
    obtain ⟨b, rfl⟩ : ∃ b, k = b + 1 := ⟨k - 1, by omega⟩
    obtain ⟨r1, r2, r3⟩ := h1 b (by omega)
    have hTb := hD b (by omega)
    rw [f_X6_settles_L71]
    refine wp_f (nI_ge (by omega) (by omega)) (wm_gr h (by decide) (wm_gr h (by decide) (wm_al h (by decide) (nI_pred b) (by show b < 30; omega) (wm_as h (by decide) rfl (by show b + 1 < 30; omega) (fun s1 q1 => wm_gr q1 (by decide) (wm_gr q1 (by decide) (wm_al q1 (by decide) (nI_pred b) (by show b < 30; omega) (wm_as q1 (by decide) rfl (by show b + 1 < 30; omega) (fun s2 q2 => wm_gr q2 (by decide) (wm_gr q2 (by decide) (wm_al q2 (by decide) (nI_pred b) (by show b < 30; omega) (wm_as q2 (by decide) rfl (by show b + 1 < 30; omega) (fun s3 q3 => ?_)))))))))))))
    rw [up_n (show (12 : Nat) ≠ 11 by decide), up_n (show (13 : Nat) ≠ 12 by decide), up_n (show (13 : Nat) ≠ 11 by decide)] at q3
    have y13 : up (up (up X 11 (up (X 11) (b + 1) (X 11 b))) 12 (up (X 12) (b + 1) (X 12 b))) 13 (up (X 13) (b + 1) (X 13 b)) 13 (b + 1) = nI (D b).2.2.length := by rw [up_s, up_s]; exact r3.1
    refine sp_L128 (T := (D b).2.2.length) (by omega) hTb (3 * (D b).2.2.length) E.1 0 s3 _ (by omega) (by omega) q3 y13 (fun τ g t1 t2 t3 => ?_)
    have z11 : ∀ j, up (up (up (up X 11 (up (X 11) (b + 1) (X 11 b))) 12 (up (X 12) (b + 1) (X 12 b))) 13 (up (X 13) (b + 1) (X 13 b))) 14 g 11 j = up (X 11) (b + 1) (X 11 b) j := fun j => by rw [up_n (by decide), up_n (by decide), up_n (by decide), up_s]
    have z12 : ∀ j, up (up (up (up X 11 (up (X 11) (b + 1) (X 11 b))) 12 (up (X 12) (b + 1) (X 12 b))) 13 (up (X 13) (b + 1) (X 13 b))) 14 g 12 j = up (X 12) (b + 1) (X 12 b) j := fun j => by rw [up_n (by decide), up_n (by decide), up_s]
    have z13 : ∀ j, up (up (up (up X 11 (up (X 11) (b + 1) (X 11 b))) 12 (up (X 12) (b + 1) (X 12 b))) 13 (up (X 13) (b + 1) (X 13 b))) 14 g 13 j = up (X 13) (b + 1) (X 13 b) j := fun j => by rw [up_n (by decide), up_s]
    have z14 : ∀ j, up (up (up (up X 11 (up (X 11) (b + 1) (X 11 b))) 12 (up (X 12) (b + 1) (X 12 b))) 13 (up (X 13) (b + 1) (X 13 b))) 14 g 14 j = g j := fun j => by rw [up_s]
    have b14 : up (up (up X 11 (up (X 11) (b + 1) (X 11 b))) 12 (up (X 12) (b + 1) (X 12 b))) 13 (up (X 13) (b + 1) (X 13 b)) 14 = X 14 := by rw [up_n (by decide), up_n (by decide), up_n (by decide)]
    rw [b14] at t2 t3
    have keep : ∀ q d, q ≠ b + 1 → d.2.2.length ≤ 400 → RV d X q → RV d (up (up (up (up X 11 (up (X 11) (b + 1) (X 11 b))) 12 (up (X 12) (b + 1) (X 12 b))) 13 (up (X 13) (b + 1) (X 13 b))) 14 g) q := by
      rintro q d hq hd ⟨w1, w2, w3⟩
      refine ⟨by rw [z11, up_n hq]; exact w1, by rw [z12, up_n hq]; exact w2, w3.ko (by rw [z13, up_n hq]) (fun i hi => ?_)⟩
      rw [z14, t3 _ (by omega)]
    refine sp_L71 hE hen hn hN hin h10 hD c f b τ X0 _ (by omega) (by omega) (by omega) t1 ?_ (fun j hj => ?_) (fun q hq => ?_) (fun q q1' q2' => ?_) kk
    · rw [up_n (by decide), up_n (by decide), up_n (by decide), up_n (by decide)]; exact hx1
    · rw [up_n (by omega), up_n (by omega), up_n (by omega), up_n (by omega)]; exact hx j hj
    · exact keep q _ (by omega) (hD q (by omega)) (h1 q (by omega))
    · by_cases z : q = b + 1
      · subst z
        refine ⟨by rw [z11, up_s]; exact r1, by rw [z12, up_s]; exact r2, ?_, fun j hj => ?_⟩
        · rw [z13, up_s]; exact r3.1
        · have hj : j < (D b).2.2.length := hj
          obtain ⟨w1, w2, w3⟩ := r3.2 j hj
          refine ⟨?_, ?_, ?_⟩
          · rw [z14, t2 _ (Nat.zero_le _) (by omega)]; exact w1
          · rw [z14, Nat.add_assoc, t2 _ (Nat.zero_le _) (by omega), ← Nat.add_assoc]; exact w2
          · rw [z14, Nat.add_assoc, t2 _ (Nat.zero_le _) (by omega), ← Nat.add_assoc]; exact w3
      · exact keep q _ z (hD (q - 1) (by omega)) (h2 q (by omega) q2')
end MBS
