/-! the first least of the rows -/
def mgO : Option (List Nat × Nat) → Option (List Nat × Nat) → Option (List Nat × Nat)
  | none, r => r
  | some p, none => some p
  | some p, some q => if q.2 < p.2 then some q else some p
def fm (F : List Nat → Nat) : Option (List Nat × Nat) → List (List Nat) → Option (List Nat × Nat)
  | b, [] => b
  | b, p :: r => fm F (mgO b (some (p, F p))) r
theorem mgO_none (a : Option (List Nat × Nat)) : mgO a none = a := by cases a <;> rfl
theorem mgO_assoc (a b c : Option (List Nat × Nat)) : mgO (mgO a b) c = mgO a (mgO b c) := by
  cases a with
  | none => rfl
  | some a =>
    cases b with
    | none => rfl
    | some b =>
      cases c with
      | none => rw [mgO_none, mgO_none]
      | some c =>
        show mgO (if b.2 < a.2 then some b else some a) (some c) = mgO (some a) (if c.2 < b.2 then some c else some b)
        by_cases z : b.2 < a.2
        · rw [if_pos z]
          by_cases y : c.2 < b.2
          · rw [if_pos y]
            show (if c.2 < b.2 then some c else some b) = if c.2 < a.2 then some c else some a
            rw [if_pos y, if_pos (by omega)]
          · rw [if_neg y]
            show (if c.2 < b.2 then some c else some b) = if b.2 < a.2 then some b else some a
            rw [if_neg y, if_pos z]
        · rw [if_neg z]
          by_cases y : c.2 < b.2
          · rw [if_pos y]
          · rw [if_neg y]
            show (if c.2 < a.2 then some c else some a) = if b.2 < a.2 then some b else some a
            rw [if_neg (by omega), if_neg z]
theorem fm_mg (F : List Nat → Nat) : ∀ (L : List (List Nat)) (b : Option (List Nat × Nat)), fm F b L = mgO b (fm F none L)
  | [], b => (mgO_none b).symm
  | p :: r, b => by
    show fm F (mgO b (some (p, F p))) r = mgO b (fm F (mgO none (some (p, F p))) r)
    rw [fm_mg F r (mgO b (some (p, F p))), fm_mg F r (mgO none (some (p, F p)))]
    exact mgO_assoc _ _ _
theorem fm_app (F : List Nat → Nat) : ∀ (A B : List (List Nat)) (b : Option (List Nat × Nat)), fm F b (A ++ B) = fm F (fm F b A) B
  | [], B, b => rfl
  | p :: A, B, b => fm_app F A B _
theorem fm_flat (F : List Nat → Nat) (h : Nat → List (List Nat)) : ∀ (S : List Nat) (b : Option (List Nat × Nat)), fm F b (S.flatMap h) = S.foldl (fun b x => mgO b (fm F none (h x))) b
  | [], b => rfl
  | x :: S, b => by
    rw [List.flatMap_cons, fm_app, fm_flat F h S, fm_mg F (h x) b]
    rfl
theorem fm_map (F F' : List Nat → Nat) (x c : Nat) (hF : ∀ p, F' (x :: p) = c + F p) : ∀ (L : List (List Nat)) (b : Option (List Nat × Nat)), fm F' (b.map (fun p => (x :: p.1, c + p.2))) (L.map (x :: ·)) = (fm F b L).map (fun p => (x :: p.1, c + p.2))
  | [], b => rfl
  | p :: L, b => by
    show fm F' (mgO (b.map (fun p => (x :: p.1, c + p.2))) (some (x :: p, F' (x :: p)))) (L.map (x :: ·)) = (fm F (mgO b (some (p, F p))) L).map (fun p => (x :: p.1, c + p.2))
    rw [← fm_map F F' x c hF L, hF]
    congr 1
    cases b with
    | none => rfl
    | some q =>
      show (if c + F p < c + q.2 then some (x :: p, c + F p) else some (x :: q.1, c + q.2)) = Option.map (fun p => (x :: p.1, c + p.2)) (if F p < q.2 then some (p, F p) else some q)
      by_cases z : F p < q.2
      · rw [if_pos z, if_pos (by omega)]; rfl
      · rw [if_neg z, if_neg (by omega)]; rfl
def costF (d : Nat → Nat → Nat) (g : Nat → Nat) : List Nat → Nat
  | [] => 0
  | x :: r => g x + adjS d (x :: r)
theorem cost_cons (d : Nat → Nat → Nat) (g : Nat → Nat) (x : Nat) (r : List Nat) : costF d g (x :: r) = g x + costF d (d x) r := by
  cases r with
  | nil => rfl
  | cons y t => rfl
theorem bestP_fm (d : Nat → Nat → Nat) : ∀ (k : Nat) (g : Nat → Nat) (S : List Nat), S.length = k → fm (costF d g) none (lexP k S) = some ((bestP d k g S).2, (bestP d k g S).1)
  | 0, g, S, h => rfl
  | k + 1, g, S, h => by
    have hx : ∀ x ∈ S, fm (costF d g) none ((lexP k (S.erase x)).map (x :: ·)) = some (x :: (bestP d k (d x) (S.erase x)).2, g x + (bestP d k (d x) (S.erase x)).1) := by
      intro x hx
      have e := fm_map (costF d (d x)) (costF d g) x (g x) (fun p => cost_cons d g x p) (lexP k (S.erase x)) none
      have ih := bestP_fm d k (d x) (S.erase x) (by rw [List.length_erase_of_mem hx]; omega)
      rw [ih] at e
      exact e
    have fold : ∀ (T : List Nat) (ob : Option (Nat × Nat)), (∀ x ∈ T, x ∈ S) → T.foldl (fun b x => mgO b (fm (costF d g) none ((lexP k (S.erase x)).map (x :: ·)))) (ob.map (fun p => (p.1 :: (bestP d k (d p.1) (S.erase p.1)).2, p.2))) = (T.foldl (stepO (fun x => g x + (bestP d k (d x) (S.erase x)).1)) ob).map (fun p => (p.1 :: (bestP d k (d p.1) (S.erase p.1)).2, p.2)) := by
      intro T
      induction T with
      | nil => intro ob _; rfl
      | cons x T ih =>
        intro ob hT
        rw [List.foldl_cons, List.foldl_cons, ← ih _ (fun y hy => hT y (List.mem_cons_of_mem _ hy)), hx x (hT x (List.mem_cons_self ..))]
        congr 1
        cases ob with
        | none => rfl
        | some q =>
          show (if g x + (bestP d k (d x) (S.erase x)).1 < q.2 then some (x :: (bestP d k (d x) (S.erase x)).2, g x + (bestP d k (d x) (S.erase x)).1) else some (q.1 :: (bestP d k (d q.1) (S.erase q.1)).2, q.2)) = Option.map (fun p => (p.1 :: (bestP d k (d p.1) (S.erase p.1)).2, p.2)) (if g x + (bestP d k (d x) (S.erase x)).1 < q.2 then some (x, g x + (bestP d k (d x) (S.erase x)).1) else some q)
          by_cases z : g x + (bestP d k (d x) (S.erase x)).1 < q.2
          · rw [if_pos z, if_pos z]; rfl
          · rw [if_neg z, if_neg z]; rfl
    show fm (costF d g) none (S.flatMap (fun x => (lexP k (S.erase x)).map (x :: ·))) = _
    rw [fm_flat]
    have e := fold S none (fun _ h => h)
    refine Eq.trans e ?_
    have eb : bestP d (k + 1) g S = match minO (fun x => g x + (bestP d k (d x) (S.erase x)).1) S with
      | none => (0, [])
      | some m => (m.2, m.1 :: (bestP d k (d m.1) (S.erase m.1)).2) := rfl
    rw [eb]
    show (minO (fun x => g x + (bestP d k (d x) (S.erase x)).1) S).map (fun p => (p.1 :: (bestP d k (d p.1) (S.erase p.1)).2, p.2)) = _
    cases hm : minO (fun x => g x + (bestP d k (d x) (S.erase x)).1) S with
    | none =>
      have := minO_none hm
      rw [this] at h
      cases h
    | some q => rfl
theorem lexP_of : ∀ (k : Nat) (S : List Nat), S.length = k → ∀ p ∈ lexP k S, p.length = k ∧ ∀ x ∈ p, x ∈ S
  | 0, S, _, p, hp => by
    have : p = [] := List.mem_singleton.mp hp
    rw [this]
    exact ⟨rfl, (fun _ hx => nomatch hx)⟩
  | k + 1, S, h, p, hp => by
    obtain ⟨x, hx, hp⟩ := List.mem_flatMap.mp hp
    obtain ⟨p', hp', rfl⟩ := List.mem_map.mp hp
    obtain ⟨a, b⟩ := lexP_of k (S.erase x) (by rw [List.length_erase_of_mem hx]; omega) p' hp'
    refine ⟨by rw [List.length_cons, a], fun y hy => ?_⟩
    rcases List.mem_cons.mp hy with w | w
    · rw [w]; exact hx
    · exact List.mem_of_mem_erase (b y w)
theorem lexP_head : ∀ (k : Nat) (S : List Nat), S.length = k → ∃ r, lexP k S = S :: r
  | 0, S, h => ⟨[], by rw [List.eq_nil_of_length_eq_zero h]; rfl⟩
  | k + 1, [], h => by cases h
  | k + 1, x :: T, h => by
    obtain ⟨r, hr⟩ := lexP_head k T (Nat.succ.inj h)
    refine ⟨r.map (x :: ·) ++ T.flatMap (fun y => (lexP k ((x :: T).erase y)).map (y :: ·)), ?_⟩
    show (x :: T).flatMap (fun y => (lexP k ((x :: T).erase y)).map (y :: ·)) = _
    rw [List.flatMap_cons, List.erase_cons_head, hr]
    rfl
/-! the model's rows as rows of places -/
def RQ (h : Nat → Nat) (q : List Nat) (I : Nat → Int32) (X : Nat → Nat → Int32) : Prop := I 19 = nI q.length ∧ ∀ k, k < q.length → X 18 k = nI (h (q.getD k 0))
def QV (M : Nat) (q : List Nat) : Prop := q.length = M ∧ ∀ x ∈ q, x < M
theorem QV.lt {M : Nat} {q : List Nat} (h : QV M q) {t : Nat} (ht : t < M) : q.getD t 0 < M := by
  have ht : t < q.length := by rw [h.1]; exact ht
  exact h.2 _ (by rw [getD_at ht]; exact List.getElem_mem ht)
theorem swapQ_len (p : List Nat) (i j : Nat) : (swapQ p i j).length = p.length := by unfold swapQ; rw [List.length_set, List.length_set]
theorem swapQ_at {p : List Nat} {a b : Nat} (ha : a < p.length) (hb : b < p.length) (t : Nat) : (swapQ p a b).getD t 0 = if t = b then p.getD a 0 else if t = a then p.getD b 0 else p.getD t 0 := by
  unfold swapQ
  rw [set_gd (by rw [List.length_set]; exact hb), set_gd ha]
theorem QV.swap {M : Nat} {q : List Nat} (h : QV M q) {a b : Nat} (ha : a < M) (hb : b < M) : QV M (swapQ q a b) := by
  refine ⟨by rw [swapQ_len]; exact h.1, fun x hx => ?_⟩
  unfold swapQ at hx
  rcases List.mem_or_eq_of_mem_set hx with w | w
  · rcases List.mem_or_eq_of_mem_set w with w | w
    · exact h.2 x w
    · rw [w]; exact h.lt hb
  · rw [w]; exact h.lt ha
theorem adjS_map (d : Nat → Nat → Nat) (h : Nat → Nat) : ∀ p : List Nat, adjS d (p.map h) = adjS (fun a b => d (h a) (h b)) p
  | [] => rfl
  | [a] => rfl
  | a :: b :: r => by
    show d (h a) (h b) + adjS d ((b :: r).map h) = d (h a) (h b) + adjS (fun a b => d (h a) (h b)) (b :: r)
    rw [adjS_map d h (b :: r)]
theorem adjS_le {d : Nat → Nat → Nat} {c : Nat} : ∀ l : List Nat, (∀ a ∈ l, ∀ b ∈ l, d a b ≤ c) → adjS d l ≤ c * l.length
  | [], _ => Nat.zero_le _
  | [a], _ => Nat.zero_le _
  | a :: b :: r, h => by
    have ih := adjS_le (d := d) (c := c) (b :: r) (fun x hx y hy => h x (List.mem_cons_of_mem _ hx) y (List.mem_cons_of_mem _ hy))
    have h1 := h a (List.mem_cons_self ..) b (List.mem_cons_of_mem _ (List.mem_cons_self ..))
    show d a b + adjS d (b :: r) ≤ c * ((b :: r).length + 1)
    rw [Nat.mul_succ]
    omega
theorem nI_m2 (k : Nat) : nI (k + 1) - (2 : Int32) = nI k - 1 := by
  cases k with
  | zero => decide
  | succ t =>
    have : nI (t + 1 + 1) - nI 2 = nI t := by rw [pk_sub (by omega)]; congr 1
    rw [nI_pred]
    exact this
section MBS
variable {E : PE} {σ0 σ : PS} {m : Nat} {Ma : Nat → Nat} {I : Nat → Int32} {X : Nat → Nat → Int32} {β : Type} {n : Nat} {kd : Nat → Nat} {bs bo : Nat → List Nat} {S : Option PK} {M : Nat} {h : Nat → Nat}
theorem RQ.ko {q : List Nat} {X' : Nat → Nat → Int32} (hr : RQ h q I X) (h18 : X' 18 = X 18) : RQ h q I X' := ⟨hr.1, fun k hk => by rw [h18]; exact hr.2 k hk⟩
theorem RQ.sw {q : List Nat} {a b : Nat} {X' : Nat → Nat → Int32} (hr : RQ h q I X) (ha : a < q.length) (hb : b < q.length) (h18 : X' 18 = up (up (X 18) a (X 18 b)) b (X 18 a)) : RQ h (swapQ q a b) I X' := by
  refine ⟨by rw [swapQ_len]; exact hr.1, fun t ht => ?_⟩
  rw [swapQ_len] at ht
  rw [h18, swapQ_at ha hb]
  by_cases z : t = b
  · rw [if_pos z, z, up_s, hr.2 a ha]
  · rw [if_neg z, up_n z]
    by_cases y : t = a
    · rw [if_pos y, y, up_s, hr.2 b hb]
    · rw [if_neg y, up_n y, hr.2 t ht]
theorem sp_n107 (hM : M ≤ 30) : ∀ (c f lo hi : Nat) (q : List Nat) (σ : PS) (X : Nat → Nat → Int32), c < f → hi ≤ lo + 2 * c → hi < M → lo ≤ M → q.length = M → MB E σ0 σ m Ma I X → RQ h q I X →
    wp (f_X6_next_L107 E f (some m) (nI lo) (nI hi) σ) (fun r τ => r = 1 ∧ ∃ X', MB E σ0 τ m Ma I X' ∧ Xk [18] X X' ∧ RQ h (revQ c q lo hi) I X')
  | 0, f, lo, hi, q, σ, X, hf, h1, h2, h3, hq, hb, hr => by
    obtain ⟨f, rfl⟩ : ∃ z, f = z + 1 := ⟨f - 1, by omega⟩
    rw [f_X6_next_L107]
    exact wp_t (nI_le (by omega) (by omega)) (wp_ret ⟨rfl, X, hb, Xk.rf, hr⟩)
  | c + 1, f, lo, hi, q, σ, X, hf, h1, h2, h3, hq, hb, hr => by
    obtain ⟨f, rfl⟩ : ∃ z, f = z + 1 := ⟨f - 1, by omega⟩
    rw [f_X6_next_L107]
    by_cases z : hi ≤ lo
    · have e : revQ (c + 1) q lo hi = q := if_pos z
      rw [e]
      exact wp_t (nI_le z (by omega)) (wp_ret ⟨rfl, X, hb, Xk.rf, hr⟩)
    · have e : revQ (c + 1) q lo hi = revQ c (swapQ q lo hi) (lo + 1) (hi - 1) := if_neg z
      rw [e]
      refine wp_f (nI_ge (by omega) (by omega)) (wm_gr hb (by decide) (wm_al hb (by decide) rfl (by show lo < 30; omega) (wm_gr hb (by decide) (wm_gr hb (by decide) (wm_al hb (by decide) rfl (by show hi < 30; omega) (wm_as hb (by decide) rfl (by show lo < 30; omega) (fun s1 q1 => wm_gr q1 (by decide) (wm_as q1 (by decide) rfl (by show hi < 30; omega) (fun s2 q2 => ?_)))))))))
      rw [up_s] at q2
      obtain ⟨b, rfl⟩ : ∃ b, hi = b + 1 := ⟨hi - 1, by omega⟩
      rw [nI_1, pk_m1]
      refine wp_mono (sp_n107 hM c f (lo + 1) b (swapQ q lo (b + 1)) s2 _ (by omega) (by omega) (by omega) (by omega) (by rw [swapQ_len]; exact hq) q2 (hr.sw (by omega) (by omega) (by rw [up_s]))) ?_
      rintro r τ ⟨u1, X', u2, u3, u4⟩
      exact ⟨u1, X', u2, (((Xk.u (by decide)).tr (Xk.u (by decide))).tr u3), u4⟩
theorem sp_n47 {q : List Nat} {i j : Nat} {P : Int32 → PS → Prop} (hM : M ≤ 30) (hmono : ∀ a b, a < M → b < M → (h a ≤ h b ↔ a ≤ b)) (hlt : ∀ a, a < M → h a < 1000) (hq : QV M q) (hi : i < M) (hb : MB E σ0 σ m Ma I X) (hr : RQ h q I X)
    (kk : ∀ s X', MB E σ0 s m Ma I X' → Xk [18] X X' → RQ h (swapQ q i j) I X' → wp (f_X6_next_L107 E E.1 (some m) (nI (i + 1)) (nI (M - 1)) s) P) : ∀ (c f : Nat), c ≤ M → c ≤ f → lastI (fun t => q.getD i 0 ≤ q.getD t 0) c = some j → wp (f_X6_next_L47 E f (some m) (nI i) (nI c - 1) σ) P
  | 0, f, hc, hf, hl => by cases hl
  | c + 1, f, hc, hf, hl => by
    obtain ⟨f, rfl⟩ : ∃ z, f = z + 1 := ⟨f - 1, by omega⟩
    have e1 : q.length = M := hq.1
    have hci := hq.lt (t := c) (by omega)
    have hii := hq.lt hi
    have l1 := hlt _ hci
    have l2 := hlt _ hii
    rw [f_X6_next_L47, nI_pred]
    refine wm_gr hb (by decide) (wm_al hb (by decide) rfl (by show c < 30; omega) (wm_gr hb (by decide) (wm_al hb (by decide) rfl (by show i < 30; omega) ?_)))
    rw [hr.2 c (by omega), hr.2 i (by omega)]
    by_cases z : q.getD i 0 ≤ q.getD c 0
    · have e : lastI (fun t => q.getD i 0 ≤ q.getD t 0) (c + 1) = some c := if_pos z
      rw [e] at hl
      cases hl
      refine wp_t (nI_le ((hmono _ _ hii hci).mpr z) (by omega)) (wm_gr hb (by decide) (wm_al hb (by decide) rfl (by show i < 30; omega) (wm_gr hb (by decide) (wm_gr hb (by decide) (wm_al hb (by decide) rfl (by show j < 30; omega) (wm_as hb (by decide) rfl (by show i < 30; omega) (fun s1 q1 => wm_gr q1 (by decide) (wm_as q1 (by decide) rfl (by show j < 30; omega) (fun s2 q2 => wm_gi q2 ?_)))))))))
      rw [up_s] at q2
      rw [hr.1, e1, nI_1]
      have e3 : nI M - 1 = nI (M - 1) := by
        obtain ⟨b, rfl⟩ : ∃ b, M = b + 1 := ⟨M - 1, by omega⟩
        rw [nI_pred]; rfl
      rw [e3]
      exact kk s2 _ q2 ((Xk.u (by decide)).tr (Xk.u (by decide))) (hr.sw (by omega) (by omega) (by rw [up_s]))
    · have e : lastI (fun t => q.getD i 0 ≤ q.getD t 0) (c + 1) = lastI (fun t => q.getD i 0 ≤ q.getD t 0) c := if_neg z
      rw [e] at hl
      refine wp_f (nI_ge (by have := (not_congr (hmono _ _ hii hci)).mpr z; omega) (by omega)) ?_
      rw [pm1]
      exact sp_n47 hM hmono hlt hq hi hb hr kk c f (by omega) (by omega) hl
theorem sp_n7 {q : List Nat} (hM : M ≤ 30) (hmono : ∀ a b, a < M → b < M → (h a ≤ h b ↔ a ≤ b)) (hlt : ∀ a, a < M → h a < 1000) (hq : QV M q) (hb : MB E σ0 σ m Ma I X) (hr : RQ h q I X) : ∀ (c f : Nat), c + 1 ≤ M → c < f → f_X6_next_L7 E f (some m) (nI c - 1) σ = f_X6_next_B34 E (some m) (encO (lastI (fun i => q.getD i 0 ≤ q.getD (i + 1) 0) c)) σ
  | 0, f, hc, hf => by
    obtain ⟨f, rfl⟩ : ∃ z, f = z + 1 := ⟨f - 1, by omega⟩
    rw [f_X6_next_L7]
    exact e_t (show nI 0 - 1 < 0 by decide) rfl
  | c + 1, f, hc, hf => by
    obtain ⟨f, rfl⟩ : ∃ z, f = z + 1 := ⟨f - 1, by omega⟩
    have e1 : q.length = M := hq.1
    have hci := hq.lt (t := c) (by omega)
    have hii := hq.lt (t := c + 1) (by omega)
    have l1 := hlt _ hci
    have l2 := hlt _ hii
    rw [f_X6_next_L7, nI_pred]
    refine e_f (nI_pos (by omega)) (em_gr hb (by decide) (em_al hb (by decide) rfl (by show c < 30; omega) (em_gr hb (by decide) (em_al hb (by decide) (nI_1 c) (by show c + 1 < 30; omega) ?_))))
    rw [hr.2 c (by omega), hr.2 (c + 1) (by omega)]
    by_cases z : q.getD c 0 ≤ q.getD (c + 1) 0
    · have e : lastI (fun i => q.getD i 0 ≤ q.getD (i + 1) 0) (c + 1) = some c := if_pos z
      rw [e]
      exact e_t (nI_le ((hmono _ _ hci hii).mpr z) (by omega)) rfl
    · have e : lastI (fun i => q.getD i 0 ≤ q.getD (i + 1) 0) (c + 1) = lastI (fun i => q.getD i 0 ≤ q.getD (i + 1) 0) c := if_neg z
      rw [e]
      refine e_f (nI_ge (by have := (not_congr (hmono _ _ hci hii)).mpr z; omega) (by omega)) ?_
      rw [pm1]
      exact sp_n7 hM hmono hlt hq hb hr c f (by omega) (by omega)
theorem sp_next {q : List Nat} (hE : 1000 ≤ E.1) (hO : Ok E σ0) (hM : M ≤ 30) (hM1 : 1 ≤ M) (hmono : ∀ a b, a < M → b < M → (h a ≤ h b ↔ a ≤ b)) (hlt : ∀ a, a < M → h a < 1000) (hq : QV M q) (hb : MB E σ0 σ m Ma I X) (hr : RQ h q I X) :
    wp (f_X6_next E (some m) σ) (fun r τ => ∃ X', MB E σ0 τ m Ma I X' ∧ Xk [18] X X' ∧ ((nextP q = none ∧ r = 0) ∨ ∃ q', nextP q = some q' ∧ r = 1 ∧ RQ h q' I X')) := by
  have e1 : q.length = M := hq.1
  refine wm_oM hb hO (fun _ _ ⟨_, q, _⟩ => ⟨_, _, q⟩) ?_
  unfold g_X6_next
  refine wm_gi hb ?_
  rw [hr.1, e1]
  obtain ⟨k, rfl⟩ : ∃ k, M = k + 1 := ⟨M - 1, by omega⟩
  rw [nI_m2]
  refine Eq.mpr (congrArg (fun z => wp z _) (sp_n7 hM hmono hlt hq hb hr k E.1 (Nat.le_refl _) (by omega))) ?_
  have ek : q.length - 1 = k := by omega
  cases hp : lastI (fun i => q.getD i 0 ≤ q.getD (i + 1) 0) k with
  | none =>
    have en : nextP q = none := by unfold nextP; rw [ek, hp]
    unfold f_X6_next_B34
    exact wp_f (show ¬ (0 : Int32) ≤ -1 by decide) (wp_ret ⟨X, hb, Xk.rf, Or.inl ⟨en, rfl⟩⟩)
  | some i =>
    obtain ⟨p1, p2, p3⟩ := lastI_some _ _ _ hp
    have hi : i < k + 1 := by omega
    cases hj : lastI (fun j => q.getD i 0 ≤ q.getD j 0) q.length with
    | none => exact absurd (Nat.le_refl _) (lastI_none _ _ hj i (by omega))
    | some j =>
      have en : nextP q = some (revQ q.length (swapQ q i j) (i + 1) (q.length - 1)) := by unfold nextP; rw [ek, hp]; simp only [hj]
      have hjl := (lastI_some _ _ _ hj).2.1
      unfold f_X6_next_B34
      refine wp_t (show (0 : Int32) ≤ nI i from nI_pos' (by omega)) (wm_gi hb ?_)
      rw [hr.1]
      refine sp_n47 hM hmono hlt hq hi hb hr (fun s X' s1 s2 s3 => ?_) q.length E.1 (by omega) (by omega) hj
      refine wp_mono (sp_n107 (M := k + 1) hM q.length E.1 (i + 1) (k + 1 - 1) (swapQ q i j) s X' (by omega) (by omega) (by omega) (by omega) (by rw [swapQ_len]; exact e1) s1 s3) ?_
      rintro r τ ⟨rfl, X2, u1, u2, u3⟩
      refine ⟨X2, u1, s2.tr u2, Or.inr ⟨_, en, rfl, ?_⟩⟩
      rw [ek]
      exact u3
/-! the sum of a row -/
theorem sp_rs {L : List Nat} (hE : 1000 ≤ E.1) (hO : Ok E σ0) (hA : AE n kd bs) (hL : ∀ x ∈ L, x < n) (hl : L.length ≤ 30) : ∀ (c f k acc : Nat) (σ : PS) (X : Nat → Nat → Int32), L.length ≤ k + 1 + c → c < f → k ≤ 30 → MB E σ0 σ m Ma I X → RW L I X → EV n kd bs I X →
    wp (f_X6_rowSum_L4 E f (some m) (nI acc) (nI (k + 1)) σ) (fun r τ => r = nI (acc + adjS (fun a b => distN (bs a) (bs b)) (L.drop k)) ∧ ∃ X', MB E σ0 τ m Ma I X' ∧ Xk [15, 16] X X')
  | c, f, k, acc, σ, X, hc, hf, hk, hb, hr, hv => by
    obtain ⟨f, rfl⟩ : ∃ z, f = z + 1 := ⟨f - 1, by omega⟩
    rw [f_X6_rowSum_L4]
    refine wm_gi hb ?_
    rw [hr.1]
    by_cases z : L.length ≤ k + 1
    · rw [adjS_short (by rw [List.length_drop]; omega)]
      exact wp_t (nI_le z (by omega)) (wp_ret ⟨rfl, X, hb, Xk.rf⟩)
    · obtain ⟨c, rfl⟩ : ∃ b, c = b + 1 := ⟨c - 1, by omega⟩
      have hln : ∀ t, t < L.length → L.getD t 0 < n := fun t ht => hL _ (by rw [getD_at ht]; exact List.getElem_mem ht)
      refine wp_f (nI_ge (by omega) (by omega)) (wm_gr hb (by decide) (wm_al hb (by decide) (nI_pred k) (by show k < 30; omega) (wm_gr hb (by decide) (wm_al hb (by decide) rfl (by show k + 1 < 30; omega) (wm_K hb ?_)))))
      rw [hr.2 k (by omega), hr.2 (k + 1) (by omega)]
      refine wp_bd (sp_distanceOf hE hO hA (hln k (by omega)) (hln (k + 1) (by omega)) hb hv) ?_
      rintro r s ⟨g1, g2, rfl, h2⟩
      have xk : Xk [15, 16] X (up (up X 15 g1) 16 g2) := Xk.d (by decide) (by decide)
      generalize up (up X 15 g1) 16 g2 = Y at h2 xk
      rw [nI_add, nI_1]
      refine wp_mono (sp_rs hE hO hA hL hl c f (k + 1) _ s Y (by omega) (by omega) (by omega) h2 (hr.ko (xk 18 (by decide))) (hv.kx xk (by decide) (by decide) (by decide))) ?_
      rintro r τ ⟨rfl, X', u1, u2⟩
      refine ⟨?_, X', u1, xk.tr u2⟩
      rw [adjS_drop (d := fun a b => distN (bs a) (bs b)) (l := L) (i := k) (by omega), Nat.add_assoc]
termination_by c => c
theorem sp_rowSum {L : List Nat} (hE : 1000 ≤ E.1) (hO : Ok E σ0) (hA : AE n kd bs) (hL : ∀ x ∈ L, x < n) (hl : L.length ≤ 30) (hb : MB E σ0 σ m Ma I X) (hr : RW L I X) (hv : EV n kd bs I X) : wp (f_X6_rowSum E (some m) σ) (fun r τ => r = nI (adjS (fun a b => distN (bs a) (bs b)) L) ∧ ∃ X', MB E σ0 τ m Ma I X' ∧ Xk [15, 16] X X') := by
  refine wm_oM hb hO (fun _ _ ⟨_, _, q, _⟩ => ⟨_, _, q⟩) ?_
  unfold g_X6_rowSum
  have := sp_rs hE hO hA hL hl L.length E.1 0 0 σ X (by omega) (by omega) (by omega) hb hr hv
  rw [List.drop_zero] at this
  refine wp_mono this ?_
  rintro r τ ⟨rfl, u⟩
  exact ⟨by rw [Nat.zero_add], u⟩
theorem RQ.rw {q : List Nat} (hr : RQ h q I X) : RW (q.map h) I X := by
  refine ⟨by rw [List.length_map]; exact hr.1, fun k hk => ?_⟩
  rw [List.length_map] at hk
  have e : (q.map h).getD k 0 = h (q.getD k 0) := by
    rw [List.getD_eq_getElem?_getD, List.getElem?_map, List.getElem?_eq_getElem hk, getD_at hk]
    rfl
  rw [hr.2 k hk, e]
/-! copies -/
theorem sp_b66 {g : Nat → Int32} (hM : M ≤ 30) (h19 : I 19 = nI M) : ∀ (c f k : Nat) (σ : PS) (X : Nat → Nat → Int32), M = k + c → c < f → MB E σ0 σ m Ma I X → (∀ t, t < k → X 18 t = g t) → (∀ t, t < M → X 20 t = g t) →
    wp (f_X6_bestOfAll_L66 E f (some m) (nI k) σ) (fun _ τ => ∃ X', MB E σ0 τ m Ma I X' ∧ Xk [18] X X' ∧ ∀ t, t < M → X' 18 t = g t)
  | 0, f, k, σ, X, hc, hf, hb, h1, h2 => by
    obtain ⟨f, rfl⟩ : ∃ z, f = z + 1 := ⟨f - 1, by omega⟩
    rw [f_X6_bestOfAll_L66]
    refine wm_gi hb ?_
    rw [h19]
    exact wp_t (nI_le (by omega) (by omega)) (wp_ret ⟨X, hb, Xk.rf, fun t ht => h1 t (by omega)⟩)
  | c + 1, f, k, σ, X, hc, hf, hb, h1, h2 => by
    obtain ⟨f, rfl⟩ : ∃ z, f = z + 1 := ⟨f - 1, by omega⟩
    rw [f_X6_bestOfAll_L66]
    refine wm_gi hb ?_
    rw [h19]
    refine wp_f (nI_ge (by omega) (by omega)) (wm_gr hb (by decide) (wm_gr hb (by decide) (wm_al hb (by decide) rfl (by show k < 30; omega) (wm_as hb (by decide) rfl (by show k < 30; omega) (fun s1 q1 => ?_)))))
    rw [nI_1]
    refine wp_mono (sp_b66 (g := g) hM h19 c f (k + 1) s1 _ (by omega) (by omega) q1 (fun t ht => ?_) (fun t ht => ?_)) ?_
    · rw [up_s]
      by_cases z : t = k
      · rw [z, up_s]; exact h2 k (by omega)
      · rw [up_n z]; exact h1 t (by omega)
    · rw [up_n (by decide)]; exact h2 t ht
    · rintro _ τ ⟨X', u1, u2, u3⟩
      exact ⟨X', u1, (Xk.u (by decide)).tr u2, u3⟩
theorem sp_b27 {K : Option Nat → Int32 → Int32 → PS → Option (Unit × PS)} {P : Unit → PS → Prop} {v1 : Int32} {g : Nat → Int32} (hM : M ≤ 30) (h19 : I 19 = nI M) : ∀ (c f k : Nat) (σ : PS) (X : Nat → Nat → Int32), M = k + c → c < f → MB E σ0 σ m Ma I X → (∀ t, t < k → X 20 t = g t) → (∀ t, t < M → X 18 t = g t) →
    (∀ τ X', MB E σ0 τ m Ma I X' → Xk [20] X X' → (∀ t, t < M → X' 20 t = g t) → wp (f_X6_bestOfAll_B56 E K (some m) v1 τ) P) →
    wp (f_X6_bestOfAll_L27 E K f (some m) v1 (nI k) σ) P
  | 0, f, k, σ, X, hc, hf, hb, h1, h2, kk => by
    obtain ⟨f, rfl⟩ : ∃ z, f = z + 1 := ⟨f - 1, by omega⟩
    rw [f_X6_bestOfAll_L27]
    refine wm_gi hb ?_
    rw [h19]
    exact wp_t (nI_le (by omega) (by omega)) (kk σ X hb Xk.rf (fun t ht => h1 t (by omega)))
  | c + 1, f, k, σ, X, hc, hf, hb, h1, h2, kk => by
    obtain ⟨f, rfl⟩ : ∃ z, f = z + 1 := ⟨f - 1, by omega⟩
    rw [f_X6_bestOfAll_L27]
    refine wm_gi hb ?_
    rw [h19]
    refine wp_f (nI_ge (by omega) (by omega)) (wm_gr hb (by decide) (wm_gr hb (by decide) (wm_al hb (by decide) rfl (by show k < 30; omega) (wm_as hb (by decide) rfl (by show k < 30; omega) (fun s1 q1 => ?_)))))
    rw [nI_1]
    refine sp_b27 (g := g) hM h19 c f (k + 1) s1 _ (by omega) (by omega) q1 (fun t ht => ?_) (fun t ht => ?_) (fun τ X' t1 t2 t3 => kk τ X' t1 ((Xk.u (by decide)).tr t2) t3)
    · rw [up_s]
      by_cases z : t = k
      · rw [z, up_s]; exact h2 k (by omega)
      · rw [up_n z]; exact h1 t (by omega)
    · rw [up_n (by decide)]; exact h2 t ht
def encW : Option (List Nat × Nat) → Int32
  | none => -1
  | some p => nI p.2
/-- the best so far -/
def BV (M : Nat) (h : Nat → Nat) (b : Option (List Nat × Nat)) (X : Nat → Nat → Int32) : Prop := ∀ q, b = some q → q.1.length = M ∧ q.2 < 1000000 ∧ ∀ t, t < M → X 20 t = nI (h (q.1.getD t 0))
theorem sp_bst {p : List Nat} {b : Option (List Nat × Nat)} {P : Unit → PS → Prop} {f : Nat} (hE : 1000 ≤ E.1) (hO : Ok E σ0) (hA : AE n kd bs) (hM : M ≤ 30) (hlt : ∀ a, a < M → h a < n) (hq : QV M p) (hb : MB E σ0 σ m Ma I X) (hr : RQ h p I X) (hv : EV n kd bs I X) (hB : BV M h b X)
    (kk : ∀ τ X', MB E σ0 τ m Ma I X' → Xk [15, 16, 18, 20] X X' → RQ h p I X' → BV M h (mgO b (some (p, adjS (fun a b => distN (bs a) (bs b)) (p.map h)))) X' → wp (f_X6_bestOfAll_B56 E (f_X6_bestOfAll_L4 E f) (some m) (encW (mgO b (some (p, adjS (fun a b => distN (bs a) (bs b)) (p.map h))))) τ) P) :
    wp (f_X6_bestOfAll_L4 E (f + 1) (some m) (encW b) 1 σ) P := by
  have e1 : p.length = M := hq.1
  have hL : ∀ x ∈ p.map h, x < n := fun x hx => by
    obtain ⟨y, y1, rfl⟩ := List.mem_map.mp hx
    exact hlt y (hq.2 y y1)
  have hle := adjS_le (d := fun a b => distN (bs a) (bs b)) (c := 1980) (p.map h) (fun a ha b hb => distN_le (hA.2 a (hL a ha)).2.1 (hA.2 b (hL b hb)).2.1)
  rw [List.length_map, e1] at hle
  generalize hcst : adjS (fun a b => distN (bs a) (bs b)) (p.map h) = cst at *
  rw [f_X6_bestOfAll_L4]
  refine wp_f ne01 (wm_K hb (wp_bd (sp_rowSum hE hO hA hL (by rw [List.length_map]; omega) hb hr.rw hv) ?_))
  rintro r s ⟨rfl, X1, h1, x1⟩
  rw [hcst]
  have hr1 : RQ h p I X1 := hr.ko (x1 18 (by decide))
  have copy : mgO b (some (p, cst)) = some (p, cst) → wp (f_X6_bestOfAll_B22 E (f_X6_bestOfAll_L4 E f) (some m) (nI cst) s) P := by
    intro eb
    rw [eb] at kk
    unfold f_X6_bestOfAll_B22
    refine sp_b27 (g := fun t => nI (h (p.getD t 0))) hM (by rw [hr.1, e1]) M E.1 0 s X1 (by omega) (by omega) h1 (fun t ht => absurd ht (Nat.not_lt_zero _)) (fun t ht => hr1.2 t (by omega)) (fun τ X' t1 t2 t3 => ?_)
    refine kk τ X' t1 ((x1.wk (by decide)).tr (t2.wk (by decide))) (hr1.ko (t2 18 (by decide))) (fun q hq' => ?_)
    cases hq'
    exact ⟨e1, by show cst < 1000000; omega, t3⟩
  cases b with
  | none => exact wp_t (show (-1 : Int32) < 0 by decide) (copy rfl)
  | some q0 =>
    obtain ⟨b1, b2, b3⟩ := hB q0 rfl
    refine wp_f (nI_pos (show q0.2 < 2 ^ 31 by omega)) ?_
    by_cases z : q0.2 ≤ cst
    · have eb : mgO (some q0) (some (p, cst)) = some q0 := if_neg (show ¬ cst < q0.2 by omega)
      rw [eb] at kk
      refine wp_t (nI_le z (by omega)) (kk s X1 h1 (x1.wk (by decide)) hr1 (fun q hq' => ?_))
      cases hq'
      exact ⟨b1, b2, fun t ht => by rw [x1 20 (by decide)]; exact b3 t ht⟩
    · refine wp_f (nI_ge (by omega) (by omega)) (copy (if_pos (show cst < q0.2 by omega)))
theorem mgO_some (b : Option (List Nat × Nat)) (p : List Nat × Nat) : ∃ q, mgO b (some p) = some q := by
  cases b with
  | none => exact ⟨p, rfl⟩
  | some a =>
    show ∃ q, (if p.2 < a.2 then some p else some a) = some q
    by_cases z : p.2 < a.2
    · exact ⟨p, if_pos z⟩
    · exact ⟨a, if_neg z⟩
theorem sp_b4 (hE : 1000 ≤ E.1) (hO : Ok E σ0) (hA : AE n kd bs) (hM : M ≤ 30) (hM1 : 1 ≤ M) (hmono : ∀ a b, a < M → b < M → (h a ≤ h b ↔ a ≤ b)) (hlt : ∀ a, a < M → h a < n) : ∀ (r : List (List Nat)) (f : Nat) (p : List Nat) (b : Option (List Nat × Nat)) (σ : PS) (X : Nat → Nat → Int32), r.length + 2 ≤ f → chk (p :: r) = true → (∀ q ∈ p :: r, QV M q) → MB E σ0 σ m Ma I X → RQ h p I X → EV n kd bs I X → BV M h b X →
    wp (f_X6_bestOfAll_L4 E f (some m) (encW b) 1 σ) (fun _ τ => ∃ X' q, fm (fun p => adjS (fun a b => distN (bs a) (bs b)) (p.map h)) b (p :: r) = some q ∧ MB E σ0 τ m Ma I X' ∧ Xk [15, 16, 18, 20] X X' ∧ RQ h q.1 I X')
  | [], f, p, b, σ, X, hf, hc, hQ, hb, hr, hv, hB => by
    obtain ⟨f, rfl⟩ : ∃ z, f = z + 1 := ⟨f - 1, by omega⟩
    have hn : n ≤ 30 := hA.1
    have hq := hQ p (List.mem_cons_self ..)
    have hnx : nextP p = none := of_decide_eq_true hc
    refine sp_bst hE hO hA hM hlt hq hb hr hv hB (fun τ X' t1 t2 t3 t4 => ?_)
    obtain ⟨q0, hq0⟩ := mgO_some b (p, adjS (fun a b => distN (bs a) (bs b)) (p.map h))
    have hfm : fm (fun p => adjS (fun a b => distN (bs a) (bs b)) (p.map h)) b [p] = some q0 := hq0
    rw [hq0] at t4 ⊢
    obtain ⟨c1, c2, c3⟩ := t4 q0 rfl
    unfold f_X6_bestOfAll_B56
    refine wm_K t1 (wp_bd (sp_next hE hO hM hM1 hmono (fun a ha => by have := hlt a ha; omega) hq t1 t3) ?_)
    rintro r s ⟨X2, u1, u2, ⟨-, rfl⟩ | ⟨q', u3, -⟩⟩
    · obtain ⟨f, rfl⟩ : ∃ z, f = z + 1 := ⟨f - 1, by omega⟩
      rw [f_X6_bestOfAll_L4]
      have e19 : I 19 = nI M := by rw [hr.1, hq.1]
      refine wp_t rfl (wp_mono (sp_b66 (M := M) (g := fun t => nI (h (q0.1.getD t 0))) hM e19 M E.1 0 s X2 (by omega) (by omega) u1 (fun t ht => absurd ht (Nat.not_lt_zero _)) (fun t ht => by rw [u2 20 (by decide)]; exact c3 t ht)) ?_)
      rintro _ ρ ⟨X3, v1, v2, v3⟩
      exact ⟨X3, q0, hfm, v1, (t2.tr (u2.wk (by decide))).tr (v2.wk (by decide)), ⟨by rw [e19, c1], fun k hk => v3 k (by omega)⟩⟩
    · rw [hnx] at u3; cases u3
  | q1 :: r, f, p, b, σ, X, hf, hc, hQ, hb, hr, hv, hB => by
    obtain ⟨f, rfl⟩ : ∃ z, f = z + 1 := ⟨f - 1, by omega⟩
    have hn : n ≤ 30 := hA.1
    have hf : r.length + 1 + 2 ≤ f + 1 := hf
    have hq := hQ p (List.mem_cons_self ..)
    have hc2 : (decide (nextP p = some q1) && chk (q1 :: r)) = true := hc
    rw [Bool.and_eq_true] at hc2
    have hnx : nextP p = some q1 := of_decide_eq_true hc2.1
    refine sp_bst hE hO hA hM hlt hq hb hr hv hB (fun τ X' t1 t2 t3 t4 => ?_)
    unfold f_X6_bestOfAll_B56
    refine wm_K t1 (wp_bd (sp_next hE hO hM hM1 hmono (fun a ha => by have := hlt a ha; omega) hq t1 t3) ?_)
    rintro r14 s ⟨X2, u1, u2, ⟨u3, -⟩ | ⟨q', u3, rfl, u4⟩⟩
    · rw [hnx] at u3; cases u3
    · rw [hnx] at u3
      cases u3
      have x2 : Xk [15, 16, 18, 20] X X2 := t2.tr (u2.wk (by decide))
      refine wp_mono (sp_b4 hE hO hA hM hM1 hmono hlt r f q1 _ s X2 (by omega) hc2.2 (fun q hq => hQ q (List.mem_cons_of_mem _ hq)) u1 u4 (hv.kx x2 (by decide) (by decide) (by decide)) (fun q hq' => ?_)) ?_
      · obtain ⟨c1, c2, c3⟩ := t4 q hq'
        exact ⟨c1, c2, fun t ht => by rw [u2 20 (by decide)]; exact c3 t ht⟩
      · rintro _ ρ ⟨X3, q3, w1, w2, w3, w4⟩
        exact ⟨X3, q3, w1, w2, x2.tr w3, w4⟩
theorem sp_best6 {L : List Nat} (hE : 10000 ≤ E.1) (hO : Ok E σ0) (hA : AE n kd bs) (hs : L.Pairwise (· < ·)) (hL : ∀ x ∈ L, x < n) (hl : L.length ≤ 7) (hl1 : 1 ≤ L.length) (hb : MB E σ0 σ m Ma I X) (hr : RW L I X) (hv : EV n kd bs I X) :
    wp (f_X6_bestOfAll E (some m) σ) (fun _ τ => ∃ X', MB E σ0 τ m Ma I X' ∧ Xk [15, 16, 18, 20] X X' ∧ RW (bestL (fun x y => distN (bs x) (bs y)) L) I X') := by
  have hlt : ∀ a, a < L.length → L.getD a 0 < n := fun a ha => hL _ (by rw [getD_at ha]; exact List.getElem_mem ha)
  have hsm : ∀ a b, a < b → b < L.length → L.getD a 0 < L.getD b 0 := fun a b hab hb => by
    rw [getD_at (by omega), getD_at hb]
    exact List.pairwise_iff_getElem.mp hs a b (by omega) hb hab
  have hmono : ∀ a b, a < L.length → b < L.length → (L.getD a 0 ≤ L.getD b 0 ↔ a ≤ b) := fun a b ha hb => by
    constructor
    · intro w
      by_cases z : b < a
      · have := hsm b a z ha; omega
      · omega
    · intro w
      by_cases z : a = b
      · rw [z]; exact Nat.le_refl _
      · exact Nat.le_of_lt (hsm a b (by omega) hb)
  obtain ⟨r, hlex⟩ := lexP_head L.length (List.range' 0 L.length) List.length_range'
  have hck : chk (lexP L.length (List.range' 0 L.length)) = true := by
    have := chk_all (L.length - 1) (by omega)
    have e : L.length - 1 + 1 = L.length := by omega
    rw [e] at this
    exact this
  have hQ : ∀ q ∈ lexP L.length (List.range' 0 L.length), QV L.length q := fun q hq => by
    obtain ⟨a, b⟩ := lexP_of _ _ List.length_range' q hq
    exact ⟨a, fun x hx => by have := List.mem_range'_1.mp (b x hx); omega⟩
  have hrl : r.length + 2 ≤ E.1 := by
    have e : ∀ m, m < 7 → (lexP (m + 1) (List.range' 0 (m + 1))).length ≤ 5040 := by decide +kernel
    have := e (L.length - 1) (by omega)
    have e2 : L.length - 1 + 1 = L.length := by omega
    rw [e2, hlex, List.length_cons] at this
    omega
  have hfm : fm (fun p => adjS (fun a b => distN (bs a) (bs b)) (p.map (fun i => L.getD i 0))) none (lexP L.length (List.range' 0 L.length)) = some ((bestP (fun a b => distN (bs (L.getD a 0)) (bs (L.getD b 0))) L.length (fun _ => 0) (List.range' 0 L.length)).2, (bestP (fun a b => distN (bs (L.getD a 0)) (bs (L.getD b 0))) L.length (fun _ => 0) (List.range' 0 L.length)).1) := by
    have e : (fun p : List Nat => adjS (fun a b => distN (bs a) (bs b)) (p.map (fun i => L.getD i 0))) = costF (fun a b => distN (bs (L.getD a 0)) (bs (L.getD b 0))) (fun _ => 0) := by
      funext p
      rw [adjS_map]
      cases p with
      | nil => rfl
      | cons a t => exact (Nat.zero_add _).symm
    rw [e]
    exact bestP_fm _ L.length (fun _ => 0) (List.range' 0 L.length) List.length_range'
  rw [hlex] at hck hQ hfm
  have hbl : bestL (fun x y => distN (bs x) (bs y)) L = (bestP (fun a b => distN (bs (L.getD a 0)) (bs (L.getD b 0))) L.length (fun _ => 0) (List.range' 0 L.length)).2.map (fun i => L.getD i 0) := by
    have e := bestP_map (fun x y => distN (bs x) (bs y)) (fun i => L.getD i 0) L.length (fun _ => 0) (List.range' 0 L.length) (fun x hx y hy w => by
      have h1 := List.mem_range'_1.mp hx
      have h2 := List.mem_range'_1.mp hy
      have w : L.getD x 0 = L.getD y 0 := w
      have h3 := (hmono x y (by omega) (by omega)).mp (by omega)
      have h4 := (hmono y x (by omega) (by omega)).mp (by omega)
      omega)
    rw [rg_getD] at e
    unfold bestL
    rw [e]
  refine wm_oM hb hO (fun _ _ ⟨_, q, _⟩ => ⟨_, _, q⟩) ?_
  unfold g_X6_bestOfAll
  have hr0 : RQ (fun i => L.getD i 0) (List.range' 0 L.length) I X := by
    refine ⟨by rw [List.length_range']; exact hr.1, fun k hk => ?_⟩
    rw [List.length_range'] at hk
    have e : (List.range' 0 L.length).getD k 0 = k := by rw [List.getD_eq_getElem?_getD, List.getElem?_range' hk]; simp
    rw [e]
    exact hr.2 k hk
  refine wp_mono (sp_b4 (M := L.length) (h := fun i => L.getD i 0) (by omega) hO hA (by omega) hl1 hmono hlt r E.1 _ none σ X hrl hck hQ hb hr0 hv (fun q hq => nomatch hq)) ?_
  rintro _ τ ⟨X', q, u1, u2, u3, u4⟩
  rw [hfm] at u1
  cases u1
  refine ⟨X', u2, u3, ?_⟩
  rw [hbl]
  exact u4.rw
end MBS
