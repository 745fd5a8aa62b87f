/-! the model makes a row -/
def gcat (bs : Nat → List Nat) (g : Nat) : List Nat → List Nat → List Nat
  | e :: o, a :: t => (if a = g then bs e else []) ++ gcat bs g o t
  | _, _ => []
theorem gcat_app (bs : Nat → List Nat) (g : Nat) : ∀ (o t o' t' : List Nat), o.length = t.length → gcat bs g (o ++ o') (t ++ t') = gcat bs g o t ++ gcat bs g o' t'
  | [], [], o', t', _ => rfl
  | [], _ :: _, _, _, h => by cases h
  | _ :: _, [], _, _, h => by cases h
  | e :: o, a :: t, o', t', h => by
    have h : o.length + 1 = t.length + 1 := h
    show (if a = g then bs e else []) ++ gcat bs g (o ++ o') (t ++ t') = ((if a = g then bs e else []) ++ gcat bs g o t) ++ gcat bs g o' t'
    rw [gcat_app bs g o t o' t' (by omega), List.append_assoc]
theorem gcat_rep (bs : Nat → List Nat) (g b : Nat) : ∀ (o : List Nat), gcat bs g o (List.replicate o.length b) = if b = g then cont bs o else []
  | [] => by
    show [] = _
    split <;> rfl
  | e :: o => by
    show (if b = g then bs e else []) ++ gcat bs g o (List.replicate o.length b) = _
    rw [gcat_rep bs g b o, cont_cons]
    split
    · rfl
    · rfl
theorem gcat_flat (bs : Nat → List Nat) (g : Nat) : ∀ (gs : List Grp) (b : Nat), gcat bs g (flat gs) (gatF b gs) = if b ≤ g ∧ g < b + gs.length then contG bs gs (g - b) else []
  | [], b => by
    rw [if_neg (fun z => by have := z.2; simp at this; omega)]
    rfl
  | q :: r, b => by
    unfold gatF
    rw [flat_cons, gcat_app bs g _ _ _ _ (by rw [List.length_replicate]), gcat_rep, gcat_flat bs g r (b + 1), List.length_cons]
    by_cases z : b = g
    · rw [if_pos z, if_neg (fun w => by omega), if_pos ⟨by omega, by omega⟩, List.append_nil]
      have : g - b = 0 := by omega
      rw [this]
      rfl
    · rw [if_neg z, List.nil_append]
      by_cases y : b + 1 ≤ g ∧ g < b + 1 + r.length
      · rw [if_pos y, if_pos ⟨by omega, by omega⟩]
        have : g - b = (g - (b + 1)) + 1 := by omega
        rw [this]
        rfl
      · rw [if_neg y, if_neg (fun w => y ⟨by omega, by omega⟩)]
/-- the gathered bytes -/
def CV (c : List Nat) (I : Nat → Int32) (X : Nat → Nat → Int32) : Prop := I 22 = nI c.length ∧ ∀ i, i < c.length → X 21 i = nI (c.getD i 0)
section MBS
variable {E : PE} {σ0 σ : PS} {m : Nat} {Ma : Nat → Nat} {I : Nat → Int32} {X : Nat → Nat → Int32} {β : Type} {n : Nat} {kd : Nat → Nat} {bs : Nat → List Nat} {S : Option PK}
theorem GV.ko {gs : List Grp} {I I' : Nat → Int32} {X X' : Nat → Nat → Int32} (h : GV gs I X) (h9 : I' 9 = I 9) (h10 : I' 10 = I 10) (h7 : X' 7 = X 7) (h8 : X' 8 = X 8) (h11 : X' 11 = X 11) (h12 : X' 12 = X 12) : GV gs I' X' := by
  obtain ⟨b1, b2, b3, b4⟩ := h
  exact ⟨by rw [h9]; exact b1, by rw [h10]; exact b2, fun k hk => by rw [h7, h8]; exact b3 k hk, fun g hg => by rw [h11, h12]; exact b4 g hg⟩
/-- what gathers changes -/
def Xg (I I' : Nat → Int32) (X X' : Nat → Nat → Int32) : Prop := (∀ k, k ≠ 22 → I' k = I k) ∧ ∀ k, k ≠ 21 → X' k = X k
theorem Xg.rf {I : Nat → Int32} {X : Nat → Nat → Int32} : Xg I I X X := ⟨fun _ _ => rfl, fun _ _ => rfl⟩
theorem Xg.tr {I I' I2 : Nat → Int32} {X X' X2 : Nat → Nat → Int32} (h : Xg I I' X X') (k : Xg I' I2 X' X2) : Xg I I2 X X2 := ⟨fun j hj => (k.1 j hj).trans (h.1 j hj), fun j hj => (k.2 j hj).trans (h.2 j hj)⟩
theorem sp_gaE {g k e : Nat} {P : Unit → PS → Prop} {K : Option Nat → Int32 → Int32 → PS → Option (Unit × PS)} (hn : n ≤ 30) (hen : e < n) (hk30 : k < 30) (hbl : (bs e).length ≤ 60) : ∀ (c f i : Nat) (σ : PS) (I : Nat → Int32) (X : Nat → Nat → Int32) (d : List Nat), (bs e).length = i + c → c < f → MB E σ0 σ m Ma I X → X 8 k = nI g → X 7 k = nI e → EV n kd bs I X → CV d I X → d.length + c ≤ 1800 →
    (∀ τ I' X', MB E σ0 τ m Ma I' X' → Xg I I' X X' → CV (d ++ (bs e).drop i) I' X' → wp (K (some m) (nI g) (nI (k + 1)) τ) P) →
    wp (f_X6_gathers_L17 E K f (some m) (nI g) (nI k) (nI i) σ) P
  | 0, f, i, σ, I, X, d, hc, hf, h, h8, h7, hv, hcv, hdl, kk => by
    obtain ⟨f, rfl⟩ : ∃ z, f = z + 1 := ⟨f - 1, by omega⟩
    obtain ⟨y1, y2, y3⟩ := hv.2 e hen
    rw [f_X6_gathers_L17]
    refine wm_gr h (by decide) (wm_al h (by decide) rfl (by show k < 30; omega) ?_)
    rw [h8]
    refine wp_t rfl (wm_gr h (by decide) (wm_gr h (by decide) (wm_al h (by decide) rfl (by show k < 30; omega) ?_)))
    rw [h7]
    refine wm_al h (by decide) rfl (by show e < 30; omega) ?_
    rw [y2]
    unfold f_X6_gathers_B83
    rw [nI_1]
    refine wp_t (nI_le (by omega) (by omega)) (kk σ I X h Xg.rf ?_)
    rw [List.drop_eq_nil_of_le (by omega), List.append_nil]
    exact hcv
  | c + 1, f, i, σ, I, X, d, hc, hf, h, h8, h7, hv, hcv, hdl, kk => by
    obtain ⟨f, rfl⟩ : ∃ z, f = z + 1 := ⟨f - 1, by omega⟩
    obtain ⟨y1, y2, y3⟩ := hv.2 e hen
    have hi : i < (bs e).length := by omega
    rw [f_X6_gathers_L17]
    refine wm_gr h (by decide) (wm_al h (by decide) rfl (by show k < 30; omega) ?_)
    rw [h8]
    refine wp_t rfl (wm_gr h (by decide) (wm_gr h (by decide) (wm_al h (by decide) rfl (by show k < 30; omega) ?_)))
    rw [h7]
    refine wm_al h (by decide) rfl (by show e < 30; omega) ?_
    rw [y2]
    refine wp_f (nI_ge hi (by omega)) (wm_gr h (by decide) (wm_gi h (wm_gr h (by decide) (wm_gr h (by decide) (wm_al h (by decide) rfl (by show k < 30; omega) ?_)))))
    rw [h7]
    refine wm_al h (by decide) (sx e i) (by show 60 * e + i < 1800; omega) ?_
    rw [y3 i hi]
    refine wm_as h (j := d.length) (by decide) hcv.1 (by show d.length < 1800; omega) (fun s1 h1 => wm_gi h1 (wm_pi h1 (fun s2 h2 => ?_)))
    rw [hcv.1, nI_1] at h2
    rw [nI_1]
    refine sp_gaE hn hen hk30 hbl c f (i + 1) s2 _ _ (d ++ [(bs e).getD i 0]) (by omega) (by omega) h2 (by rw [up_n (by decide)]; exact h8) (by rw [up_n (by decide)]; exact h7) (hv.ko (up_n (by decide)) (up_n (by decide)) (up_n (by decide)) (up_n (by decide))) ⟨?_, fun j hj => ?_⟩ (by rw [List.length_append]; show d.length + 1 + c ≤ 1800; omega) (fun τ I' X' t1 t2 t3 => kk τ I' X' t1 ?_ ?_)
    · rw [up_s, List.length_append]; rfl
    · rw [List.length_append] at hj
      have hj : j < d.length + 1 := hj
      rw [up_s]
      by_cases z : j = d.length
      · rw [z, up_s, getD_app2 (Nat.le_refl _), Nat.sub_self]; rfl
      · rw [up_n z, getD_app1 (by omega)]; exact hcv.2 j (by omega)
    · exact Xg.tr ⟨fun j hj => up_n hj, fun j hj => up_n hj⟩ t2
    · rw [drop_cons (T := bs e) hi 0, ← List.singleton_append, ← List.append_assoc]
      exact t3
theorem sp_gaL {gs : List Grp} {g : Nat} (hE : 1000 ≤ E.1) (hn : n ≤ 30) (hbl : ∀ x, x < n → (bs x).length ≤ 60) (hl : (flat gs).length ≤ 30) (hgl : gs.length ≤ 30) (hb : ∀ e ∈ flat gs, e < n) (hg2 : g < 1000) : ∀ (c f k : Nat) (σ : PS) (I : Nat → Int32) (X : Nat → Nat → Int32) (d : List Nat), (flat gs).length = k + c → c < f → MB E σ0 σ m Ma I X → GV gs I X → EV n kd bs I X → CV d I X → d.length ≤ 60 * k →
    wp (f_X6_gathers_L7 E f (some m) (nI g) (nI k) σ) (fun _ τ => ∃ I' X', MB E σ0 τ m Ma I' X' ∧ Xg I I' X X' ∧ CV (d ++ gcat bs g ((flat gs).drop k) ((gatF 0 gs).drop k)) I' X')
  | 0, f, k, σ, I, X, d, hc, hf, h, hg, hv, hcv, hd => by
    obtain ⟨f, rfl⟩ : ∃ z, f = z + 1 := ⟨f - 1, by omega⟩
    rw [f_X6_gathers_L7]
    refine wm_gi h ?_
    rw [hg.1]
    refine wp_t (nI_le (by omega) (by omega)) (wp_ret ⟨I, X, h, Xg.rf, ?_⟩)
    rw [List.drop_eq_nil_of_le (by omega)]
    show CV (d ++ []) I X
    rw [List.append_nil]
    exact hcv
  | c + 1, f, k, σ, I, X, d, hc, hf, h, hg, hv, hcv, hd => by
    obtain ⟨f, rfl⟩ : ∃ z, f = z + 1 := ⟨f - 1, by omega⟩
    have hk : k < (flat gs).length := by omega
    have hk2 : k < (gatF 0 gs).length := by rw [gatF_len]; exact hk
    have hd1 := drop_cons (T := flat gs) hk 0
    have hd2 := drop_cons (T := gatF 0 gs) hk2 0
    have hen : (flat gs).getD k 0 < n := hb _ (by rw [getD_at hk]; exact List.getElem_mem hk)
    obtain ⟨x1, x2⟩ := hg.2.2.1 k hk
    have g1 := gat_lt hk
    have hbe := hbl _ hen
    rw [hd1, hd2]
    show wp _ (fun _ τ => ∃ I' X', MB E σ0 τ m Ma I' X' ∧ Xg I I' X X' ∧ CV (d ++ ((if (gatF 0 gs).getD k 0 = g then bs ((flat gs).getD k 0) else []) ++ gcat bs g ((flat gs).drop (k + 1)) ((gatF 0 gs).drop (k + 1)))) I' X')
    rw [f_X6_gathers_L7]
    refine wm_gi h ?_
    rw [hg.1]
    refine wp_f (nI_ge hk (by omega)) ?_
    by_cases z : (gatF 0 gs).getD k 0 = g
    · rw [if_pos z]
      rw [z] at x2
      refine sp_gaE (e := (flat gs).getD k 0) hn hen (by omega) hbe (bs ((flat gs).getD k 0)).length E.1 0 σ I X d (by omega) (by omega) h x2 x1 hv hcv (by omega) (fun τ I' X' t1 t2 t3 => ?_)
      rw [List.drop_zero] at t3
      refine wp_mono (sp_gaL hE hn hbl hl hgl hb hg2 c f (k + 1) τ I' X' _ (by omega) (by omega) t1 (hg.ko (t2.1 9 (by decide)) (t2.1 10 (by decide)) (t2.2 7 (by decide)) (t2.2 8 (by decide)) (t2.2 11 (by decide)) (t2.2 12 (by decide))) (hv.ko (t2.1 0 (by decide)) (t2.2 1 (by decide)) (t2.2 2 (by decide)) (t2.2 3 (by decide))) t3 (by rw [List.length_append]; omega)) ?_
      rintro _ ρ ⟨I2, X2, u1, u2, u3⟩
      refine ⟨I2, X2, u1, t2.tr u2, ?_⟩
      rw [List.append_assoc] at u3
      exact u3
    · rw [if_neg z, List.nil_append]
      obtain ⟨f0, hf0⟩ : ∃ f0, E.1 = f0 + 1 := ⟨E.1 - 1, by omega⟩
      rw [hf0, f_X6_gathers_L17]
      refine wm_gr h (by decide) (wm_al h (by decide) rfl (by show k < 30; omega) ?_)
      rw [x2]
      unfold f_X6_gathers_B83
      rw [nI_1]
      exact wp_f (fun y => z ((nI_eq (by omega) (by omega)).mp y)) (sp_gaL hE hn hbl hl hgl hb hg2 c f (k + 1) σ I X d (by omega) (by omega) h hg hv hcv (by omega))
theorem sp_gathers {gs : List Grp} {g : Nat} (hE : 1000 ≤ E.1) (hO : Ok E σ0) (hn : n ≤ 30) (hbl : ∀ x, x < n → (bs x).length ≤ 60) (hl : (flat gs).length ≤ 30) (hgl : gs.length ≤ 30) (hb : ∀ e ∈ flat gs, e < n) (hg2 : g < gs.length) (h : MB E σ0 σ m Ma I X) (hg : GV gs I X) (hv : EV n kd bs I X) :
    wp (f_X6_gathers E (some m) (nI g) σ) (fun _ τ => ∃ I' X', MB E σ0 τ m Ma I' X' ∧ Xg I I' X X' ∧ CV (contG bs gs g) I' X') := by
  refine wm_oM h hO (fun _ _ ⟨_, _, q, _⟩ => ⟨_, _, q⟩) ?_
  unfold g_X6_gathers
  refine wm_pi h (fun s h1 => ?_)
  refine wp_mono (sp_gaL (gs := gs) (g := g) hE hn hbl hl hgl hb (by omega) (flat gs).length E.1 0 s _ X [] (by omega) (by omega) h1 (hg.ko (up_n (by decide)) (up_n (by decide)) rfl rfl rfl rfl) (hv.ko (up_n (by decide)) rfl rfl rfl) ⟨up_s, fun i hi => absurd hi (Nat.not_lt_zero _)⟩ (Nat.le_refl _)) ?_
  rintro _ τ ⟨I', X', u1, u2, u3⟩
  rw [List.drop_zero, List.drop_zero, gcat_flat, if_pos ⟨Nat.zero_le _, by omega⟩, Nat.sub_zero, List.nil_append] at u3
  exact ⟨I', X', u1, Xg.tr ⟨fun j hj => up_n hj, fun _ _ => rfl⟩ u2, u3⟩
/-! the tokens -/
def encF (p : Nat × Nat) : Nat × Nat := if p.2 < 4 then (0, 3) else p
theorem sp_mM {c : List Nat} {g t p q : Nat} {b many : Int32} {k9 : Option Nat → Int32 → Int32 → Int32 → PS → Option (Unit × PS)} {k28 : Option Nat → Int32 → Int32 → Int32 → Int32 → Int32 → Int32 → PS → Option (Unit × PS)} (h : MB E σ0 σ m Ma I X) (hc : CV c I X) (hcl : c.length ≤ 1800) (hb : ∀ x ∈ c, x < 256) (hq : q < p) (hp : p < c.length) : ∀ (k f s : Nat), min 60 (c.length - p) = s + k → k < f → f_X6_makes_L36 E k9 k28 f (some m) (nI g) (nI t) (nI p) b many (nI q) (nI s) σ = f_X6_makes_B82 E k9 k28 (some m) (nI g) (nI t) (nI p) b many (nI q) (nI (same c q p k s)) σ
  | 0, f, s, hm, hf => by
    obtain ⟨f, rfl⟩ : ∃ z, f = z + 1 := ⟨f - 1, by omega⟩
    rw [f_X6_makes_L36]
    by_cases z : 60 ≤ s
    · exact e_t (show nI 60 ≤ nI s from nI_le z (by omega)) rfl
    · refine e_f (show ¬ nI 60 ≤ nI s from nI_ge (by omega) (by omega)) (em_gi h ?_)
      rw [hc.1, nI_add]
      exact e_t (nI_le (by omega) (by omega)) rfl
  | k + 1, f, s, hm, hf => by
    obtain ⟨f, rfl⟩ : ∃ z, f = z + 1 := ⟨f - 1, by omega⟩
    have l1 := getD_lt hb (q + s)
    have l2 := getD_lt hb (p + s)
    rw [f_X6_makes_L36]
    refine e_f (show ¬ nI 60 ≤ nI s from nI_ge (by omega) (by omega)) (em_gi h ?_)
    rw [hc.1, nI_add]
    refine e_f (nI_ge (by omega) (by omega)) (em_gr h (by decide) (em_al h (by decide) (nI_add q s) (by show q + s < 1800; omega) (em_gr h (by decide) (em_al h (by decide) rfl (by show p + s < 1800; omega) ?_))))
    rw [hc.2 _ (by omega), hc.2 _ (by omega)]
    unfold same
    by_cases z : c.getD (q + s) 0 = c.getD (p + s) 0
    · rw [if_pos z]
      refine e_t (congrArg nI z) ?_
      rw [nI_1]
      exact sp_mM h hc hcl hb hq hp k f (s + 1) (by omega) (by omega)
    · rw [if_neg z]
      exact e_f (fun y => z ((nI_eq (by omega) (by omega)).mp y)) rfl
theorem sp_mQ {c : List Nat} {g t p : Nat} {P : Unit → PS → Prop} {k9 : Option Nat → Int32 → Int32 → Int32 → PS → Option (Unit × PS)} (hE : 1000 ≤ E.1) (h : MB E σ0 σ m Ma I X) (hc : CV c I X) (hcl : c.length ≤ 1800) (hb : ∀ x ∈ c, x < 256) (hp : p < c.length)
    (kk : ∀ f, wp (f_X6_makes_L28 E k9 (f + 1) (some m) (nI g) (nI t) (nI p) (nI (encF (fc c p (min 60 (c.length - p)) p)).1) (nI (encF (fc c p (min 60 (c.length - p)) p)).2) (nI 0 - 1) σ) P) : ∀ (r f d : Nat), p = d + r → r < f → wp (f_X6_makes_L28 E k9 f (some m) (nI g) (nI t) (nI p) (nI (encF (fc c p (min 60 (c.length - p)) d)).1) (nI (encF (fc c p (min 60 (c.length - p)) d)).2) (nI (p - d) - 1) σ) P
  | 0, f, d, hd, hf => by
    obtain ⟨f, rfl⟩ : ∃ z, f = z + 1 := ⟨f - 1, by omega⟩
    have : d = p := by omega
    subst this
    rw [Nat.sub_self]
    exact kk f
  | r + 1, f, d, hd, hf => by
    obtain ⟨f, rfl⟩ : ∃ z, f = z + 1 := ⟨f - 1, by omega⟩
    have ih := sp_mQ (t := t) (k9 := k9) hE h hc hcl hb hp kk r f (d + 1) (by omega) (by omega)
    have e1 : p - d = (p - (d + 1)) + 1 := by omega
    have hs := same_le c (p - (d + 1)) p (min 60 (c.length - p)) 0
    have hf1 := fc_le c p (min 60 (c.length - p)) d
    rw [f_X6_makes_L28, e1, nI_pred]
    refine wp_f (nI_pos (by omega)) ?_
    have eq := sp_mM (E := E) (g := g) (t := t) (b := nI (encF (fc c p (min 60 (c.length - p)) d)).1) (many := nI (encF (fc c p (min 60 (c.length - p)) d)).2) (k9 := k9) (k28 := f_X6_makes_L28 E k9 f) h hc hcl hb (show p - (d + 1) < p by omega) hp (min 60 (c.length - p)) E.1 0 (by omega) (by omega)
    refine Eq.mpr (congrArg (fun z => wp z P) eq) ?_
    unfold f_X6_makes_B82 f_X6_makes_B99
    rw [pm1]
    have hst : fc c p (min 60 (c.length - p)) (d + 1) = if (fc c p (min 60 (c.length - p)) d).2 < same c (p - (d + 1)) p (min 60 (c.length - p)) 0 then (d + 1, same c (p - (d + 1)) p (min 60 (c.length - p)) 0) else fc c p (min 60 (c.length - p)) d := rfl
    rw [hst] at ih
    generalize hsm : same c (p - (d + 1)) p (min 60 (c.length - p)) 0 = sv at *
    generalize hfc : fc c p (min 60 (c.length - p)) d = fv at *
    have e2 : nI p - nI (p - (d + 1)) = nI (d + 1) := by rw [pk_sub (by omega)]; congr 1; omega
    unfold encF at ih ⊢
    by_cases a4 : fv.2 < 4
    · rw [if_pos a4]
      by_cases s4 : 3 < sv
      · rw [if_pos (show fv.2 < sv by omega), if_neg (show ¬ (d + 1, sv).2 < 4 by show ¬ sv < 4; omega)] at ih
        refine wp_f (show ¬ nI sv ≤ nI 3 from nI_ge s4 (by omega)) ?_
        rw [e2]
        exact ih
      · refine wp_t (show nI sv ≤ nI 3 from nI_le (by omega) (by omega)) ?_
        by_cases s2 : fv.2 < sv
        · rw [if_pos s2, if_pos (show (d + 1, sv).2 < 4 by show sv < 4; omega)] at ih
          exact ih
        · rw [if_neg s2, if_pos a4] at ih
          exact ih
    · rw [if_neg a4]
      by_cases s2 : fv.2 < sv
      · rw [if_pos s2, if_neg (show ¬ (d + 1, sv).2 < 4 by show ¬ sv < 4; omega)] at ih
        refine wp_f (nI_ge s2 (by omega)) ?_
        rw [e2]
        exact ih
      · rw [if_neg s2, if_neg a4] at ih
        exact wp_t (nI_le (by omega) (by omega)) ih
theorem up_tri {α : Type} {X : Nat → α} {k : Nat} {a b c : α} : up (up (up X k a) k b) k c = up X k c := (up_up (up X k a) k b c).trans (up_up X k a c)
/-- what makes changes of the tokens -/
def Xt (g : Nat) (X X' : Nat → Nat → Int32) : Prop := (∀ k, k ≠ 14 → X' k = X k) ∧ ∀ i, (i < 5400 * g ∨ 5400 * g + 5400 ≤ i) → X' 14 i = X 14 i
theorem sp_mkL {c : List Nat} {g : Nat} (hE : 1000 ≤ E.1) (hcl : c.length ≤ 400) (hb : ∀ x ∈ c, x < 256) (hg : g < 30) : ∀ (k f p : Nat) (σ : PS) (X : Nat → Nat → Int32) (T : List (Nat × Nat × Nat)), c.length ≤ p + k → k < f → p ≤ c.length → T.length ≤ p → MB E σ0 σ m Ma I X → CV c I X → (∀ j, j < T.length → X 14 (5400 * g + 3 * j) = tokV (T.getD j (0, 0, 0)) ∧ X 14 (5400 * g + 3 * j + 1) = nI (T.getD j (0, 0, 0)).2.1 ∧ X 14 (5400 * g + 3 * j + 2) = nI (T.getD j (0, 0, 0)).2.2) →
    wp (f_X6_makes_L9 E f (some m) (nI g) (nI T.length) (nI p) σ) (fun _ τ => ∃ X1, Xt g X X1 ∧ MB E σ0 τ m Ma I (up X1 13 (up (X1 13) g (nI (T ++ tokF c k p).length))) ∧ ∀ j, j < (T ++ tokF c k p).length → X1 14 (5400 * g + 3 * j) = tokV ((T ++ tokF c k p).getD j (0, 0, 0)) ∧ X1 14 (5400 * g + 3 * j + 1) = nI ((T ++ tokF c k p).getD j (0, 0, 0)).2.1 ∧ X1 14 (5400 * g + 3 * j + 2) = nI ((T ++ tokF c k p).getD j (0, 0, 0)).2.2)
  | k, f, p, σ, X, T, hk, hf, hp, hT, h, hc, ht => by
    obtain ⟨f, rfl⟩ : ∃ z, f = z + 1 := ⟨f - 1, by omega⟩
    rw [f_X6_makes_L9]
    refine wm_gi h ?_
    rw [hc.1]
    by_cases hend : c.length ≤ p
    · have e0 : tokF c k p = [] := by
        cases k with
        | zero => rfl
        | succ k => exact if_pos hend
      rw [e0, List.append_nil]
      refine wp_t (nI_le hend (by omega)) (wm_gr h (by decide) (wm_as h (j := g) (by decide) rfl (by show g < 30; omega) (fun τ h' => wp_ret ⟨X, ⟨fun _ _ => rfl, fun _ _ => rfl⟩, h', ht⟩)))
    · obtain ⟨k, rfl⟩ : ∃ z, k = z + 1 := ⟨k - 1, by omega⟩
      have hle := fc_le c p (min 60 (c.length - p)) p
      refine wp_f (nI_ge (by omega) (by omega)) ?_
      have q0 := sp_mQ (E := E) (g := g) (t := T.length) (p := p) (k9 := f_X6_makes_L9 E f) hE h hc (by omega) hb (by omega) (P := fun _ τ => ∃ X1, Xt g X X1 ∧ MB E σ0 τ m Ma I (up X1 13 (up (X1 13) g (nI (T ++ tokF c (k + 1) p).length))) ∧ ∀ j, j < (T ++ tokF c (k + 1) p).length → X1 14 (5400 * g + 3 * j) = tokV ((T ++ tokF c (k + 1) p).getD j (0, 0, 0)) ∧ X1 14 (5400 * g + 3 * j + 1) = nI ((T ++ tokF c (k + 1) p).getD j (0, 0, 0)).2.1 ∧ X1 14 (5400 * g + 3 * j + 2) = nI ((T ++ tokF c (k + 1) p).getD j (0, 0, 0)).2.2) (fun f2 => ?_) p E.1 0 (by omega) (by omega)
      · exact q0
      · -- the token is written
        have wr : ∀ (x : Nat × Nat × Nat) (p' : Nat), p' = p + x.2.2 → p' ≤ c.length → 1 ≤ x.2.2 → T ++ tokF c (k + 1) p = (T ++ [x]) ++ tokF c k p' → ∀ (s : PS), MB E σ0 s m Ma I (up (up (up X 14 (up (X 14) (5400 * g + 3 * T.length) (tokV x))) 14 (up (up X 14 (up (X 14) (5400 * g + 3 * T.length) (tokV x)) 14) (5400 * g + 3 * T.length + 1) (nI x.2.1))) 14 (up (up (up X 14 (up (X 14) (5400 * g + 3 * T.length) (tokV x))) 14 (up (up X 14 (up (X 14) (5400 * g + 3 * T.length) (tokV x)) 14) (5400 * g + 3 * T.length + 1) (nI x.2.1)) 14) (5400 * g + 3 * T.length + 2) (nI x.2.2))) → wp ((oGr 7 14 (some m) s).bind fun x15 => (oAl x15 ((5400 : Int32) * nI g + (3 : Int32) * nI T.length + 2) s).bind fun x16 => f_X6_makes_L9 E f (some m) (nI g) (nI T.length + 1) (nI p + x16) s) (fun _ τ => ∃ X1, Xt g X X1 ∧ MB E σ0 τ m Ma I (up X1 13 (up (X1 13) g (nI (T ++ tokF c (k + 1) p).length))) ∧ ∀ j, j < (T ++ tokF c (k + 1) p).length → X1 14 (5400 * g + 3 * j) = tokV ((T ++ tokF c (k + 1) p).getD j (0, 0, 0)) ∧ X1 14 (5400 * g + 3 * j + 1) = nI ((T ++ tokF c (k + 1) p).getD j (0, 0, 0)).2.1 ∧ X1 14 (5400 * g + 3 * j + 2) = nI ((T ++ tokF c (k + 1) p).getD j (0, 0, 0)).2.2) := by
          rintro x p' rfl hp' hx1 eT s hs
          rw [up_tri] at hs
          obtain ⟨Y, hY⟩ : ∃ Y, Y = up (up (up X 14 (up (X 14) (5400 * g + 3 * T.length) (tokV x))) 14 (up (up X 14 (up (X 14) (5400 * g + 3 * T.length) (tokV x)) 14) (5400 * g + 3 * T.length + 1) (nI x.2.1)) 14) (5400 * g + 3 * T.length + 2) (nI x.2.2) := ⟨_, rfl⟩
          rw [← hY] at hs
          have y2 : Y (5400 * g + 3 * T.length + 2) = nI x.2.2 := by rw [hY, up_s]
          have y1 : Y (5400 * g + 3 * T.length + 1) = nI x.2.1 := by rw [hY, up_n (by omega), up_s, up_s]
          have y0 : Y (5400 * g + 3 * T.length) = tokV x := by rw [hY, up_n (by omega), up_s, up_n (by omega), up_s, up_s]
          have yo : ∀ i, i ≠ 5400 * g + 3 * T.length → i ≠ 5400 * g + 3 * T.length + 1 → i ≠ 5400 * g + 3 * T.length + 2 → Y i = X 14 i := by
            intro i i0 i1 i2
            rw [hY, up_n i2, up_s, up_n i1, up_s, up_n i0]
          refine wm_gr hs (by decide) (wm_al hs (by decide) (by rw [tk0]; exact nI_add _ 2) (by show 5400 * g + 3 * T.length + 2 < 162000; omega) ?_)
          rw [up_s, y2, nI_add, nI_1]
          have hTl : (T ++ [x]).length = T.length + 1 := by rw [List.length_append]; rfl
          rw [← hTl, eT]
          refine wp_mono (sp_mkL hE hcl hb hg k f (p + x.2.2) s (up X 14 Y) (T ++ [x]) (by omega) (by omega) hp' (by omega) hs ⟨hc.1, fun i hi => by rw [up_n (by decide)]; exact hc.2 i hi⟩ (fun j hj => ?_)) ?_
          · rw [up_s]
            by_cases z : j = T.length
            · rw [z, y0, y1, y2, getD_app2 (Nat.le_refl _), Nat.sub_self]
              exact ⟨rfl, rfl, rfl⟩
            · have hj2 : j < T.length := by omega
              rw [yo _ (by omega) (by omega) (by omega), yo _ (by omega) (by omega) (by omega), yo _ (by omega) (by omega) (by omega), getD_app1 hj2]
              exact ht j hj2
          · rintro _ τ ⟨X1, u1, u2, u3⟩
            refine ⟨X1, ⟨fun k' hk' => ?_, fun i hi => ?_⟩, u2, u3⟩
            · rw [u1.1 k' hk', up_n hk']
            · rw [u1.2 i hi, up_s, yo _ (by omega) (by omega) (by omega)]
        rw [f_X6_makes_L28]
        unfold f_X6_makes_B137 f_X6_makes_B168
        refine wp_t (show nI 0 - 1 < 0 by decide) (wm_gr h (by decide) ?_)
        have i1 : (5400 : Int32) * nI g + (3 : Int32) * nI T.length + 1 = nI (5400 * g + 3 * T.length + 1) := by rw [tk0]; exact nI_add _ 1
        have i2 : (5400 : Int32) * nI g + (3 : Int32) * nI T.length + 2 = nI (5400 * g + 3 * T.length + 2) := by rw [tk0]; exact nI_add _ 2
        have b0 : 5400 * g + 3 * T.length < alM 14 := by show _ < 162000; omega
        have b1 : 5400 * g + 3 * T.length + 1 < alM 14 := by show _ < 162000; omega
        have b2 : 5400 * g + 3 * T.length + 2 < alM 14 := by show _ < 162000; omega
        by_cases h4 : (fc c p (min 60 (c.length - p)) p).2 < 4
        · have ef : encF (fc c p (min 60 (c.length - p)) p) = (0, 3) := if_pos h4
          rw [ef]
          have eT : tokF c (k + 1) p = (c.getD p 0, 0, 1) :: tokF c k (p + 1) := by
            show (if c.length ≤ p then _ else _) = _
            rw [if_neg hend, if_pos h4]
          refine wp_t (show nI 0 ≤ 0 from Int32.le_refl _) (wm_gr h (by decide) (wm_al h (by decide) rfl (by show p < 1800; omega) ?_))
          rw [hc.2 p (by omega)]
          refine wm_as h (by decide) (tk0 g T.length) b0 (fun s1 h1 => wm_gr h1 (by decide) (wm_as h1 (by decide) i1 b1 (fun s2 h2 => wm_gr h2 (by decide) (wp_t (show nI 0 ≤ 0 from Int32.le_refl _) (wm_as h2 (by decide) i2 b2 (fun s3 h3 => wr (c.getD p 0, 0, 1) (p + 1) rfl (by omega) (Nat.le_refl 1) (by rw [eT, List.append_assoc]; rfl) s3 h3))))))
        · have ef : encF (fc c p (min 60 (c.length - p)) p) = fc c p (min 60 (c.length - p)) p := if_neg h4
          rw [ef]
          have hpos := fc_pos c p (min 60 (c.length - p)) p (by omega)
          have eT : tokF c (k + 1) p = (0, (fc c p (min 60 (c.length - p)) p).1, (fc c p (min 60 (c.length - p)) p).2) :: tokF c k (p + (fc c p (min 60 (c.length - p)) p).2) := by
            show (if c.length ≤ p then _ else _) = _
            rw [if_neg hend, if_neg h4]
          have nb : ¬ nI (fc c p (min 60 (c.length - p)) p).1 ≤ 0 := nI_nle (by omega) (by omega)
          have tv : tokV (0, (fc c p (min 60 (c.length - p)) p).1, (fc c p (min 60 (c.length - p)) p).2) = -1 := if_neg (by show ¬ (fc c p (min 60 (c.length - p)) p).1 = 0; omega)
          refine wp_f nb (wm_as h (by decide) (tk0 g T.length) b0 (fun s1 h1 => wm_gr h1 (by decide) (wm_as h1 (by decide) i1 b1 (fun s2 h2 => wm_gr h2 (by decide) (wp_f nb (wm_as h2 (by decide) i2 b2 (fun s3 h3 => ?_)))))))
          refine wr (0, (fc c p (min 60 (c.length - p)) p).1, (fc c p (min 60 (c.length - p)) p).2) (p + (fc c p (min 60 (c.length - p)) p).2) rfl (by omega) (by show 1 ≤ (fc c p (min 60 (c.length - p)) p).2; omega) (by rw [eT, List.append_assoc]; rfl) s3 ?_
          rw [tv]
          exact h3
termination_by k f p σ X T => k
/-- what makes changes -/
def Xm (g : Nat) (I I' : Nat → Int32) (X X' : Nat → Nat → Int32) : Prop := (∀ k, k ≠ 22 → I' k = I k) ∧ (∀ k, k ≠ 13 → k ≠ 14 → k ≠ 21 → X' k = X k) ∧ (∀ i, i ≠ g → X' 13 i = X 13 i) ∧ ∀ i, (i < 5400 * g ∨ 5400 * g + 5400 ≤ i) → X' 14 i = X 14 i
theorem sp_makes {gs : List Grp} {g : Nat} (hE : 1000 ≤ E.1) (hO : Ok E σ0) (hA : AE n kd bs) (hl : (flat gs).length ≤ 30) (hgl : gs.length ≤ 30) (hb : ∀ e ∈ flat gs, e < n) (hg2 : g < gs.length) (hcl : (contG bs gs g).length ≤ 400) (hcb : ∀ x ∈ contG bs gs g, x < 256) (h : MB E σ0 σ m Ma I X) (hg : GV gs I X) (hv : EV n kd bs I X) :
    wp (f_X6_makes E (some m) (nI g) σ) (fun _ τ => ∃ I' X', MB E σ0 τ m Ma I' X' ∧ Xm g I I' X X' ∧ TV1 (toks (contG bs gs g)) X' g) := by
  refine wm_oM h hO (fun _ _ ⟨_, _, q, _⟩ => ⟨_, _, q⟩) ?_
  unfold g_X6_makes
  refine wm_K h (wp_bd (sp_gathers hE hO hA.1 (fun x hx => (hA.2 x hx).2.1) hl hgl hb hg2 h hg hv) ?_)
  rintro _ s ⟨I1, X1, h1, x1, cv⟩
  refine wp_mono (sp_mkL (g := g) hE hcl hcb (by omega) (contG bs gs g).length E.1 0 s X1 [] (by omega) (by omega) (Nat.zero_le _) (Nat.le_refl _) h1 cv (fun j hj => absurd hj (Nat.not_lt_zero _))) ?_
  rintro _ τ ⟨X2, x2, h2, t2⟩
  rw [List.nil_append] at h2 t2
  refine ⟨I1, _, h2, ⟨x1.1, fun k k1 k2 k3 => ?_, fun i hi => ?_, fun i hi => ?_⟩, ?_, fun j hj => ?_⟩
  · rw [up_n k1, x2.1 k k2, x1.2 k k3]
  · rw [up_s, up_n hi, x2.1 13 (by decide), x1.2 13 (by decide)]
  · rw [up_n (by decide), x2.2 i hi, x1.2 14 (by decide)]
  · rw [up_s, up_s]; rfl
  · rw [up_n (by decide)]
    exact t2 j hj
/-! the model opens -/
theorem sp_opB {c : List Nat} {g t p many : Nat} {v1 v2 : Int32} {x : Nat × Nat × Nat} {P : Int32 → PS → Prop} {K : Option Nat → Int32 → Int32 → Int32 → Int32 → Int32 → PS → Option (Int32 × PS)} (hcl : c.length ≤ 400) (hb : ∀ y ∈ c, y < 256) (hg : g < 30) (ht : t < 400) (hm : x.2.2 = many) (hpm : p + many ≤ c.length) (hx : ∀ k, k < many → (x.2.1 = 0 ∧ x.1 = c.getD (p + k) 0) ∨ (1 ≤ x.2.1 ∧ x.2.1 ≤ p ∧ c.getD (p + k - x.2.1) 0 = c.getD (p + k) 0)) : ∀ (r f k : Nat) (σ : PS) (X : Nat → Nat → Int32), many = k + r → r < f → MB E σ0 σ m Ma I X → X 14 (5400 * g + 3 * t) = tokV x → X 14 (5400 * g + 3 * t + 1) = nI x.2.1 → X 14 (5400 * g + 3 * t + 2) = nI x.2.2 → (∀ i, i < p + k → X 21 i = nI (c.getD i 0)) →
    (∀ τ X', MB E σ0 τ m Ma I X' → (∀ j, j ≠ 21 → X' j = X j) → (∀ i, i < p + many → X' 21 i = nI (c.getD i 0)) → wp (K (some m) v1 v2 (nI g) (nI (p + many)) (nI (t + 1)) τ) P) →
    wp (f_X6_open_L74 E K f (some m) v1 v2 (nI g) (nI (p + k)) (nI t) (nI (5400 * g + 3 * t)) (nI k) σ) P
  | 0, f, k, σ, X, hk, hf, h, t0, t1, t2, ha, kk => by
    obtain ⟨f, rfl⟩ : ∃ z, f = z + 1 := ⟨f - 1, by omega⟩
    have ek : k = many := by omega
    subst ek
    rw [f_X6_open_L74]
    have i2 : nI (5400 * g + 3 * t) + 2 = nI (5400 * g + 3 * t + 2) := nI_add _ 2
    refine wm_gr h (by decide) (wm_al h (by decide) i2 (by show 5400 * g + 3 * t + 2 < 162000; omega) ?_)
    rw [t2, hm, nI_1]
    exact wp_t (Int32.le_refl _) (kk σ X h (fun _ _ => rfl) ha)
  | r + 1, f, k, σ, X, hk, hf, h, t0, t1, t2, ha, kk => by
    obtain ⟨f, rfl⟩ : ∃ z, f = z + 1 := ⟨f - 1, by omega⟩
    have i1 : nI (5400 * g + 3 * t) + 1 = nI (5400 * g + 3 * t + 1) := nI_add _ 1
    have i2 : nI (5400 * g + 3 * t) + 2 = nI (5400 * g + 3 * t + 2) := nI_add _ 2
    have b0 : 5400 * g + 3 * t < alM 14 := by show _ < 162000; omega
    have b1 : 5400 * g + 3 * t + 1 < alM 14 := by show _ < 162000; omega
    have b2 : 5400 * g + 3 * t + 2 < alM 14 := by show _ < 162000; omega
    have bp : p + k < alM 21 := by show _ < 1800; omega
    have fin : ∀ (v : Int32) (s : PS), v = nI (c.getD (p + k) 0) → MB E σ0 s m Ma I (up X 21 (up (X 21) (p + k) v)) → wp (f_X6_open_L74 E K f (some m) v1 v2 (nI g) (nI (p + k) + 1) (nI t) (nI (5400 * g + 3 * t)) (nI k + 1) s) P := by
      rintro v s rfl hs
      have e1 : nI (p + k) + 1 = nI (p + (k + 1)) := nI_1 _
      rw [e1, nI_1]
      refine sp_opB hcl hb hg ht hm hpm hx r f (k + 1) s _ (by omega) (by omega) hs (by rw [up_n (by decide)]; exact t0) (by rw [up_n (by decide)]; exact t1) (by rw [up_n (by decide)]; exact t2) (fun i hi => ?_) (fun τ X' u1 u2 u3 => kk τ X' u1 (fun j hj => by rw [u2 j hj, up_n hj]) u3)
      rw [up_s]
      by_cases z : i = p + k
      · rw [z, up_s]
      · rw [up_n z]; exact ha i (by omega)
    rw [f_X6_open_L74]
    refine wm_gr h (by decide) (wm_al h (by decide) i2 b2 ?_)
    rw [t2, hm]
    refine wp_f (nI_ge (by omega) (by omega)) (wm_gr h (by decide) (wm_gr h (by decide) (wm_al h (by decide) rfl b0 ?_)))
    rw [t0]
    unfold f_X6_open_B131
    rcases hx k (by omega) with ⟨q1, q2⟩ | ⟨q1, q2, q3⟩
    · have ev : tokV x = nI x.1 := if_pos q1
      have hl := getD_lt hb (p + k)
      rw [ev]
      refine wp_f (nI_pos (by rw [q2]; omega)) (wm_gr h (by decide) (wm_al h (by decide) rfl b0 ?_))
      rw [t0, ev]
      exact wm_as h (by decide) rfl bp (fun s hs => fin _ s (by rw [q2]) hs)
    · have ev : tokV x = -1 := if_neg (by omega)
      rw [ev]
      refine wp_t (by decide) (wm_gr h (by decide) (wm_gr h (by decide) (wm_al h (by decide) i1 b1 ?_)))
      rw [t1]
      refine wm_al h (by decide) (pk_sub (show x.2.1 ≤ p + k by omega)) (by show p + k - x.2.1 < 1800; omega) ?_
      rw [ha _ (by omega)]
      exact wm_as h (by decide) rfl bp (fun s hs => fin _ s (by rw [q3]) hs)
theorem tok_head {c : List Nat} {k p : Nat} (hp : p < c.length) (hk : c.length ≤ p + (k + 1)) : ∃ x, tokF c (k + 1) p = x :: tokF c k (p + x.2.2) ∧ 1 ≤ x.2.2 ∧ p + x.2.2 ≤ c.length ∧ ∀ j, j < x.2.2 → (x.2.1 = 0 ∧ x.1 = c.getD (p + j) 0) ∨ (1 ≤ x.2.1 ∧ x.2.1 ≤ p ∧ c.getD (p + j - x.2.1) 0 = c.getD (p + j) 0) := by
  have hle := fc_le c p (min 60 (c.length - p)) p
  by_cases h4 : (fc c p (min 60 (c.length - p)) p).2 < 4
  · refine ⟨(c.getD p 0, 0, 1), ?_, Nat.le_refl 1, by show p + 1 ≤ c.length; omega, fun j hj => Or.inl ⟨rfl, ?_⟩⟩
    · show (if c.length ≤ p then _ else _) = _
      rw [if_neg (by omega), if_pos h4]
    · have hj : j < 1 := hj
      have : j = 0 := by omega
      rw [this]
      rfl
  · have hpos := fc_pos c p (min 60 (c.length - p)) p (by omega)
    refine ⟨(0, (fc c p (min 60 (c.length - p)) p).1, (fc c p (min 60 (c.length - p)) p).2), ?_, by show 1 ≤ (fc c p (min 60 (c.length - p)) p).2; omega, by show p + (fc c p (min 60 (c.length - p)) p).2 ≤ c.length; omega, fun j hj => Or.inr ⟨hpos.1, hle.2, ?_⟩⟩
    · show (if c.length ≤ p then _ else _) = _
      rw [if_neg (by omega), if_neg h4]
    · have hj : j < (fc c p (min 60 (c.length - p)) p).2 := hj
      rw [hpos.2] at hj
      have := same_eq c (p - (fc c p (min 60 (c.length - p)) p).1) p _ 0 j (Nat.zero_le _) hj
      show c.getD (p + j - (fc c p (min 60 (c.length - p)) p).1) 0 = _
      rw [← this]
      congr 1
      omega
theorem sp_opL {c : List Nat} {g e i : Nat} {R : Int32} (hE : 1000 ≤ E.1) (hcl : c.length ≤ 400) (hb : ∀ y ∈ c, y < 256) (hg : g < 30)
    (fin : ∀ (f : Nat) (σ : PS) (X' : Nat → Nat → Int32), MB E σ0 σ m Ma I X' → (∀ j, j ≠ 21 → X' j = X j) → (∀ i, i < c.length → X' 21 i = nI (c.getD i 0)) → wp (f_X6_open_L48 E (f + 1) (some m) (nI e) (nI i) (nI g) (nI c.length) (nI (toks c).length) σ) (fun r τ => r = R ∧ ∃ X', MB E σ0 τ m Ma I X' ∧ ∀ j, j ≠ 21 → X' j = X j)) : ∀ (k f p t : Nat) (σ : PS) (X' : Nat → Nat → Int32), c.length ≤ p + k → k < f → p ≤ c.length → (toks c).drop t = tokF c k p → t ≤ (toks c).length → MB E σ0 σ m Ma I X' → (∀ j, j ≠ 21 → X' j = X j) → TV1 (toks c) X' g → (∀ i, i < p → X' 21 i = nI (c.getD i 0)) →
    wp (f_X6_open_L48 E f (some m) (nI e) (nI i) (nI g) (nI p) (nI t) σ) (fun r τ => r = R ∧ ∃ X', MB E σ0 τ m Ma I X' ∧ ∀ j, j ≠ 21 → X' j = X j)
  | k, f, p, t, σ, X', hk, hf, hp, hd, htl, h, hx, tv, ha => by
    obtain ⟨f, rfl⟩ : ∃ z, f = z + 1 := ⟨f - 1, by omega⟩
    have htk := toks_len c
    by_cases hend : c.length ≤ p
    · have e0 : tokF c k p = [] := by
        cases k with
        | zero => rfl
        | succ k => exact if_pos hend
      rw [e0] at hd
      have ht : t = (toks c).length := by
        have := congrArg List.length hd
        rw [List.length_drop] at this
        have : (toks c).length - t = 0 := this
        omega
      have hpc : p = c.length := by omega
      subst hpc
      subst ht
      exact fin f σ X' h hx ha
    · obtain ⟨k, rfl⟩ : ∃ z, k = z + 1 := ⟨k - 1, by omega⟩
      obtain ⟨x, x1, x2, x3, x4⟩ := tok_head (k := k) (show p < c.length by omega) hk
      rw [x1] at hd
      have htl2 : t < (toks c).length := by
        have := congrArg List.length hd
        rw [List.length_drop, List.length_cons] at this
        omega
      have hdc := drop_cons (T := toks c) htl2 (0, 0, 0)
      rw [hd] at hdc
      have ex : (toks c).getD t (0, 0, 0) = x := (List.cons.inj hdc).1.symm
      have ed := (List.cons.inj hdc).2
      obtain ⟨t0, t1, t2⟩ := tv.2 t htl2
      rw [ex] at t0 t1 t2
      rw [f_X6_open_L48]
      refine wm_gr h (by decide) (wm_al h (by decide) rfl (by show g < 30; omega) ?_)
      rw [tv.1]
      refine wp_f (nI_ge htl2 (by omega)) ?_
      rw [tk0]
      refine sp_opB (c := c) (x := x) (p := p) (many := x.2.2) hcl hb hg (by omega) rfl x3 x4 x.2.2 E.1 0 σ X' (by omega) (by omega) h t0 t1 t2 (fun i hi => ha i (by omega)) (fun τ X2 u1 u2 u3 => ?_)
      refine sp_opL hE hcl hb hg fin k f (p + x.2.2) (t + 1) τ X2 (by omega) (by omega) x3 ed.symm (by omega) u1 (fun j hj => by rw [u2 j hj, hx j hj]) ?_ u3
      obtain ⟨v1, v2⟩ := tv
      exact ⟨by rw [u2 13 (by decide)]; exact v1, fun j hj => by rw [u2 14 (by decide)]; exact v2 j hj⟩
termination_by k f p t σ X' => k
theorem sp_open6 (hE : 1000 ≤ E.1) (hO : Ok E σ) (hA : AST (n, kd, bs, S)) (h : MB E σ σ m Ma I X) (hv : MV (n, kd, bs, S) I X) (v i : Int32) : wp (f_X6_open E (some m) v i σ) (ME E σ m Ma (aOpen v i (n, kd, bs, S), (n, kd, bs, S))) := by
  have hn : n ≤ 30 := hA.1.1
  refine wm_oM h hO (fun _ _ q => by obtain ⟨-, I', X', q, -⟩ := q; exact ⟨_, _, q⟩) ?_
  unfold g_X6_open f_X6_open_B24 aOpen
  refine wm_K h (wp_rd (sp_isEntry6 h hO hn hv.1.1 v) ?_)
  rcases in2 v (L := n) (by omega) with ⟨e1, e2⟩ | ⟨e1, e2, j, hj, rfl⟩
  · rw [if_pos e1, if_pos e1]; exact wp_t rfl (wp_ret (ME.rd h hv))
  · rw [if_neg e1, if_neg e1, cl_nI (show j < 2 ^ 31 by omega)]
    have ev : EV n kd bs I X := hv.1
    obtain ⟨y1, y2, y3⟩ := ev.2 j hj
    have hbl : (bs j).length ≤ 60 := (hA.1.2 j hj).2.1
    refine wp_f ne01 (wm_gr h (by decide) (wm_al h (by decide) rfl (by show j < 30; omega) ?_))
    rw [y2]
    refine wp_rd (sp_isIn hO i 0 _) ?_
    rw [if_iff (out_iff i (by omega))]
    show wp _ (ME E σ m Ma (if i < 0 ∨ nI (bs j).length ≤ i then _ else _, (n, kd, bs, S)))
    rcases in2 i (L := (bs j).length) (by omega) with ⟨d1, d2⟩ | ⟨d1, d2, k, hk, rfl⟩
    · rw [if_pos d1, if_pos d1]; exact wp_t rfl (wp_ret (ME.rd h hv))
    · rw [if_neg d1, if_neg d1, cl_nI (show k < 2 ^ 31 by omega)]
      refine wp_f ne01 (wm_gi h ?_)
      cases S with
      | none => rw [show I 4 = 0 from hv.2]; exact wp_t rfl (wp_ret (ME.rd h hv))
      | some s =>
        obtain ⟨-, a1, a2, a3, gv, tv⟩ := hv.s
        have hI : AI n kd bs s.2.1 s.1 s.2.2 := hA.2 s rfl
        obtain ⟨l1, l2, l3⟩ := hI.mb hn
        have hm := hI.tmem hj
        obtain ⟨x1, x2⟩ := gx_lt _ _ hm
        obtain ⟨c1, c2⟩ := hI.cg hA.1 x1
        have hgr : f_X6_group E (some m) (nI j) σ = some (nI (gx (s.2.1 j) s.2.2), σ) := by
          rw [sp_group6 hE hO hA h hv (nI j)]
          unfold aGroup
          rw [if_neg e1]
          show some (nI (gx (s.2.1 (cl (nI j))) s.2.2), σ) = _
          rw [cl_nI (by omega)]
        have hpl := place_le (bs := bs) x2
        rw [(hI.1 j hj).2.2.2] at hpl
        have hpl2 : placeN bs s.2.1 s.2.2 j + k < (contG bs s.2.2 (gx (s.2.1 j) s.2.2)).length := by
          unfold placeN contG
          omega
        rw [a1]
        refine wp_f ne01 (wm_K h (wp_rd hgr ?_))
        have htk := toks_len (contG bs s.2.2 (gx (s.2.1 j) s.2.2))
        refine wp_mono (sp_opL (X := X) (e := j) (i := k) (R := nI ((contG bs s.2.2 (gx (s.2.1 j) s.2.2)).getD (placeN bs s.2.1 s.2.2 j + k) 0)) hE c1 c2 (by omega) (fun f τ X' t1 t2 t3 => ?_) (contG bs s.2.2 (gx (s.2.1 j) s.2.2)).length E.1 0 0 σ X (by omega) (by omega) (Nat.zero_le _) (by rw [List.drop_zero]; rfl) (Nat.zero_le _) h (fun _ _ => rfl) (tv _ x1) (fun i hi => absurd hi (Nat.not_lt_zero _))) ?_
        · have tv' : TV1 (toks (contG bs s.2.2 (gx (s.2.1 j) s.2.2))) X' (gx (s.2.1 j) s.2.2) := by
            obtain ⟨v1, v2⟩ := tv _ x1
            exact ⟨by rw [t2 13 (by decide)]; exact v1, fun j hj => by rw [t2 14 (by decide)]; exact v2 j hj⟩
          rw [f_X6_open_L48]
          refine wm_gr t1 (by decide) (wm_al t1 (by decide) rfl (by show gx (s.2.1 j) s.2.2 < 30; omega) ?_)
          rw [tv'.1]
          refine wp_t (Int32.le_refl _) (wm_gr t1 (by decide) (wm_K t1 (wp_rd (sp_placeOf6 hE hO t1 (gv.ko rfl rfl (t2 7 (by decide)) (t2 8 (by decide)) (t2 11 (by decide)) (t2 12 (by decide))) (ev.ko rfl (t2 1 (by decide)) (t2 2 (by decide)) (t2 3 (by decide))) (fun e he => by rw [t2 6 (by decide)]; exact a3 e he) hn hI hj) ?_)))
          refine wm_al t1 (by decide) (nI_add _ _) (by show placeN bs s.2.1 s.2.2 j + k < 1800; omega) ?_
          rw [t3 _ hpl2]
          exact wp_ret ⟨rfl, X', t1, t2⟩
        · rintro r τ ⟨u1, X', u2, u3⟩
          exact ⟨u1, I, X', u2, hv.ko (fun _ _ => rfl) (fun k hk => u3 k (by omega))⟩
end MBS
