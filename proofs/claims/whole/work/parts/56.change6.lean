/-! an entry settles; a byte is changed -/
def encM : Option Nat → Int32
  | none => -2
  | some l => nI l
theorem contG_set {bs : Nat → List Nat} {gs : List Grp} {l g : Nat} {x : Grp} (h : g ≠ l) : contG bs (gs.set l x) g = contG bs gs g := by
  unfold contG
  rw [List.getD_eq_getElem?_getD, List.getElem?_set_ne (fun z => h z.symm), ← List.getD_eq_getElem?_getD]
theorem set_same {gs : List Grp} {l : Nat} {q : Grp} {M : List Nat} (h : gs[l]? = some q) (g : Nat) : ((gs.set l (q.1, M, q.2.2)).getD g dG).1 = (gs.getD g dG).1 ∧ ((gs.set l (q.1, M, q.2.2)).getD g dG).2.2 = (gs.getD g dG).2.2 := by
  by_cases z : l = g
  · subst z
    rw [getD_of (x := ((q.1, M, q.2.2) : Grp)) (by rw [List.getElem?_set, if_pos rfl, if_pos (lt_of h)]), getD_of h]
    exact ⟨rfl, rfl⟩
  · rw [List.getD_eq_getElem?_getD, List.getElem?_set_ne z, ← List.getD_eq_getElem?_getD]
    exact ⟨rfl, rfl⟩
theorem up_le {gs : List Grp} {l : Nat} (h : l < gs.length) : upTo gs l ≤ (flat gs).length := by
  unfold upTo
  have := congrArg List.length (split_at h).1
  rw [List.length_append] at this
  omega
section MBS
variable {E : PE} {σ0 σ : PS} {m : Nat} {Ma : Nat → Nat} {I : Nat → Int32} {X : Nat → Nat → Int32} {β : Type} {n : Nat} {kd : Nat → Nat} {bs bo : Nat → List Nat} {S : Option PK}
theorem sp_st5 {gs : List Grp} {e l : Nat} {P : Unit → PS → Prop} (hen : e < n) (hn : n ≤ 30) (hgl : gs.length ≤ 30) (hkd : ∀ q ∈ gs, q.1 < 1000) (hke : kd e < 6) (h : MB E σ0 σ m Ma I X) (hg : GV gs I X) (hv : EV n kd bs I X) (hO : Ok E σ0) (hE : 1000 ≤ E.1) (hl : (flat gs).length ≤ 30) (hb : ∀ e ∈ flat gs, e < n) (hlast : lastG (kd e) gs = some l)
    (kk : wp (if nI (contG bs gs l).length + nI (bs e).length ≤ I 5 then f_X6_settles_B257 E (some m) (nI e) (nI l) σ else f_X6_settles_L71 E E.1 (some m) (nI e) (nI (l + 1)) (nI gs.length) σ) P) : ∀ (c f k : Nat), gs.length = k + c → c < f → wp (f_X6_settles_L5 E f (some m) (nI e) (encM (lastI (fun i => (gs.getD i dG).1 = kd e) k)) (nI k) σ) P
  | 0, f, k, hc, hf => by
    obtain ⟨f, rfl⟩ : ∃ z, f = z + 1 := ⟨f - 1, by omega⟩
    have hk : k = gs.length := by omega
    subst hk
    have hl2 : l < gs.length := (lastI_some _ _ _ hlast).2.1
    have e1 : encM (lastI (fun i => (gs.getD i dG).1 = kd e) gs.length) = nI l := congrArg encM hlast
    rw [f_X6_settles_L5, e1]
    refine wm_gi h ?_
    rw [hg.2.1]
    refine wp_t (Int32.le_refl _) (wm_K h (wp_rd (sp_groupBytes hE hO h hg hv hn hl hb hgl hl2) (wm_gr h (by decide) (wm_al h (by decide) rfl (by show e < 30; omega) (wm_gi h ?_)))))
    rw [(hv.2 e hen).2.1]
    by_cases z : nI (contG bs gs l).length + nI (bs e).length ≤ I 5
    · rw [if_pos z] at kk
      exact wp_t z kk
    · rw [if_neg z] at kk
      refine wp_f z (wm_gi h ?_)
      rw [hg.2.1, nI_1]
      exact kk
  | c + 1, f, k, hc, hf => by
    obtain ⟨f, rfl⟩ : ∃ z, f = z + 1 := ⟨f - 1, by omega⟩
    have hk : k < gs.length := by omega
    have b4 := hg.2.2.2 k hk
    have hq := hkd _ (by rw [getD_at hk]; exact List.getElem_mem hk : gs.getD k dG ∈ gs)
    have ih := sp_st5 hen hn hgl hkd hke h hg hv hO hE hl hb hlast kk c f (k + 1) (by omega) (by omega)
    rw [f_X6_settles_L5]
    refine wm_gi h ?_
    rw [hg.2.1]
    refine wp_f (nI_ge hk (by omega)) (wm_gr h (by decide) (wm_al h (by decide) rfl (by show k < 30; omega) (wm_gr h (by decide) (wm_al h (by decide) rfl (by show e < 30; omega) ?_))))
    rw [b4.1, (hv.2 e hen).1]
    unfold f_X6_settles_B33
    rw [nI_1]
    by_cases z : (gs.getD k dG).1 = kd e
    · refine wp_t (congrArg nI z) ?_
      have e2 : lastI (fun i => (gs.getD i dG).1 = kd e) (k + 1) = some k := if_pos z
      rw [e2] at ih
      exact ih
    · refine wp_f (fun y => z ((nI_eq (by omega) (by omega)).mp y)) ?_
      have e2 : lastI (fun i => (gs.getD i dG).1 = kd e) (k + 1) = lastI (fun i => (gs.getD i dG).1 = kd e) k := if_neg z
      rw [e2] at ih
      exact ih
theorem sp_settles {gs : List Grp} {e bd : Nat} (hE : 10000 ≤ E.1) (hO : Ok E σ0) (hA : AE n kd bs) (h : MB E σ0 σ m Ma I X) (hg : GV gs I X) (hv : EV n kd bs I X) (hT : TV bs gs X) (h5 : I 5 = nI bd) (hbd : bd ≤ 400) (hen : e < n) (hef : e ∉ flat gs) (hnd : (flat gs).Nodup) (hb : ∀ x ∈ flat gs, x < n) (hne : ∀ q ∈ gs, q.2.1 ≠ []) (hkd : ∀ q ∈ gs, q.1 < 1000) (hc4 : ∀ g, g < gs.length → (contG bs gs g).length ≤ 400) (hex : ∃ q ∈ gs, q.1 = kd e) :
    wp (f_X6_settles E (some m) (nI e) σ) (fun _ τ => ∃ I' X', MB E σ0 τ m Ma I' X' ∧ (∀ k, k ≠ 9 → k ≠ 10 → I' k = I k) ∧ (∀ k, k < 7 ∨ 14 < k → X' k = X k) ∧ GV (putE bs bd (kd e) e gs).1 I' X' ∧ ∀ g, g < (putE bs bd (kd e) e gs).1.length → g ≠ (putE bs bd (kd e) e gs).2 → TV1 (toks (contG bs (putE bs bd (kd e) e gs).1 g)) X' g) := by
  have hn : n ≤ 30 := hA.1
  have hfl : (flat gs).length + 1 ≤ n := AI.free hnd hb hen hef
  have hgl : gs.length ≤ (flat gs).length := flat_len gs hne
  obtain ⟨l, hlast⟩ : ∃ l, lastG (kd e) gs = some l := by
    cases ho : lastG (kd e) gs with
    | some l => exact ⟨l, rfl⟩
    | none =>
      obtain ⟨q, q1, q2⟩ := hex
      obtain ⟨i, hi⟩ := List.getElem?_of_mem q1
      exact absurd (show (gs.getD i dG).1 = kd e by rw [getD_of hi]; exact q2) (lastI_none _ _ ho i (lt_of hi))
  have hl2 : l < gs.length := (lastI_some _ _ _ hlast).2.1
  obtain ⟨q, hq0⟩ := at_of hl2
  have eq : gs.getD l dG = q := getD_of hq0
  have hcl := hc4 l hl2
  have hbe := (hA.2 e hen).2.1
  have hke := (hA.2 e hen).1
  have hup := up_le hl2
  refine wm_oM h hO (fun _ _ ⟨_, _, q, _⟩ => ⟨_, _, q⟩) ?_
  unfold g_X6_settles
  refine sp_st5 (gs := gs) (l := l) hen hn (by omega) hkd hke h hg hv hO (by omega) (by omega) hb hlast ?_ gs.length E.1 0 (by omega) (by omega)
  rw [h5, nI_add]
  by_cases hf : (contG bs gs l).length + (bs e).length ≤ bd
  · have hp : putE bs bd (kd e) e gs = (gs.set l (q.1, q.2.1 ++ [e], q.2.2), l) := by
      unfold putE
      rw [hlast]
      show (if (contG bs gs l).length + (bs e).length ≤ bd then _ else _) = _
      rw [if_pos hf, eq]
    have hp1 : (putE bs bd (kd e) e gs).1 = gs.set l (q.1, q.2.1 ++ [e], q.2.2) := by rw [hp]
    have hp2 : (putE bs bd (kd e) e gs).2 = l := by rw [hp]
    rw [if_pos (nI_le hf (by omega)), hp1, hp2]
    obtain ⟨f1, f2⟩ := fit_flat (e := e) hq0
    refine wp_mono (sp_B257 (O := flat gs) (A := gatF 0 gs) (p := upTo gs l) (by omega) (by omega) (gatF_len _ _) hup h hg.1 hg.2.2.1 (fun k hk => ⟨by have := gat_lt hk; omega, (gat_side hl2 hk).1, (gat_side hl2 hk).2⟩) (by omega)) ?_
    rintro _ τ ⟨g7, g8, u1, u2⟩
    refine ⟨_, _, u1, fun k k1 k2 => up_n k1, fun k hk => by rw [up_n (by omega), up_n (by omega)], ⟨?_, ?_, fun k hk => ?_, fun g hg' => ?_⟩, fun g g1 g2 => ?_⟩
    · rw [up_s, f1, ins_len hup]
    · rw [up_n (by decide), List.length_set]; exact hg.2.1
    · rw [f1, ins_len hup] at hk
      rw [f1, f2, up_n (show (7 : Nat) ≠ 8 by decide), up_s, up_s]
      exact u2 k hk
    · rw [List.length_set] at hg'
      rw [(set_same hq0 g).1, (set_same hq0 g).2, up_n (show (11 : Nat) ≠ 8 by decide), up_n (show (11 : Nat) ≠ 7 by decide), up_n (show (12 : Nat) ≠ 8 by decide), up_n (show (12 : Nat) ≠ 7 by decide)]
      exact hg.2.2.2 g hg'
    · rw [List.length_set] at g1
      rw [contG_set g2]
      exact (hT g g1).ko (by rw [up_n (by decide), up_n (by decide)]) (fun i _ => by rw [up_n (by decide), up_n (by decide)])
  · have hp : putE bs bd (kd e) e gs = (ins gs (l + 1) (kd e, [e], 0), l + 1) := by
      unfold putE
      rw [hlast]
      show (if (contG bs gs l).length + (bs e).length ≤ bd then _ else _) = _
      rw [if_neg hf]
    have hp1 : (putE bs bd (kd e) e gs).1 = ins gs (l + 1) (kd e, [e], 0) := by rw [hp]
    have hp2 : (putE bs bd (kd e) e gs).2 = l + 1 := by rw [hp]
    rw [if_neg (nI_ge (show bd < (contG bs gs l).length + (bs e).length by omega) (by omega)), hp1, hp2]
    obtain ⟨f1, f2⟩ := new_flat (e := e) (kd := kd e) hl2
    refine sp_L71 (n := n) (kd := kd) (N := gs.length) (D := fun g => ((gs.getD g dG).1, (gs.getD g dG).2.2, toks (contG bs gs g))) hE hen hn (by omega) (by omega) hg.2.1 (fun g z => ?_) (gs.length - (l + 1)) E.1 gs.length σ X X (by omega) (by omega) (Nat.le_refl _) h (hv.2 e hen).1 (fun _ _ => rfl) (fun g z => ⟨(hg.2.2.2 g z).1, (hg.2.2.2 g z).2, hT g z⟩) (fun g z1 z2 => by omega) (fun τ X' t1 t2 t3 t4 t5 => ?_)
    · have h1 := toks_len (contG bs gs g)
      have h2 := hc4 g z
      show (toks (contG bs gs g)).length ≤ 400
      omega
    refine sp_L216 (A := gatF 0 gs) (by rw [gatF_len]; omega) (by rw [up_n (by decide), gatF_len]; exact hg.1) (fun x hx => by have := gatF_bd _ _ x hx; omega) (by omega) (gatF 0 gs).length E.1 0 τ X' (by omega) (by rw [gatF_len]; omega) t1 (fun j _ hj => ?_) (fun ρ g s1 s2 s3 => ?_)
    · rw [t2 8 (Or.inl (by decide))]
      exact (hg.2.2.1 j (by rw [gatF_len] at hj; exact hj)).2
    refine wp_mono (sp_B257 (O := flat gs) (A := (gatF 0 gs).map (fun x => if l + 1 ≤ x then x + 1 else x)) (p := upTo gs l) (by omega) (by omega) (by rw [List.length_map, gatF_len]) hup s1 (by rw [up_n (by decide)]; exact hg.1) (fun k hk => ⟨?_, ?_⟩) (fun k hk => ?_) (by omega)) ?_
    · rw [up_n (show (7 : Nat) ≠ 8 by decide), t2 7 (Or.inl (by decide))]
      exact (hg.2.2.1 k hk).1
    · rw [up_s]
      exact s3 k (Nat.zero_le _) (by rw [gatF_len]; exact hk)
    · have hk2 : k < (gatF 0 gs).length := by rw [gatF_len]; exact hk
      have e3 : ((gatF 0 gs).map (fun x => if l + 1 ≤ x then x + 1 else x)).getD k 0 = if l + 1 ≤ (gatF 0 gs).getD k 0 then (gatF 0 gs).getD k 0 + 1 else (gatF 0 gs).getD k 0 := by
        rw [List.getD_eq_getElem?_getD, List.getElem?_map, List.getElem?_eq_getElem hk2, getD_at hk2]
        rfl
      have g1 := gat_lt hk
      have s := gat_side hl2 hk
      rw [e3]
      refine ⟨by split <;> omega, fun z => ?_, fun z => ?_⟩
      · have := s.1 z
        rw [if_neg (by omega)]
        omega
      · have := s.2 z
        rw [if_pos (by omega)]
        omega
    · rintro _ ω ⟨g7, g8, u1, u2⟩
      have x11 : ∀ j, up (up (up X' 8 g) 7 g7) 8 g8 11 j = X' 11 j := fun j => by rw [up_n (by decide), up_n (by decide), up_n (by decide)]
      have x12 : ∀ j, up (up (up X' 8 g) 7 g7) 8 g8 12 j = X' 12 j := fun j => by rw [up_n (by decide), up_n (by decide), up_n (by decide)]
      have x13 : ∀ j, up (up (up X' 8 g) 7 g7) 8 g8 13 j = X' 13 j := fun j => by rw [up_n (by decide), up_n (by decide), up_n (by decide)]
      have x14 : ∀ j, up (up (up X' 8 g) 7 g7) 8 g8 14 j = X' 14 j := fun j => by rw [up_n (by decide), up_n (by decide), up_n (by decide)]
      refine ⟨_, _, u1, fun k k1 k2 => by rw [up_n k1, up_n k2], fun k hk => by rw [up_n (by omega), up_n (by omega), up_n (by omega), t2 k (by omega)], ⟨?_, ?_, fun k hk => ?_, fun g' hg' => ?_⟩, fun g' z1 z2 => ?_⟩
      · rw [up_s, f1, ins_len hup]
      · rw [up_n (by decide), up_s, ins_len (by omega)]
      · rw [f1, ins_len hup] at hk
        rw [f1, f2, up_n (show (7 : Nat) ≠ 8 by decide), up_s, up_s]
        exact u2 k hk
      · rw [ins_len (by omega)] at hg'
        rw [x11, x12, ins_getD (by omega)]
        by_cases c1 : g' < l + 1
        · rw [if_pos c1]
          obtain ⟨r1, r2, -⟩ := t3 g' c1
          exact ⟨r1, r2⟩
        · rw [if_neg c1]
          by_cases c2 : g' = l + 1
          · rw [if_pos c2, c2]; exact t5
          · rw [if_neg c2]
            obtain ⟨r1, r2, -⟩ := t4 g' (by omega) (by omega)
            exact ⟨r1, r2⟩
      · rw [ins_len (by omega)] at z1
        have ec : contG bs (ins gs (l + 1) (kd e, [e], 0)) g' = if g' < l + 1 then contG bs gs g' else contG bs gs (g' - 1) := by
          unfold contG
          rw [ins_getD (by omega)]
          by_cases c1 : g' < l + 1
          · rw [if_pos c1, if_pos c1]
          · rw [if_neg c1, if_neg c1, if_neg z2]
        rw [ec]
        by_cases c1 : g' < l + 1
        · rw [if_pos c1]
          obtain ⟨-, -, r3⟩ := t3 g' c1
          exact TV1.ko r3 (x13 _) (fun i _ => x14 _)
        · rw [if_neg c1]
          obtain ⟨-, -, r3⟩ := t4 g' (by omega) (by omega)
          exact TV1.ko r3 (x13 _) (fun i _ => x14 _)
/-! what an exchange leaves -/
theorem gatF_set_len : ∀ (gs : List Grp) (b h : Nat) (x : Grp), x.2.1.length = (gs.getD h dG).2.1.length → gatF b (gs.set h x) = gatF b gs
  | [], b, h, x, _ => rfl
  | q :: r, b, 0, x, e => by
    show List.replicate x.2.1.length b ++ gatF (b + 1) r = List.replicate q.2.1.length b ++ gatF (b + 1) r
    have e : x.2.1.length = q.2.1.length := e
    rw [e]
  | q :: r, b, h + 1, x, e => by
    show List.replicate q.2.1.length b ++ gatF (b + 1) (r.set h x) = List.replicate q.2.1.length b ++ gatF (b + 1) r
    rw [gatF_set_len r (b + 1) h x e]
theorem gatF_swap (e hr : Nat) (gs : List Grp) (b : Nat) : gatF b (swapG e hr gs) = gatF b gs := by
  rw [← swapG_set]
  exact gatF_set_len gs b _ _ List.length_set
theorem swap_same {e hr : Nat} {gs : List Grp} (he : e ∈ flat gs) (g : Nat) : ((swapG e hr gs).getD g dG).1 = (gs.getD g dG).1 ∧ ((swapG e hr gs).getD g dG).2.2 = (gs.getD g dG).2.2 := by
  obtain ⟨q, hq⟩ := at_of (gx_lt e gs he).1
  rw [← swapG_set, getD_of hq]
  exact set_same hq g
theorem contG_ne {e g : Nat} {gs : List Grp} (hb : ∀ i, i ≠ e → bs i = bo i) (hnd : (flat gs).Nodup) (h : g ≠ gx e gs) : contG bs gs g = contG bo gs g := by
  unfold contG
  refine cont_congr (fun i hi => hb i (fun z => ?_))
  rw [z] at hi
  by_cases w : g < gs.length
  · obtain ⟨q, hq⟩ := at_of w
    rw [getD_of hq] at hi
    exact h (gx_uniq e gs g q hnd hq hi).symm
  · rw [List.getD_eq_getElem?_getD, List.getElem?_eq_none (by omega)] at hi
    exact nomatch hi
theorem contG_swap {e hr g : Nat} {gs : List Grp} (hb : ∀ i, i ≠ e → bs i = bo i) (hnd : (flat gs).Nodup) (he : e ∈ flat gs) (h : bs hr = bo e) : contG bs (swapG e hr gs) g = contG bo gs g := by
  obtain ⟨w1, w2⟩ := gx_lt e gs he
  obtain ⟨q, hq⟩ := at_of w1
  have e1 : gs.getD (gx e gs) dG = q := getD_of hq
  rw [e1] at w2
  rw [← swapG_set, e1]
  by_cases z : g = gx e gs
  · rw [z]
    unfold contG
    rw [getD_of (x := ((q.1, q.2.1.set (ix e q.2.1) hr, q.2.2) : Grp)) (by rw [List.getElem?_set, if_pos rfl, if_pos w1]), e1]
    exact cont_swap (nd_sub hnd (List.mem_of_getElem? hq)) w2 h hb
  · rw [contG_set z]
    exact contG_ne hb hnd z
theorem anew_at {gs : List Grp} {h : Nat} (hh : h < gs.length) (g : Nat) : (anewG gs h).getD g dG = if g = h then ((gs.getD h dG).1, (gs.getD h dG).2.1, (gs.getD h dG).2.2 + 1) else gs.getD g dG := by
  unfold anewG
  by_cases z : g = h
  · rw [if_pos z, z, List.getD_eq_getElem?_getD, List.getElem?_set, if_pos rfl, if_pos hh]
    rfl
  · rw [if_neg z, List.getD_eq_getElem?_getD, List.getElem?_set_ne (fun w => z w.symm), ← List.getD_eq_getElem?_getD]
theorem EV.set {j i b : Nat} (h : EV n kd bs I X) (hbl : ∀ x, x < n → (bs x).length ≤ 60) (hj : j < n) (hi : i < (bs j).length) : EV n kd (up bs j ((bs j).set i b)) I (up X 3 (up (X 3) (60 * j + i) (nI b))) := by
  refine ⟨h.1, fun e he => ?_⟩
  obtain ⟨y1, y2, y3⟩ := h.2 e he
  refine ⟨by rw [up_n (by decide)]; exact y1, ?_, fun k hk => ?_⟩
  · rw [up_n (by decide), y2]
    by_cases z : e = j
    · rw [z, up_s, List.length_set]
    · rw [up_n z]
  · rw [up_s]
    by_cases z : e = j
    · subst z
      rw [up_s, List.length_set] at hk
      rw [up_s]
      by_cases w : k = i
      · subst w
        rw [up_s, List.getD_eq_getElem?_getD, List.getElem?_set, if_pos rfl, if_pos hk]
        rfl
      · rw [up_n (by omega), y3 k hk, List.getD_eq_getElem?_getD, List.getD_eq_getElem?_getD, List.getElem?_set_ne (by omega)]
    · rw [up_n z] at hk ⊢
      have h1 := hbl e he
      have h2 := hbl j hj
      rw [up_n (by omega)]
      exact y3 k hk
/-- the last step: its group is made anew -/
theorem sp_chEnd {gs : List Grp} {e bd : Nat} {tw : Nat → Nat} {was : Int32} (hE : 1000 ≤ E.1) (hO : Ok E σ0) (hA : AE n kd bs) (hI : AI n kd bs tw bd gs) (hef : e ∈ flat gs) (h : MB E σ0 σ m Ma I X) (hv : EV n kd bs I X) (h4 : I 4 = 1) (h5 : I 5 = nI bd) (h6 : ∀ j, j < n → X 6 j = nI (tw j)) (hg : GV gs I X) (hT : ∀ g, g < gs.length → g ≠ gx e gs → TV1 (toks (contG bs gs g)) X g) :
    wp (f_X6_change_B241 E (some m) (nI e) was σ) (ME E σ0 m Ma (was, (n, kd, bs, some (bd, tw, anewG gs (gx e gs))))) := by
  obtain ⟨l1, l2, l3⟩ := hI.mb hA.1
  have hix := (ix_mem _ _).mpr hef
  have hgx := (gx_lt e gs hef).1
  have hqm : gs.getD (gx e gs) dG ∈ gs := by rw [getD_at hgx]; exact List.getElem_mem hgx
  have hc4 : ∀ g, g < gs.length → (contG bs gs g).length ≤ 400 := fun g hg => (hI.2.2.2.1 _ (by rw [getD_at hg]; exact List.getElem_mem hg : gs.getD g dG ∈ gs)).2.2
  have hcb : ∀ x ∈ contG bs gs (gx e gs), x < 256 := cont_lt (n := n) (fun i hi => ((hI.2.2.1 i).mp (mem_flat.mpr ⟨_, hqm, hi⟩)).1) (fun e he => (hA.2 e he).2.2)
  unfold f_X6_change_B241
  refine wm_gr h (by decide) (wm_K h (wp_rd (sp_pio hE hO h hg l1 l3 hef) (wm_al h (by decide) rfl (by show ix _ _ < 30; omega) (wm_K h ?_))))
  rw [(hg.2.2.1 _ hix).2, gat_ix _ _ _ hef, Nat.zero_add]
  refine wp_bd (sp_makes hE hO hA l1 l2 (fun x hx => ((hI.2.2.1 x).mp hx).1) hgx (hc4 _ hgx) hcb h hg hv) ?_
  rintro _ s ⟨I', X', u1, ⟨v1, v2, v3, v4⟩, u3⟩
  refine wm_gr u1 (by decide) (wm_al u1 (by decide) rfl (by show gx e gs < 30; omega) (wm_as u1 (by decide) rfl (by show gx e gs < 30; omega) (fun s2 q => wp_ret ⟨rfl, _, _, q, ?_⟩)))
  have hf : flat (anewG gs (gx e gs)) = flat gs := flat_set_same gs _ _ _
  have ha : gatF 0 (anewG gs (gx e gs)) = gatF 0 gs := gatF_set_len gs 0 _ _ rfl
  have hl : (anewG gs (gx e gs)).length = gs.length := List.length_set
  have hc : ∀ g, contG bs (anewG gs (gx e gs)) g = contG bs gs g := fun g => by
    unfold contG
    rw [anew_at hgx]
    by_cases z : g = gx e gs
    · rw [if_pos z, z]
    · rw [if_neg z]
  refine ⟨hv.ko (v1 0 (by decide)) ?_ ?_ ?_, by rw [v1 4 (by decide)]; exact h4, by rw [v1 5 (by decide)]; exact h5, fun j hj => by rw [up_n (by decide), v2 6 (by decide) (by decide) (by decide)]; exact h6 j hj, ⟨?_, ?_, fun k hk => ?_, fun g hg' => ?_⟩, fun g hg' => ?_⟩
  · rw [up_n (by decide)]; exact v2 1 (by decide) (by decide) (by decide)
  · rw [up_n (by decide)]; exact v2 2 (by decide) (by decide) (by decide)
  · rw [up_n (by decide)]; exact v2 3 (by decide) (by decide) (by decide)
  · show I' 9 = nI (flat (anewG gs (gx e gs))).length
    rw [hf, v1 9 (by decide)]; exact hg.1
  · show I' 10 = nI (anewG gs (gx e gs)).length
    rw [hl, v1 10 (by decide)]; exact hg.2.1
  · have hk : k < (flat (anewG gs (gx e gs))).length := hk
    show up X' 12 _ 7 k = nI ((flat (anewG gs (gx e gs))).getD k 0) ∧ up X' 12 _ 8 k = nI ((gatF 0 (anewG gs (gx e gs))).getD k 0)
    rw [hf] at hk
    rw [hf, ha, up_n (show (7 : Nat) ≠ 12 by decide), up_n (show (8 : Nat) ≠ 12 by decide), v2 7 (by decide) (by decide) (by decide), v2 8 (by decide) (by decide) (by decide)]
    exact hg.2.2.1 k hk
  · have hg' : g < (anewG gs (gx e gs)).length := hg'
    show up X' 12 _ 11 g = nI ((anewG gs (gx e gs)).getD g dG).1 ∧ up X' 12 _ 12 g = nI ((anewG gs (gx e gs)).getD g dG).2.2
    rw [hl] at hg'
    rw [anew_at hgx, up_n (show (11 : Nat) ≠ 12 by decide), up_s, v2 11 (by decide) (by decide) (by decide), v2 12 (by decide) (by decide) (by decide)]
    by_cases z : g = gx e gs
    · rw [if_pos z, z, up_s, (hg.2.2.2 _ hgx).2, nI_1]
      exact ⟨(hg.2.2.2 _ hgx).1, rfl⟩
    · rw [if_neg z, up_n z]
      exact hg.2.2.2 g hg'
  · have hg' : g < (anewG gs (gx e gs)).length := hg'
    show TV1 (toks (contG bs (anewG gs (gx e gs)) g)) _ g
    rw [hl] at hg'
    rw [hc]
    by_cases z : g = gx e gs
    · rw [z]
      exact u3.ko (by rw [up_n (by decide)]) (fun i _ => by rw [up_n (by decide)])
    · have t1 := toks_len (contG bs gs g)
      have t2 := hc4 g hg'
      refine (hT g hg' z).ko (by rw [up_n (by decide)]; exact v3 g z) (fun i hi => ?_)
      rw [up_n (by decide)]
      exact v4 _ (by omega)
/-- with an entry that settles -/
theorem sp_chS {gs : List Grp} {e bd : Nat} {tw : Nat → Nat} {was : Int32} (hE : 10000 ≤ E.1) (hO : Ok E σ0) (hA : AE n kd bs) (hI : AI n kd bs tw bd (putE bs bd (kd e) e gs).1) (hen : e < n) (h : MB E σ0 σ m Ma I X) (hv : EV n kd bs I X) (h4 : I 4 = 1) (h5 : I 5 = nI bd) (h6 : ∀ j, j < n → X 6 j = nI (tw j)) (hg : GV gs I X) (hT : TV bs gs X) (hne : ∀ q ∈ gs, q.2.1 ≠ []) (hkd : ∀ q ∈ gs, q.1 < 1000) (hc4 : ∀ g, g < gs.length → (contG bs gs g).length ≤ 400) (hex : ∃ q ∈ gs, q.1 = kd e) :
    wp (f_X6_change_B236 E (some m) (nI e) was σ) (ME E σ0 m Ma (was, (n, kd, bs, some (bd, tw, anewG (putE bs bd (kd e) e gs).1 (putE bs bd (kd e) e gs).2)))) := by
  have hp := List.nodup_cons.mp ((putE_perm (bs := bs) (bd := bd) (kind := kd e) (e := e) (gs := gs)).nodup_iff.mp hI.2.1)
  have hb : ∀ x ∈ flat gs, x < n := fun x hx => ((hI.2.2.1 x).mp (putE_perm.mem_iff.mpr (List.mem_cons_of_mem _ hx))).1
  have hh := putE_home (bs := bs) (bd := bd) (kind := kd e) (e := e) (gs := gs)
  have hx : gx e (putE bs bd (kd e) e gs).1 = (putE bs bd (kd e) e gs).2 := by
    obtain ⟨q, hq⟩ := at_of hh.1
    exact gx_uniq e _ _ q hI.2.1 hq (by have := hh.2; rw [getD_of hq] at this; exact this)
  have hef : e ∈ flat (putE bs bd (kd e) e gs).1 := putE_perm.mem_iff.mpr (List.mem_cons_self ..)
  unfold f_X6_change_B236
  refine wm_K h (wp_bd (sp_settles hE hO hA h hg hv hT h5 hI.2.2.2.2 hen hp.1 hp.2 hb hne hkd hc4 hex) ?_)
  rintro _ s ⟨I', X', u1, u2, u3, u4, u5⟩
  rw [← hx] at u5 ⊢
  exact sp_chEnd (by omega) hO hA hI hef u1 (hv.ko (u2 0 (by decide) (by decide)) (u3 1 (by decide)) (u3 2 (by decide)) (u3 3 (by decide))) (by rw [u2 4 (by decide) (by decide)]; exact h4) (by rw [u2 5 (by decide) (by decide)]; exact h5) (fun j hj => by rw [u3 6 (by decide)]; exact h6 j hj) u4 u5
/-- the heir -/
theorem sp_hL {e : Nat} {tw : Nat → Nat} {was : Int32} {P : Int32 → PS → Prop} (hn : n ≤ 30) (hen : e < n) (h : MB E σ0 σ m Ma I X) (h6 : ∀ j, j < n → X 6 j = nI (tw j)) (htw : ∀ j, j < n → tw j < 1000)
    (kk : wp (f_X6_change_B142 E (some m) (nI e) was (encM (heirOf n tw e)) (if tw e = e then 0 else 1) σ) P) : ∀ (c f : Nat), c ≤ n → c < f → wp (f_X6_change_L90 E f (some m) (nI e) was (encM (firstF (fun j => j ≠ e ∧ tw j = e) (n - c) c)) (nI c - 1) σ) P
  | 0, f, hc, hf => by
    obtain ⟨f, rfl⟩ : ∃ z, f = z + 1 := ⟨f - 1, by omega⟩
    rw [f_X6_change_L90, Nat.sub_zero]
    refine wp_t (show nI 0 - 1 < 0 by decide) (wm_gr h (by decide) (wm_al h (by decide) rfl (by show e < 30; omega) ?_))
    rw [h6 e hen]
    by_cases z : tw e = e
    · rw [if_pos z] at kk
      exact wp_t (congrArg nI z) kk
    · rw [if_neg z] at kk
      exact wp_f (fun y => z ((nI_eq (by have := htw e hen; omega) (by omega)).mp y)) kk
  | c + 1, f, hc, hf => by
    obtain ⟨f, rfl⟩ : ∃ z, f = z + 1 := ⟨f - 1, by omega⟩
    have ih := sp_hL hn hen h h6 htw kk c f (by omega) (by omega)
    have ec : n - c = (n - (c + 1)) + 1 := by omega
    rw [ec] at ih
    rw [f_X6_change_L90, nI_pred]
    unfold f_X6_change_B117 f_X6_change_B119
    rw [pm1]
    refine wp_f (nI_pos (by omega)) ?_
    by_cases z : c = e
    · refine wp_t (congrArg nI z) ?_
      have e2 : firstF (fun j => j ≠ e ∧ tw j = e) (n - (c + 1) + 1) c = firstF (fun j => j ≠ e ∧ tw j = e) (n - (c + 1)) (c + 1) := if_neg (fun w => w.1 z)
      rw [e2] at ih
      exact ih
    · refine wp_f (fun y => z ((nI_eq (by omega) (by omega)).mp y)) (wm_gr h (by decide) (wm_al h (by decide) rfl (by show c < 30; omega) ?_))
      rw [h6 c (by omega)]
      by_cases w : tw c = e
      · refine wp_t (congrArg nI w) ?_
        have e2 : firstF (fun j => j ≠ e ∧ tw j = e) (n - (c + 1) + 1) c = some c := if_pos ⟨z, w⟩
        rw [e2] at ih
        exact ih
      · refine wp_f (fun y => w ((nI_eq (by have := htw c (by omega); omega) (by omega)).mp y)) ?_
        have e2 : firstF (fun j => j ≠ e ∧ tw j = e) (n - (c + 1) + 1) c = firstF (fun j => j ≠ e ∧ tw j = e) (n - (c + 1)) (c + 1) := if_neg (fun y => w y.2)
        rw [e2] at ih
        exact ih
theorem sp_tL {e hr : Nat} {tw : Nat → Nat} {was v6 : Int32} {P : Int32 → PS → Prop} (hn : n ≤ 30) (hen : e < n) (h0 : I 0 = nI n) (htw : ∀ j, j < n → tw j < 1000) : ∀ (c f k : Nat) (σ : PS) (X : Nat → Nat → Int32), n = k + c → c < f → MB E σ0 σ m Ma I X → (∀ j, j < k → X 6 j = nI (twH tw e hr j)) → (∀ j, k ≤ j → j < n → X 6 j = nI (tw j)) →
    (∀ τ g, MB E σ0 τ m Ma I (up X 6 g) → (∀ j, j < n → g j = nI (twH tw e hr j)) → wp (f_X6_change_B217 E (some m) (nI e) was (nI hr) v6 τ) P) → wp (f_X6_change_L166 E f (some m) (nI e) was (nI hr) v6 (nI k) σ) P
  | 0, f, k, σ, X, hc, hf, h, h1, h2, kk => by
    obtain ⟨f, rfl⟩ : ∃ z, f = z + 1 := ⟨f - 1, by omega⟩
    rw [f_X6_change_L166]
    refine wm_gi h ?_
    rw [h0]
    exact wp_t (nI_le (by omega) (by omega)) (kk σ (X 6) (by rw [up_id]; exact h) (fun j hj => h1 j (by omega)))
  | c + 1, f, k, σ, X, hc, hf, h, h1, h2, kk => by
    obtain ⟨f, rfl⟩ : ∃ z, f = z + 1 := ⟨f - 1, by omega⟩
    have hk : k < n := by omega
    rw [f_X6_change_L166]
    refine wm_gi h ?_
    rw [h0]
    refine wp_f (nI_ge (by omega) (by omega)) (wm_gr h (by decide) ?_)
    unfold f_X6_change_B203 f_X6_change_B210
    have go : ∀ v : Int32, v = nI (twH tw e hr k) → wp ((oAs (some (Ma 6)) (nI k) v σ).bind fun s47 => f_X6_change_L166 E f (some m) (nI e) was (nI hr) v6 (nI k + 1) s47) P := by
      rintro v rfl
      rw [nI_1]
      refine wm_as h (by decide) rfl (by show k < 30; omega) (fun s1 q1 => sp_tL hn hen h0 htw c f (k + 1) s1 _ (by omega) (by omega) q1 (fun j hj => ?_) (fun j j1 j2 => ?_) (fun τ g t1 t2 => kk τ g (by rw [up_up] at t1; exact t1) t2))
      · rw [up_s]
        by_cases z : j = k
        · rw [z, up_s]
        · rw [up_n z]; exact h1 j (by omega)
      · rw [up_s, up_n (by omega)]; exact h2 j (by omega) j2
    by_cases z : k = e
    · refine wp_t (congrArg nI z) (wm_gr h (by decide) (wm_al h (by decide) rfl (by show k < 30; omega) (go _ ?_)))
      rw [h2 k (Nat.le_refl _) hk]
      unfold twH
      rw [if_neg (fun w => w.1 z)]
    · refine wp_f (fun y => z ((nI_eq (by omega) (by omega)).mp y)) (wm_gr h (by decide) (wm_al h (by decide) rfl (by show k < 30; omega) ?_))
      rw [h2 k (Nat.le_refl _) hk]
      by_cases w : tw k = e
      · refine wp_t (congrArg nI w) (go _ ?_)
        unfold twH
        rw [if_pos ⟨z, w⟩]
      · refine wp_f (fun y => w ((nI_eq (by have := htw k hk; omega) (by omega)).mp y)) (wm_gr h (by decide) (wm_al h (by decide) rfl (by show k < 30; omega) (go _ ?_)))
        rw [h2 k (Nat.le_refl _) hk]
        unfold twH
        rw [if_neg (fun y => w y.2)]
theorem sp_chP {gs : List Grp} {tw : Nat → Nat} {bd e : Nat} {was : Int32} (hE : 10000 ≤ E.1) (hO : Ok E σ0) (hA : AE n kd bs) (hIo : AI n kd bo tw bd gs) (hen : e < n) (hlb : (bs e).length = (bo e).length) (hb : ∀ i, i ≠ e → bs i = bo i) (h : MB E σ0 σ m Ma I X) (hv : EV n kd bs I X) (h4 : I 4 = 1) (h5 : I 5 = nI bd) (h6 : ∀ j, j < n → X 6 j = nI (tw j)) (hg : GV gs I X) (hT : TV bo gs X) :
    wp (f_X6_change_L90 E E.1 (some m) (nI e) was (-2) (nI n - 1) σ) (ME E σ0 m Ma (was, (n, kd, bs, aChangeS n kd bs e (some (bd, tw, gs))))) := by
  have hn : n ≤ 30 := hA.1
  have hI' := chg_AI hIo hen hlb (hA.2 e hen).2.1 hb
  obtain ⟨l1, l2, l3⟩ := hIo.mb hn
  have hgi : GIs n gs := hIo.gis hn (fun e he => (hA.2 e he).1)
  obtain ⟨k1, k2, k3, k4, k5⟩ := id hIo
  have htw : ∀ j, j < n → tw j < 1000 := fun j hj => by have := (k1 j hj).1; omega
  have hc4o : ∀ g, g < gs.length → (contG bo gs g).length ≤ 400 := fun g hg => (k4 _ (by rw [getD_at hg]; exact List.getElem_mem hg : gs.getD g dG ∈ gs)).2.2
  have key : wp (f_X6_change_B142 E (some m) (nI e) was (encM (heirOf n tw e)) (if tw e = e then 0 else 1) σ) (ME E σ0 m Ma (was, (n, kd, bs, aChangeS n kd bs e (some (bd, tw, gs))))) := by
    by_cases z : tw e = e
    · rw [if_pos z]
      have hef : e ∈ flat gs := (k3 e).mpr ⟨hen, z⟩
      have hix := (ix_mem _ _).mpr hef
      cases ho : heirOf n tw e with
      | none =>
        have ec : chgG n kd bs bd tw gs e = (tw, gs, gx e gs) := by unfold chgG; rw [if_pos z, ho]
        have ea : aChangeS n kd bs e (some (bd, tw, gs)) = some (bd, tw, anewG gs (gx e gs)) := by
          show some (bd, (chgG n kd bs bd tw gs e).1, anewG (chgG n kd bs bd tw gs e).2.1 (chgG n kd bs bd tw gs e).2.2) = _
          rw [ec]
        rw [ec] at hI'
        rw [ea]
        unfold f_X6_change_B142 f_X6_change_B217
        refine wp_t rfl (wm_gr h (by decide) (wm_as h (by decide) rfl (by show e < 30; omega) (fun s1 q1 => wp_t rfl (wp_t rfl ?_))))
        have e6 : up X 6 (up (X 6) e (nI e)) = X := by
          have : nI e = X 6 e := by rw [h6 e hen, z]
          rw [this, up_id, up_id]
        rw [e6] at q1
        refine sp_chEnd (by omega) hO hA hI' hef q1 hv h4 h5 h6 hg (fun g g1 g2 => ?_)
        rw [contG_ne hb k2 g2]
        exact hT g g1
      | some hr =>
        obtain ⟨⟨b1, b2⟩, -, b3, -⟩ := firstF_some _ _ _ _ ho
        have b3 : hr < n := by omega
        have bsr : bs hr = bo e := by rw [hb hr b1, ← (k1 hr b3).2.2.2, b2]
        have ec : chgG n kd bs bd tw gs e = (twH tw e hr, (putE bs bd (kd e) e (swapG e hr gs)).1, (putE bs bd (kd e) e (swapG e hr gs)).2) := by unfold chgG; rw [if_pos z, ho]
        have ea : aChangeS n kd bs e (some (bd, tw, gs)) = some (bd, twH tw e hr, anewG (putE bs bd (kd e) e (swapG e hr gs)).1 (putE bs bd (kd e) e (swapG e hr gs)).2) := by
          show some (bd, (chgG n kd bs bd tw gs e).1, anewG (chgG n kd bs bd tw gs e).2.1 (chgG n kd bs bd tw gs e).2.2) = _
          rw [ec]
        rw [ec] at hI'
        rw [ea]
        have hne2 : ¬ nI hr = -2 := fun y => by
          have : ¬ nI hr < 0 := nI_pos (by omega)
          rw [y] at this
          exact this (by decide)
        have hcs : ∀ g, contG bs (swapG e hr gs) g = contG bo gs g := fun g => contG_swap hb k2 hef bsr
        unfold f_X6_change_B142
        refine wp_f hne2 (wm_gr h (by decide) (wm_K h (wp_rd (sp_pio (by omega) hO h hg l1 l3 hef) (wm_as h (by decide) rfl (by show ix _ _ < 30; omega) (fun s1 q1 => ?_)))))
        refine sp_tL (tw := tw) (hr := hr) hn hen hv.1 htw n E.1 0 s1 _ (by omega) (by omega) q1 (fun j hj => absurd hj (Nat.not_lt_zero _)) (fun j _ j2 => ?_) (fun τ g t1 t2 => ?_)
        · rw [up_n (by decide)]; exact h6 j j2
        unfold f_X6_change_B217
        refine wm_gr t1 (by decide) (wm_as t1 (by decide) rfl (by show e < 30; omega) (fun s2 q2 => wp_t rfl (wp_f hne2 ?_)))
        have te : twH tw e hr e = e := by unfold twH; rw [if_neg (fun w => w.1 rfl)]; exact z
        rw [up_s, up_up] at q2
        refine sp_chS hE hO hA hI' hen q2 (hv.ko rfl ?_ ?_ ?_) h4 h5 (fun j hj => ?_) ⟨?_, ?_, fun k hk => ?_, fun g' hg' => ?_⟩ (fun g' hg' => ?_) (swapG_ne (fun q hq => (k4 q hq).1)) (fun q hq => ((hgi.swap b3) q hq).1) (fun g' hg' => ?_) ?_
        · rw [up_n (by decide), up_n (by decide)]
        · rw [up_n (by decide), up_n (by decide)]
        · rw [up_n (by decide), up_n (by decide)]
        · rw [up_s]
          by_cases w : j = e
          · rw [w, up_s, te]
          · rw [up_n w]; exact t2 j hj
        · rw [flat_swap, List.length_set]; exact hg.1
        · rw [swapG_len]; exact hg.2.1
        · rw [flat_swap, List.length_set] at hk
          rw [flat_swap, gatF_swap, up_n (show (7 : Nat) ≠ 6 by decide), up_s, up_n (show (8 : Nat) ≠ 6 by decide), up_n (show (8 : Nat) ≠ 7 by decide)]
          refine ⟨?_, (hg.2.2.1 k hk).2⟩
          by_cases w : k = ix e (flat gs)
          · rw [w, up_s, List.getD_eq_getElem?_getD, List.getElem?_set, if_pos rfl, if_pos hix]
            rfl
          · rw [up_n w, List.getD_eq_getElem?_getD, List.getElem?_set_ne (fun y => w y.symm), ← List.getD_eq_getElem?_getD]
            exact (hg.2.2.1 k hk).1
        · rw [swapG_len] at hg'
          rw [(swap_same hef g').1, (swap_same hef g').2, up_n (show (11 : Nat) ≠ 6 by decide), up_n (show (11 : Nat) ≠ 7 by decide), up_n (show (12 : Nat) ≠ 6 by decide), up_n (show (12 : Nat) ≠ 7 by decide)]
          exact hg.2.2.2 g' hg'
        · rw [swapG_len] at hg'
          rw [hcs]
          exact (hT g' hg').ko (by rw [up_n (by decide), up_n (by decide)]) (fun i _ => by rw [up_n (by decide), up_n (by decide)])
        · rw [swapG_len] at hg'
          rw [hcs]
          exact hc4o g' hg'
        · obtain ⟨w1, w2⟩ := gx_lt e gs hef
          have w3 : gx e gs < (swapG e hr gs).length := by rw [swapG_len]; exact w1
          refine ⟨(swapG e hr gs).getD (gx e gs) dG, by rw [getD_at w3]; exact List.getElem_mem w3, ?_⟩
          rw [(swap_same hef _).1]
          exact ((k4 _ (by rw [getD_at w1]; exact List.getElem_mem w1 : gs.getD (gx e gs) dG ∈ gs)).2.1 e w2).symm
    · rw [if_neg z]
      have hne1 : ∀ j, j < n → tw j ≠ e := fun j hj w => z (by have := (k1 j hj).2.1; rw [w] at this; exact this)
      have hef : e ∉ flat gs := fun w => z ((k3 e).mp w).2
      have ho : heirOf n tw e = none := by
        cases ho : heirOf n tw e with
        | none => rfl
        | some hr =>
          obtain ⟨⟨b1, b2⟩, -, b3, -⟩ := firstF_some _ _ _ _ ho
          exact absurd b2 (hne1 hr (by omega))
      have ec : chgG n kd bs bd tw gs e = (up tw e e, (putE bs bd (kd e) e gs).1, (putE bs bd (kd e) e gs).2) := by unfold chgG; rw [if_neg z]
      have ea : aChangeS n kd bs e (some (bd, tw, gs)) = some (bd, up tw e e, anewG (putE bs bd (kd e) e gs).1 (putE bs bd (kd e) e gs).2) := by
        show some (bd, (chgG n kd bs bd tw gs e).1, anewG (chgG n kd bs bd tw gs e).2.1 (chgG n kd bs bd tw gs e).2.2) = _
        rw [ec]
      rw [ec] at hI'
      rw [ea, ho]
      have hcs : ∀ g, g < gs.length → contG bs gs g = contG bo gs g := fun g hg => contG_ne hb k2 (by rw [gx_ge e gs hef]; omega)
      unfold f_X6_change_B142 f_X6_change_B217
      refine wp_t rfl (wm_gr h (by decide) (wm_as h (by decide) rfl (by show e < 30; omega) (fun s1 q1 => wp_f ne01 ?_)))
      refine sp_chS hE hO hA hI' hen q1 (hv.ko rfl ?_ ?_ ?_) h4 h5 (fun j hj => ?_) (hg.ko rfl rfl ?_ ?_ ?_ ?_) (fun g' hg' => ?_) (fun q hq => (k4 q hq).1) (fun q hq => (hgi q hq).1) (fun g' hg' => ?_) ?_
      · rw [up_n (by decide)]
      · rw [up_n (by decide)]
      · rw [up_n (by decide)]
      · rw [up_s]
        by_cases w : j = e
        · rw [w, up_s, up_s]
        · rw [up_n w, up_n w]; exact h6 j hj
      · rw [up_n (by decide)]
      · rw [up_n (by decide)]
      · rw [up_n (by decide)]
      · rw [up_n (by decide)]
      · rw [hcs g' hg']
        exact (hT g' hg').ko (by rw [up_n (by decide)]) (fun i _ => by rw [up_n (by decide)])
      · rw [hcs g' hg']
        exact hc4o g' hg'
      · obtain ⟨a1, a2, a3, -⟩ := k1 e hen
        obtain ⟨q, q1', q2'⟩ := mem_flat.mp ((k3 (tw e)).mpr ⟨a1, a2⟩)
        exact ⟨q, q1', by rw [← (k4 q q1').2.1 _ q2', a3]⟩
  have st := sp_hL hn hen h h6 htw key n E.1 (Nat.le_refl _) (by omega)
  rw [Nat.sub_self] at st
  exact st
theorem aChange_at {i b : Int32} {j : Nat} (hj : j < n) (hn : n ≤ 30) : aChange (nI j) i b (n, kd, bs, S) = if i < 0 ∨ nI (bs j).length ≤ i then (-1, (n, kd, bs, S)) else if b < 0 ∨ ¬ b < 256 then (-1, (n, kd, bs, S)) else if (bs j).getD (cl i) 0 = cl b then (b, (n, kd, bs, S)) else (nI ((bs j).getD (cl i) 0), (n, kd, up bs j ((bs j).set (cl i) (cl b)), aChangeS n kd (up bs j ((bs j).set (cl i) (cl b))) j S)) := by
  have z : ¬ (nI j < 0 ∨ nI n ≤ nI j) := fun w => w.elim (nI_pos (by omega)) (nI_ge hj (by omega))
  have e := cl_nI (n := j) (by omega)
  unfold aChange
  rw [if_neg z, e]
theorem sp_change6 (hE : 10000 ≤ E.1) (hO : Ok E σ) (hA : AST (n, kd, bs, S)) (h : MB E σ σ m Ma I X) (hv : MV (n, kd, bs, S) I X) (v i b : Int32) : wp (f_X6_change E (some m) v i b σ) (ME E σ m Ma (aChange v i b (n, kd, bs, S))) := by
  have hn : n ≤ 30 := hA.1.1
  refine wm_oM h hO (fun _ _ q => by obtain ⟨-, I', X', q, -⟩ := q; exact ⟨_, _, q⟩) ?_
  unfold g_X6_change f_X6_change_B35 f_X6_change_B75
  refine wm_K h (wp_rd (sp_isEntry6 h hO hn hv.1.1 v) ?_)
  rcases in2 v (L := n) (by omega) with ⟨z, z2⟩ | ⟨z, z2, j, hj, rfl⟩
  · unfold aChange
    rw [if_pos z, if_pos z]; exact wp_t rfl (wp_ret (ME.rd h hv))
  · rw [if_neg z, aChange_at hj hn]
    have ev : EV n kd bs I X := hv.1
    obtain ⟨y1, y2, y3⟩ := ev.2 j hj
    have hbl := fun x (hx : x < n) => (hA.1.2 x hx).2.1
    have hbj : (bs j).length ≤ 60 := hbl j hj
    refine wp_f ne01 (wm_gr h (by decide) (wm_al h (by decide) rfl (by show j < 30; omega) ?_))
    rw [y2]
    refine wp_rd (sp_isIn hO i 0 _) ?_
    rw [if_iff (out_iff i (by omega))]
    rcases in2 i (L := (bs j).length) (by omega) with ⟨w1, w2⟩ | ⟨w1, w2, k, hk, rfl⟩
    · rw [if_pos w1, if_pos w1]; exact wp_t rfl (wp_ret (ME.rd h hv))
    · rw [if_neg w1, if_neg w1]
      refine wp_f ne01 (wp_rd (sp_isIn hO b 0 255) ?_)
      have hiff : (b < 0 ∨ (255 : Int32) < b) ↔ (b < 0 ∨ ¬ b < 256) := by
        have o1 := out_iff b (L := 256) (by decide)
        have e1 : (nI 256 - 1 : Int32) = 255 := by decide
        rw [e1] at o1
        rw [Int32.not_lt]
        exact o1
      rw [if_iff hiff]
      by_cases x : b < 0 ∨ ¬ b < 256
      · rw [if_pos x, if_pos x]; exact wp_t rfl (wp_ret (ME.rd h hv))
      · rw [if_neg x, if_neg x]
        obtain ⟨c, hc, rfl⟩ : ∃ c, c < 256 ∧ b = nI c := by
          obtain ⟨c, hc, rfl⟩ := nI_of (fun q => x (Or.inl q))
          have : nI c < nI 256 := Decidable.byContradiction (fun q => x (Or.inr q))
          exact ⟨c, (nI_ltI hc (by decide)).mp this, rfl⟩
        rw [cl_nI (show k < 2 ^ 31 by omega), cl_nI (show c < 2 ^ 31 by omega)]
        have hol := getD_lt (hA.1.2 j hj).2.2 k
        have hol : (bs j).getD k 0 < 256 := hol
        refine wp_f ne01 (wm_gr h (by decide) (wm_al h (by decide) (sx j k) (by show 60 * j + k < 1800; omega) (wm_gr h (by decide) (wm_as h (by decide) (sx j k) (by show 60 * j + k < 1800; omega) (fun s1 q1 => wm_gi q1 ?_)))))
        rw [y3 k hk]
        by_cases o : (bs j).getD k 0 = c
        · rw [if_pos o]
          have ex : up X 3 (up (X 3) (60 * j + k) (nI c)) = X := by rw [← o, ← y3 k hk, up_id, up_id]
          rw [ex] at q1
          by_cases p0 : I 4 = 0
          · exact wp_t p0 (wp_ret ⟨congrArg nI o, I, X, q1, hv⟩)
          · exact wp_f p0 (wp_t (congrArg nI o) (wp_ret ⟨congrArg nI o, I, X, q1, hv⟩))
        · rw [if_neg o]
          have ev2 := ev.set (b := c) hbl hj hk
          cases S with
          | none =>
            have h4 : I 4 = 0 := hv.2
            exact wp_t h4 (wp_ret ⟨rfl, I, _, q1, ev2, h4⟩)
          | some s =>
            obtain ⟨bd, tw, gs⟩ := s
            obtain ⟨a1, a2, a3, gv, tv⟩ := hv.2
            have hIo : AI n kd bs tw bd gs := hA.2 _ rfl
            rw [a1]
            refine wp_f ne01 (wp_f (fun y => o ((nI_eq (by omega) (by omega)).mp y)) (wm_gi q1 ?_))
            rw [ev.1]
            have hset : ((bs j).set k c).length = (bs j).length := List.length_set
            have hlt : ∀ x ∈ bs j, x < 256 := (hA.1.2 j hj).2.2
            refine sp_chP hE hO (AE.bytes hA.1 (by show ((bs j).set k c).length ≤ 60; omega) (set_lt hlt hc)) hIo hj (by rw [up_s]; exact hset) (fun i hi => up_n hi) q1 ev2 a1 a2 (fun x hx => ?_) (gv.ko rfl rfl ?_ ?_ ?_ ?_) (fun g hg => ?_)
            · rw [up_n (by decide)]; exact a3 x hx
            · rw [up_n (by decide)]
            · rw [up_n (by decide)]
            · rw [up_n (by decide)]
            · rw [up_n (by decide)]
            · exact (tv g hg).ko (by rw [up_n (by decide)]) (fun i _ => by rw [up_n (by decide)])
end MBS
