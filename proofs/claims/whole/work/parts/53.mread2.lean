theorem cont_one (mem : List Nat) : (cont (fun _ => [0]) mem).length = mem.length := by
  induction mem with
  | nil => rfl
  | cons a l ih =>
    rw [cont_cons, List.length_append, ih]
    show 1 + l.length = l.length + 1
    omega
section MBS
variable {E : PE} {σ0 σ : PS} {m : Nat} {Ma : Nat → Nat} {I : Nat → Int32} {X : Nat → Nat → Int32} {β : Type} {n : Nat} {kd : Nat → Nat} {bs : Nat → List Nat} {S : Option PK}
theorem sp_ofL {gs : List Grp} {g : Nat} {w : Int32} {R : Int32} (h : MB E σ0 σ m Ma I X) (hg : GV gs I X) (hl : (flat gs).length ≤ 30) (hgl : gs.length ≤ 30) (hg2 : g < 1000)
    (fin : ∀ f, f_X6_of_L31 E (f + 1) (some m) (nI g) w (nI (gsum (fun _ => [0]) g (flat gs) (gatF 0 gs))) (nI (flat gs).length) σ = some (R, σ)) : ∀ (c f k acc : Nat), (flat gs).length = k + c → c < f → acc + gsum (fun _ => [0]) g ((flat gs).drop k) ((gatF 0 gs).drop k) = gsum (fun _ => [0]) g (flat gs) (gatF 0 gs) → f_X6_of_L31 E f (some m) (nI g) w (nI acc) (nI k) σ = some (R, σ)
  | 0, f, k, acc, hc, hf, ha => by
    obtain ⟨f, rfl⟩ : ∃ z, f = z + 1 := ⟨f - 1, by omega⟩
    have hk : k = (flat gs).length := by omega
    subst hk
    rw [List.drop_eq_nil_of_le (Nat.le_refl _)] at ha
    have ha : acc + 0 = _ := ha
    rw [Nat.add_zero] at ha
    rw [ha]
    exact fin f
  | c + 1, f, k, acc, hc, hf, ha => by
    obtain ⟨f, rfl⟩ : ∃ z, f = z + 1 := ⟨f - 1, by omega⟩
    have hk : k < (flat gs).length := by omega
    have hk2 : k < (gatF 0 gs).length := by rw [gatF_len]; exact hk
    have hd := drop_cons (T := flat gs) hk 0
    have hd2 := drop_cons (T := gatF 0 gs) hk2 0
    have g1 := gat_lt hk
    obtain ⟨x1, x2⟩ := hg.2.2.1 k hk
    rw [hd, hd2] at ha
    have ha : acc + ((if (gatF 0 gs).getD k 0 = g then 1 else 0) + gsum (fun _ => [0]) g ((flat gs).drop (k + 1)) ((gatF 0 gs).drop (k + 1))) = _ := ha
    rw [f_X6_of_L31]
    refine em_gi h ?_
    rw [hg.1]
    refine e_f (nI_ge hk (by omega)) (em_gr h (by decide) (em_al h (by decide) rfl (by show k < 30; omega) ?_))
    rw [x2]
    unfold f_X6_of_B57
    by_cases z : (gatF 0 gs).getD k 0 = g
    · rw [if_pos z] at ha
      refine e_t (congrArg nI z) ?_
      have e0 : nI acc + (1 : Int32) = nI (acc + 1) := nI_add acc 1
      rw [e0, nI_1]
      exact sp_ofL h hg hl hgl hg2 fin c f (k + 1) _ (by omega) (by omega) (by omega)
    · rw [if_neg z] at ha
      refine e_f (fun y => z ((nI_eq (by omega) (by omega)).mp y)) ?_
      have e0 : nI acc + (0 : Int32) = nI acc := nI_add acc 0
      rw [e0, nI_1]
      exact sp_ofL h hg hl hgl hg2 fin c f (k + 1) _ (by omega) (by omega) (by omega)
theorem sp_of6 (hE : 2000 ≤ E.1) (hO : Ok E σ) (hA : AST (n, kd, bs, S)) (h : MB E σ σ m Ma I X) (hv : MV (n, kd, bs, S) I X) (v w : Int32) : f_X6_of E (some m) v w σ = some (aOf v w (n, kd, bs, S), σ) := by
  have hn : n ≤ 30 := hA.1.1
  refine oM_rd hO ?_
  unfold g_X6_of aOf
  refine em_gi h ?_
  cases S with
  | none => rw [show I 4 = 0 from hv.2]; exact e_t rfl rfl
  | some s =>
    obtain ⟨ev, a1, a2, a3, gv, tv⟩ := hv.s
    have hI : AI n kd bs s.2.1 s.1 s.2.2 := hA.2 s rfl
    obtain ⟨l1, l2, l3⟩ := hI.mb hn
    rw [a1]
    refine e_f ne01 (em_gi h ?_)
    rw [gv.2.1]
    refine bd_rd (sp_isIn hO v 0 _) ?_
    rw [if_iff (out_iff v (by omega))]
    show _ = some (if v < 0 ∨ nI s.2.2.length ≤ v then -1 else if w = 0 then nI (s.2.2.getD (cl v) dG).1 else if w = 1 then nI (s.2.2.getD (cl v) dG).2.1.length else if w = 2 then nI (contG bs s.2.2 (cl v)).length else if w = 3 then nI (toks (contG bs s.2.2 (cl v))).length else if w = 4 then nI (sizeT (toks (contG bs s.2.2 (cl v)))) else if w = 5 then nI (s.2.2.getD (cl v) dG).2.2 else -1, σ)
    rcases in2 v (L := s.2.2.length) (by omega) with ⟨e1, e2⟩ | ⟨e1, e2, g, hg, rfl⟩
    · rw [if_pos e1, if_pos e1, if_pos rfl]
    · rw [if_neg e1, if_neg e1, if_neg ne01, cl_nI (show g < 2 ^ 31 by omega)]
      obtain ⟨x1, x2⟩ := gv.2.2.2 g hg
      obtain ⟨t1, t2⟩ := tv g hg
      have hms : gsum (fun _ => [0]) g (flat s.2.2) (gatF 0 s.2.2) = (s.2.2.getD g dG).2.1.length := by
        rw [gsum_flat, if_pos ⟨Nat.zero_le _, by omega⟩, Nat.sub_zero]
        exact cont_one _
      refine sp_ofL (E := E) (g := g) (w := w) h gv l1 l2 (by omega) (fun f => ?_) (flat s.2.2).length E.1 0 0 (by omega) (by omega) (by rw [List.drop_zero, List.drop_zero, Nat.zero_add])
      rw [f_X6_of_L31, hms]
      refine em_gi h ?_
      rw [gv.1]
      refine e_t (Int32.le_refl _) ?_
      by_cases w0 : w = 0
      · rw [if_pos w0, if_pos w0]
        refine em_gr h (by decide) (em_al h (by decide) rfl (by show g < 30; omega) ?_)
        rw [x1]
      · rw [if_neg w0, if_neg w0]
        by_cases w1 : w = 1
        · rw [if_pos w1, if_pos w1]
        · rw [if_neg w1, if_neg w1]
          by_cases w2 : w = 2
          · rw [if_pos w2, if_pos w2]
            exact em_K h (bd_rd (sp_groupBytes (by omega) hO h gv ev hn l1 (fun x hx => ((hI.2.2.1 x).mp hx).1) l2 hg) rfl)
          · rw [if_neg w2, if_neg w2]
            by_cases w3 : w = 3
            · rw [if_pos w3, if_pos w3]
              refine em_gr h (by decide) (em_al h (by decide) rfl (by show g < 30; omega) ?_)
              rw [t1]
            · rw [if_neg w3, if_neg w3]
              by_cases w4 : w = 4
              · rw [if_pos w4, if_pos w4]
                exact em_K h (bd_rd (sp_sizeOf hE hO h tv hA.1 hI hg) rfl)
              · rw [if_neg w4, if_neg w4]
                by_cases w5 : w = 5
                · rw [if_pos w5, if_pos w5]
                  refine em_gr h (by decide) (em_al h (by decide) rfl (by show g < 30; omega) ?_)
                  rw [x2]
                · rw [if_neg w5, if_neg w5]
theorem sp_ctL {gs : List Grp} {tw : Nat → Nat} {bd : Nat} {w : Int32} (hE : 2000 ≤ E.1) (hO : Ok E σ0) (h : MB E σ0 σ m Ma I X) (hg : GV gs I X) (tv : TV bs gs X) (hA : AE n kd bs) (hI : AI n kd bs tw bd gs) : ∀ (c f g acc : Nat), gs.length = g + c → c < f → f_X6_count_L34 E f (some m) w (nI acc) (nI g) σ = some (if w = 1 then nI (flat gs).length else if w = 2 then nI gs.length else nI (acc + sumT bs (gs.drop g)), σ)
  | 0, f, g, acc, hc, hf => by
    obtain ⟨f, rfl⟩ : ∃ z, f = z + 1 := ⟨f - 1, by omega⟩
    obtain ⟨l1, l2, l3⟩ := hI.mb hA.1
    rw [f_X6_count_L34]
    unfold f_X6_count_B81
    refine em_gi h ?_
    rw [hg.2.1]
    refine e_t (nI_le (by omega) (by omega)) ?_
    by_cases w1 : w = 1
    · rw [if_pos w1, if_pos w1]
      refine em_gi h ?_
      rw [hg.1]
    · rw [if_neg w1, if_neg w1]
      by_cases w2 : w = 2
      · rw [if_pos w2, if_pos w2]
        refine em_gi h ?_
        rw [hg.2.1]
      · rw [if_neg w2, if_neg w2, List.drop_eq_nil_of_le (by omega)]
        rfl
  | c + 1, f, g, acc, hc, hf => by
    obtain ⟨f, rfl⟩ : ∃ z, f = z + 1 := ⟨f - 1, by omega⟩
    obtain ⟨l1, l2, l3⟩ := hI.mb hA.1
    have hgl : g < gs.length := by omega
    have hd := drop_cons (T := gs) hgl dG
    rw [f_X6_count_L34]
    refine em_gi h ?_
    rw [hg.2.1]
    refine e_f (nI_ge hgl (by omega)) (em_K h (bd_rd (sp_sizeOf hE hO h tv hA hI hgl) ?_))
    rw [nI_add, nI_1, sp_ctL hE hO h hg tv hA hI c f (g + 1) _ (by omega) (by omega), hd]
    have : sumT bs (gs.getD g dG :: gs.drop (g + 1)) = sizeT (toks (contG bs gs g)) + sumT bs (gs.drop (g + 1)) := by
      unfold sumT
      rw [List.map_cons, List.sum_cons]
      rfl
    rw [this, Nat.add_assoc]
theorem sp_count6 (hE : 2000 ≤ E.1) (hO : Ok E σ) (hA : AST (n, kd, bs, S)) (h : MB E σ σ m Ma I X) (hv : MV (n, kd, bs, S) I X) (w : Int32) : f_X6_count E (some m) w σ = some (aCount w (n, kd, bs, S), σ) := by
  have hn : n ≤ 30 := hA.1.1
  refine oM_rd hO ?_
  unfold g_X6_count aCount
  refine bd_rd (sp_isIn hO w 0 3) ?_
  have hiff : (w < 0 ∨ (3 : Int32) < w) ↔ (w < 0 ∨ ¬ w ≤ 3) := by rw [Int32.not_le]
  rw [if_iff hiff]
  by_cases z : w < 0 ∨ ¬ w ≤ 3
  · rw [if_pos z, if_pos z, if_pos rfl]
  · rw [if_neg z, if_neg z, if_neg ne01]
    by_cases w0 : w = 0
    · rw [if_pos w0, if_pos w0]
      refine em_gi h ?_
      rw [hv.1.1]
    · rw [if_neg w0, if_neg w0]
      refine em_gi h ?_
      cases S with
      | none => rw [show I 4 = 0 from hv.2]; exact e_t rfl rfl
      | some s =>
        obtain ⟨ev, a1, a2, a3, gv, tv⟩ := hv.s
        have hI : AI n kd bs s.2.1 s.1 s.2.2 := hA.2 s rfl
        obtain ⟨l1, l2, l3⟩ := hI.mb hn
        rw [a1]
        refine e_f ne01 ?_
        have run := sp_ctL (E := E) (w := w) hE hO h gv tv hA.1 hI s.2.2.length E.1 0 0 (by omega) (by omega)
        rw [List.drop_zero, Nat.zero_add] at run
        refine Eq.trans run ?_
        show _ = some (if w = 2 then nI s.2.2.length else if w = 1 then nI (flat s.2.2).length else nI (sumT bs s.2.2), σ)
        by_cases w1 : w = 1
        · rw [if_pos w1, if_neg (show ¬ w = 2 by rw [w1]; decide), if_pos w1]
        · rw [if_neg w1, if_neg w1]
/-- the sum of a kind, one by one -/
theorem sp_smL {gs : List Grp} {kind : Nat} (hE : 1000 ≤ E.1) (hO : Ok E σ0) (hA : AE n kd bs) (hl : (flat gs).length ≤ 30) (hb : ∀ e ∈ flat gs, e < n) (hk : kind < 1000) : ∀ (c f k acc : Nat) (l : Option Nat) (σ : PS) (X : Nat → Nat → Int32), (flat gs).length = k + c → c < f → (∀ a, l = some a → a < n) → MB E σ0 σ m Ma I X → GV gs I X → EV n kd bs I X →
    wp (f_X6_sum_L29 E f (some m) (nI kind) (nI acc) (match l with | none => -2 | some a => nI a) (nI k) σ) (fun r τ => r = nI (acc + adjS (fun a b => distN (bs a) (bs b)) (l.toList ++ ((flat gs).drop k).filter (fun e => kd e = kind))) ∧ ∃ g1 g2, MB E σ0 τ m Ma I (up (up X 15 g1) 16 g2))
  | 0, f, k, acc, l, σ, X, hc, hf, hla, h, hg, hv => by
    obtain ⟨f, rfl⟩ : ∃ z, f = z + 1 := ⟨f - 1, by omega⟩
    rw [f_X6_sum_L29]
    refine wm_gi h ?_
    rw [hg.1]
    refine wp_t (nI_le (by omega) (by omega)) (wp_ret ⟨?_, X 15, X 16, ?_⟩)
    · rw [List.drop_eq_nil_of_le (by omega)]
      cases l with
      | none => rfl
      | some a => rfl
    · rw [up_id, up_id]; exact h
  | c + 1, f, k, acc, l, σ, X, hc, hf, hla, h, hg, hv => by
    obtain ⟨f, rfl⟩ : ∃ z, f = z + 1 := ⟨f - 1, by omega⟩
    have hn := hA.1
    have hkl : k < (flat gs).length := by omega
    have hd := drop_cons (T := flat gs) hkl 0
    have hen : (flat gs).getD k 0 < n := hb _ (by rw [getD_at hkl]; exact List.getElem_mem hkl)
    obtain ⟨x1, x2⟩ := hg.2.2.1 k hkl
    obtain ⟨y1, -, -⟩ := hv.2 _ hen
    have hkd := (hA.2 _ hen).1
    rw [f_X6_sum_L29]
    refine wm_gi h ?_
    rw [hg.1]
    refine wp_f (nI_ge hkl (by omega)) (wm_gr h (by decide) (wm_gr h (by decide) (wm_al h (by decide) rfl (by show k < 30; omega) ?_)))
    rw [x1]
    refine wm_al h (by decide) rfl (by show (flat gs).getD k 0 < 30; omega) ?_
    rw [y1, hd]
    unfold f_X6_sum_B77 f_X6_sum_B87
    by_cases z : kd ((flat gs).getD k 0) = kind
    · rw [List.filter_cons_of_pos (by exact decide_eq_true z)]
      refine wp_t (congrArg nI z) ?_
      cases l with
      | none =>
        refine wp_t rfl (wm_gr h (by decide) (wm_al h (by decide) rfl (by show k < 30; omega) ?_))
        rw [x1, nI_1]
        have e0 : nI acc + (0 : Int32) = nI acc := nI_add acc 0
        rw [e0]
        refine wp_mono (sp_smL hE hO hA hl hb hk c f (k + 1) acc (some ((flat gs).getD k 0)) σ X (by omega) (by omega) (fun a ha => by cases ha; exact hen) h hg hv) ?_
        rintro r τ ⟨u1, u2⟩
        exact ⟨u1, u2⟩
      | some a =>
        have han := hla a rfl
        refine wp_f (show ¬ nI a = -2 from fun y => ?_) (wm_gr h (by decide) (wm_al h (by decide) rfl (by show k < 30; omega) (wm_K h ?_)))
        · have : nI a < 0 := by rw [y]; decide
          exact nI_pos (by omega) this
        rw [x1]
        refine wp_bd (sp_distanceOf hE hO hA han hen h hv) ?_
        rintro r s ⟨g1, g2, rfl, h2⟩
        refine wm_gr h2 (by decide) (wm_al h2 (by decide) rfl (by show k < 30; omega) ?_)
        rw [sc_n (by omega), x1, nI_add, nI_1]
        refine wp_mono (sp_smL hE hO hA hl hb hk c f (k + 1) _ (some ((flat gs).getD k 0)) s _ (by omega) (by omega) (fun a ha => by cases ha; exact hen) h2 ?_ (hv.ko rfl (sc_n (by omega)) (sc_n (by omega)) (sc_n (by omega)))) ?_
        · obtain ⟨b1, b2, b3, b4⟩ := hg
          exact ⟨b1, b2, fun k hk => by rw [sc_n (by omega), sc_n (by omega)]; exact b3 k hk, fun g hg => by rw [sc_n (by omega), sc_n (by omega)]; exact b4 g hg⟩
        · rintro r τ ⟨u1, g3, g4, u2⟩
          refine ⟨?_, g3, g4, ?_⟩
          · rw [u1]
            show nI (acc + distN (bs a) (bs ((flat gs).getD k 0)) + adjS _ ((flat gs).getD k 0 :: _)) = nI (acc + adjS _ (a :: (flat gs).getD k 0 :: _))
            have e4 : ∀ L, adjS (fun a b => distN (bs a) (bs b)) (a :: (flat gs).getD k 0 :: L) = distN (bs a) (bs ((flat gs).getD k 0)) + adjS (fun a b => distN (bs a) (bs b)) ((flat gs).getD k 0 :: L) := fun L => rfl
            rw [e4, Nat.add_assoc]
            rfl
          · have : up (up (up (up X 15 g1) 16 g2) 15 g3) 16 g4 = up (up X 15 g3) 16 g4 := by
              funext j
              by_cases j16 : j = 16
              · rw [j16, up_s, up_s]
              · rw [up_n j16, up_n j16]
                by_cases j15 : j = 15
                · rw [j15, up_s, up_s]
                · rw [up_n j15, up_n j15, up_n j16, up_n j15]
            rw [this] at u2
            exact u2
    · rw [List.filter_cons_of_neg (by simpa using z)]
      refine wp_f (fun y => z ((nI_eq (by omega) (by omega)).mp y)) ?_
      rw [nI_1]
      exact sp_smL hE hO hA hl hb hk c f (k + 1) acc l σ X (by omega) (by omega) hla h hg hv
theorem sp_sum6 (hE : 1000 ≤ E.1) (hO : Ok E σ) (hA : AST (n, kd, bs, S)) (h : MB E σ σ m Ma I X) (hv : MV (n, kd, bs, S) I X) (v : Int32) : wp (f_X6_sum E (some m) v σ) (ME E σ m Ma (aSum v (n, kd, bs, S), (n, kd, bs, S))) := by
  have hn : n ≤ 30 := hA.1.1
  refine wm_oM h hO (fun _ _ q => by obtain ⟨-, I', X', q, -⟩ := q; exact ⟨_, _, q⟩) ?_
  unfold g_X6_sum aSum
  refine wp_rd (sp_isIn hO v 0 5) ?_
  have hiff : (v < 0 ∨ (5 : Int32) < v) ↔ (v < 0 ∨ (6 : Int32) ≤ v) := out_iff v (L := 6) (by decide)
  rw [if_iff hiff]
  rcases in2 v (L := 6) (by decide) with ⟨z, z2⟩ | ⟨z, z2, k, k1', rfl⟩
  · have z : v < 0 ∨ (6 : Int32) ≤ v := z
    rw [if_pos z, if_pos z]
    exact wp_t rfl (wp_ret (ME.rd h hv))
  · have z : ¬ (nI k < 0 ∨ (6 : Int32) ≤ nI k) := z
    rw [if_neg z, if_neg z]
    refine wp_f ne01 (wm_gi h ?_)
    cases S with
    | none =>
      rw [show I 4 = 0 from hv.2]
      exact wp_t rfl (wp_ret (ME.rd h hv))
    | some s =>
      obtain ⟨ev, a1, a2, a3, gv, tv⟩ := hv.s
      have hI : AI n kd bs s.2.1 s.1 s.2.2 := hA.2 s rfl
      obtain ⟨l1, l2, l3⟩ := hI.mb hn
      rw [a1]
      refine wp_f ne01 (wp_mono (sp_smL (kind := k) (gs := s.2.2) hE hO hA.1 l1 (fun x hx => ((hI.2.2.1 x).mp hx).1) (by omega) (flat s.2.2).length E.1 0 0 none σ X (by omega) (by omega) (fun a ha => nomatch ha) h gv ev) ?_)
      rintro r τ ⟨u1, g1, g2, u2⟩
      refine ⟨?_, _, _, u2, hv.ko (fun _ _ => rfl) (fun k hk => sc_n hk)⟩
      rw [u1, List.drop_zero, Nat.zero_add]
      show nI (adjS _ ([] ++ _)) = nI (adjS (fun a b => distN (bs a) (bs b)) ((flat s.2.2).filter (fun e => kd e = cl (nI k))))
      rw [List.nil_append, cl_nI (by omega)]
theorem sp_entry6 (hO : Ok E σ) (hA : AST (n, kd, bs, S)) (h : MB E σ σ m Ma I X) (hv : MV (n, kd, bs, S) I X) (v : Int32) : wp (f_X6_entry E (some m) v σ) (ME E σ m Ma (aEntry v (n, kd, bs, S))) := by
  have hn : n ≤ 30 := hA.1.1
  refine wm_oM h hO (fun _ _ q => by obtain ⟨-, I', X', q, -⟩ := q; exact ⟨_, _, q⟩) ?_
  unfold g_X6_entry aEntry
  refine wp_rd (sp_isIn hO v 0 5) ?_
  have hiff : (v < 0 ∨ (5 : Int32) < v) ↔ (v < 0 ∨ (6 : Int32) ≤ v) := out_iff v (L := 6) (by decide)
  rw [if_iff hiff]
  rcases in2 v (L := 6) (by decide) with ⟨z, z2⟩ | ⟨z, z2, k, k1', rfl⟩
  · have z : v < 0 ∨ (6 : Int32) ≤ v := z
    rw [if_pos z, if_pos z]
    exact wp_t rfl (wp_ret (ME.rd h hv))
  · have z : ¬ (nI k < 0 ∨ (6 : Int32) ≤ nI k) := z
    rw [if_neg z, if_neg z]
    have ev : EV n kd bs I X := hv.1
    refine wp_f ne01 (wm_gi h ?_)
    rw [ev.1]
    by_cases y : n < 30
    · rw [if_pos (show (n, kd, bs, S).1 < 30 from y)]
      refine wp_f (fun q => by have := (nI_eq (b := 30) (by omega) (by omega)).mp q; omega) (wm_gr h (by decide) (wm_gi h (wm_as h (j := n) (by decide) ev.1 (by show n < 30; omega) (fun s1 h1 => ?_))))
      refine wm_gr h1 (by decide) (wm_gi h1 (wm_as h1 (j := n) (by decide) ev.1 (by show n < 30; omega) (fun s2 h2 => ?_)))
      refine wm_gi h2 (wm_pi h2 (fun s3 h3 => wm_pi h3 (fun s4 h4 => wm_gi h4 (wp_ret ?_))))
      rw [ev.1, nI_1] at h4 ⊢
      refine ⟨?_, _, _, h4, ⟨?_, fun e he => ?_⟩, ?_⟩
      · show up (up I 0 (nI (n + 1))) 4 0 0 - 1 = nI n
        rw [up_n (by decide), up_s, nI_pred]
      · show up (up I 0 (nI (n + 1))) 4 0 0 = nI (n + 1)
        rw [up_n (by decide), up_s]
      · have he : e < n + 1 := he
        show up (up X 1 _) 2 _ 1 e = nI (up kd n (cl (nI k)) e) ∧ up (up X 1 _) 2 _ 2 e = nI (up bs n [] e).length ∧ ∀ i, i < (up bs n [] e).length → up (up X 1 _) 2 _ 3 (60 * e + i) = nI ((up bs n [] e).getD i 0)
        rw [up_n (show (1 : Nat) ≠ 2 by decide), up_s, up_s, up_n (show (2 : Nat) ≠ 1 by decide), up_n (show (3 : Nat) ≠ 2 by decide), up_n (show (3 : Nat) ≠ 1 by decide), cl_nI (by omega)]
        by_cases q : e = n
        · rw [q, up_s, up_s, up_s, up_s]
          exact ⟨rfl, rfl, fun i hi => absurd hi (Nat.not_lt_zero _)⟩
        · rw [up_n q, up_n q, up_n q, up_n q]
          exact ev.2 e (by omega)
      · exact up_s
    · rw [if_neg (show ¬ (n, kd, bs, S).1 < 30 from y)]
      have : n = 30 := by omega
      subst this
      exact wp_t rfl (wp_ret (ME.rd h hv))
theorem sp_ocL {e N : Nat} {v : Int64} (hA : n ≤ 30) (he : e < n) (hN : N ≤ 8) : ∀ (c f k : Nat) (σ : PS) (X : Nat → Nat → Int32) (bs : Nat → List Nat), N = k + c → c < f → MB E σ0 σ m Ma I X → EV n kd bs I X → (bs e).length + c ≤ 60 → (∀ x, x < n → (bs x).length ≤ 60) →
    wp (f_X6_octets_L39 E f (some m) (nI e) (nI N) v (nI k) σ) (fun r τ => r = nI ((bs e).length + c) ∧ ∃ I' X', MB E σ0 τ m Ma I' X' ∧ I' 4 = 0 ∧ EV n kd (up bs e (bs e ++ (List.range' k c).map (byN v))) I' X')
  | 0, f, k, σ, X, bs, hc, hf, h, hv, hl, hbl => by
    obtain ⟨f, rfl⟩ : ∃ z, f = z + 1 := ⟨f - 1, by omega⟩
    rw [f_X6_octets_L39]
    refine wp_t (nI_le (by omega) (by omega)) (wm_pi h (fun τ h' => wm_gr h' (by decide) (wm_al h' (by decide) rfl (by show e < 30; omega) (wp_ret ⟨?_, _, _, h', up_s, ?_⟩))))
    · exact (hv.2 e he).2.1
    · have : up bs e (bs e ++ (List.range' k 0).map (byN v)) = bs := by
        show up bs e (bs e ++ []) = bs
        rw [List.append_nil, up_id]
      rw [this]
      exact hv.ko (up_n (by decide)) rfl rfl rfl
  | c + 1, f, k, σ, X, bs, hc, hf, h, hv, hl, hbl => by
    obtain ⟨f, rfl⟩ : ∃ z, f = z + 1 := ⟨f - 1, by omega⟩
    obtain ⟨y1, y2, y3⟩ := hv.2 e he
    rw [f_X6_octets_L39]
    refine wp_f (nI_ge (by omega) (by omega)) (wm_gr h (by decide) (wm_gr h (by decide) (wm_al h (by decide) rfl (by show e < 30; omega) ?_)))
    rw [y2, byA v (show k < 8 by omega)]
    refine wm_as h (j := 60 * e + (bs e).length) (by decide) (sx _ _) (by show 60 * e + (bs e).length < 1800; omega) (fun s1 h1 => ?_)
    refine wm_gr h1 (by decide) (wm_al h1 (by decide) rfl (by show e < 30; omega) ?_)
    rw [up_n (show (2 : Nat) ≠ 3 by decide), y2]
    refine wm_as h1 (by decide) rfl (by show e < 30; omega) (fun s2 h2 => ?_)
    rw [nI_1] at h2 ⊢
    have hv2 : EV n kd (up bs e (bs e ++ [byN v k])) I (up (up X 3 (up (X 3) (60 * e + (bs e).length) (nI (byN v k)))) 2 (up (up X 3 (up (X 3) (60 * e + (bs e).length) (nI (byN v k))) 2) e (nI ((bs e).length + 1)))) := by
      refine ⟨hv.1, fun e' he' => ?_⟩
      obtain ⟨z1, z2, z3⟩ := hv.2 e' he'
      rw [up_n (show (1 : Nat) ≠ 2 by decide), up_n (show (1 : Nat) ≠ 3 by decide), up_s, up_n (show (2 : Nat) ≠ 3 by decide), up_n (show (3 : Nat) ≠ 2 by decide), up_s]
      by_cases q : e' = e
      · subst q
        rw [up_s, up_s]
        refine ⟨z1, by rw [List.length_append]; rfl, fun i hi => ?_⟩
        rw [List.length_append] at hi
        have hi : i < (bs e').length + 1 := hi
        by_cases w : i = (bs e').length
        · rw [w, up_s, getD_app2 (Nat.le_refl _), Nat.sub_self]; rfl
        · rw [up_n (by omega), getD_app1 (by omega)]
          exact z3 i (by omega)
      · rw [up_n q, up_n q]
        refine ⟨z1, z2, fun i hi => ?_⟩
        have := hbl e' he'
        rw [up_n (by omega)]
        exact z3 i hi
    refine wp_mono (sp_ocL hA he hN c f (k + 1) s2 _ _ (by omega) (by omega) h2 hv2 (by rw [up_s, List.length_append]; show (bs e).length + 1 + c ≤ 60; omega) (fun x hx => ?_)) ?_
    · by_cases q : x = e
      · rw [q, up_s, List.length_append]; show (bs e).length + 1 ≤ 60; omega
      · rw [up_n q]; exact hbl x hx
    rintro r τ ⟨u1, I', X', u2, u3, u4⟩
    refine ⟨?_, I', X', u2, u3, ?_⟩
    · rw [u1, up_s, List.length_append]
      show nI ((bs e).length + 1 + c) = _
      congr 1
      omega
    · rw [up_up, up_s, List.append_assoc] at u4
      rw [List.range'_succ, List.map_cons]
      exact u4
theorem sp_octets6 (hE : 1000 ≤ E.1) (hO : Ok E σ) (hA : AST (n, kd, bs, S)) (h : MB E σ σ m Ma I X) (hv : MV (n, kd, bs, S) I X) (v w : Int32) (b : Int64) : wp (f_X6_octets E (some m) v w b σ) (ME E σ m Ma (aOctets v w b (n, kd, bs, S))) := by
  have hn : n ≤ 30 := hA.1.1
  refine wm_oM h hO (fun _ _ q => by obtain ⟨-, I', X', q, -⟩ := q; exact ⟨_, _, q⟩) ?_
  unfold g_X6_octets f_X6_octets_B18 aOctets
  refine wm_K h (wp_rd (sp_isEntry6 h hO hn hv.1.1 v) ?_)
  rcases in2 v (L := n) (by omega) with ⟨z, z2⟩ | ⟨z, z2, j, hj, rfl⟩
  · rw [if_pos z, if_pos z]; exact wp_t rfl (wp_ret (ME.rd h hv))
  · rw [if_neg z, if_neg z]
    refine wp_f ne01 (wp_rd (sp_isIn hO w 1 8) ?_)
    have hiff : (w < 1 ∨ (8 : Int32) < w) ↔ (w < 1 ∨ ¬ w ≤ 8) := by rw [Int32.not_le]
    rw [if_iff hiff]
    by_cases y : w < 1 ∨ ¬ w ≤ 8
    · rw [if_pos y, if_pos y]; exact wp_t rfl (wp_ret (ME.rd h hv))
    · rw [if_neg y, if_neg y]
      have m0 : ¬ w < 0 := fun q => y (Or.inl (Int32.lt_trans q (by decide)))
      have m8 : w ≤ 8 := Decidable.byContradiction (fun q => y (Or.inr q))
      obtain ⟨k, hk, rfl⟩ := nI_of2 (M := 8) (n := 8) (by decide) m0 m8
      rw [cl_nI (show j < 2 ^ 31 by omega), cl_nI (show k < 2 ^ 31 by omega)]
      have ev : EV n kd bs I X := hv.1
      obtain ⟨y1, y2, y3⟩ := ev.2 j hj
      have hbl := fun x (hx : x < n) => (hA.1.2 x hx).2.1
      have hbj : (bs j).length ≤ 60 := hbl j hj
      refine wp_f ne01 (wm_gr h (by decide) (wm_al h (by decide) rfl (by show j < 30; omega) ?_))
      rw [y2, nI_add]
      by_cases q : (bs j).length + k ≤ 60
      · rw [if_pos (show ((n, kd, bs, S).2.2.1 j).length + k ≤ 60 from q)]
        refine wp_t (show nI ((bs j).length + k) ≤ nI 60 from nI_le q (by omega)) (wp_mono (sp_ocL (v := b) hn hj hk k E.1 0 σ X bs (by omega) (by omega) h ev q hbl) ?_)
        rintro r τ ⟨u1, I', X', u2, u3, u4⟩
        refine ⟨u1, I', X', u2, ?_, u3⟩
        have e5 : newB b k = (List.range' 0 k).map (byN b) := by unfold newB; rw [List.range_eq_range']
        show EV n kd (up bs j (bs j ++ newB b k)) I' X'
        rw [e5]
        exact u4
      · rw [if_neg (show ¬ ((n, kd, bs, S).2.2.1 j).length + k ≤ 60 from q)]
        exact wp_f (show ¬ nI ((bs j).length + k) ≤ nI 60 from nI_ge (by omega) (by omega)) (wp_ret (ME.rd h hv))
end MBS
