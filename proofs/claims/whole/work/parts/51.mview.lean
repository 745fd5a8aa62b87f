/-! the group of each place in THE ORDER -/
def gatF : Nat → List Grp → List Nat
  | _, [] => []
  | b, q :: r => List.replicate q.2.1.length b ++ gatF (b + 1) r
theorem gatF_len : ∀ (gs : List Grp) (b : Nat), (gatF b gs).length = (flat gs).length
  | [], b => rfl
  | q :: r, b => by
    unfold gatF
    rw [flat_cons, List.length_append, List.length_append, List.length_replicate, gatF_len r (b + 1)]
theorem getD_app1 {α : Type} {a b : List α} {i : Nat} {d : α} (h : i < a.length) : (a ++ b).getD i d = a.getD i d := by
  rw [List.getD_eq_getElem?_getD, List.getD_eq_getElem?_getD, List.getElem?_append_left h]
theorem getD_app2 {α : Type} {a b : List α} {i : Nat} {d : α} (h : a.length ≤ i) : (a ++ b).getD i d = b.getD (i - a.length) d := by
  rw [List.getD_eq_getElem?_getD, List.getD_eq_getElem?_getD, List.getElem?_append_right h]
theorem getD_rep {i n b d : Nat} (h : i < n) : (List.replicate n b).getD i d = b := by
  rw [List.getD_eq_getElem?_getD, List.getElem?_replicate, if_pos h]; rfl
theorem gat_ix (e : Nat) : ∀ (gs : List Grp) (b : Nat), e ∈ flat gs → (gatF b gs).getD (ix e (flat gs)) 0 = b + gx e gs
  | [], b, h => nomatch h
  | q :: r, b, h => by
    unfold gatF
    rw [flat_cons, ix_app, gx_cons]
    by_cases z : e ∈ q.2.1
    · have hl := (ix_mem e q.2.1).mpr z
      rw [if_pos z, if_pos z, getD_app1 (by rw [List.length_replicate]; exact hl), getD_rep hl]
      rfl
    · rw [if_neg z, if_neg z, getD_app2 (by rw [List.length_replicate]; omega), List.length_replicate]
      rw [flat_cons] at h
      have hm : e ∈ flat r := (List.mem_append.mp h).elim (fun w => absurd w z) id
      have e1 : q.2.1.length + ix e (flat r) - q.2.1.length = ix e (flat r) := by omega
      rw [e1, gat_ix e r (b + 1) hm]
      omega
/-- the sizes of one group's places -/
def gsum (bs : Nat → List Nat) (g : Nat) : List Nat → List Nat → Nat
  | e :: o, a :: t => (if a = g then (bs e).length else 0) + gsum bs g o t
  | _, _ => 0
theorem gsum_app (bs : Nat → List Nat) (g : Nat) : ∀ (o t o' t' : List Nat), o.length = t.length → gsum bs g (o ++ o') (t ++ t') = gsum bs g o t + gsum bs g o' t'
  | [], [], o', t', _ => by show gsum bs g o' t' = 0 + gsum bs g o' t'; omega
  | [], _ :: _, _, _, h => by cases h
  | _ :: _, [], _, _, h => by cases h
  | e :: o, a :: t, o', t', h => by
    have h : o.length + 1 = t.length + 1 := h
    show (if a = g then (bs e).length else 0) + gsum bs g (o ++ o') (t ++ t') = (if a = g then (bs e).length else 0) + gsum bs g o t + gsum bs g o' t'
    rw [gsum_app bs g o t o' t' (by omega)]
    omega
theorem gsum_rep (bs : Nat → List Nat) (g b : Nat) : ∀ (o : List Nat), gsum bs g o (List.replicate o.length b) = if b = g then (cont bs o).length else 0
  | [] => by
    show 0 = _
    split <;> rfl
  | e :: o => by
    show (if b = g then (bs e).length else 0) + gsum bs g o (List.replicate o.length b) = _
    rw [gsum_rep bs g b o, cont_cons, List.length_append]
    split <;> omega
theorem gsum_flat (bs : Nat → List Nat) (g : Nat) : ∀ (gs : List Grp) (b : Nat), gsum bs g (flat gs) (gatF b gs) = if b ≤ g ∧ g < b + gs.length then (contG bs gs (g - b)).length else 0
  | [], b => by
    rw [if_neg (fun z => by have := z.2; simp at this; omega)]
    rfl
  | q :: r, b => by
    unfold gatF
    rw [flat_cons, gsum_app bs g _ _ _ _ (by rw [List.length_replicate]), gsum_rep, gsum_flat bs g r (b + 1), List.length_cons]
    by_cases z : b = g
    · rw [if_pos z, if_neg (fun w => by omega), if_pos ⟨by omega, by omega⟩]
      have : g - b = 0 := by omega
      rw [this]
      rfl
    · rw [if_neg z]
      by_cases y : b + 1 ≤ g ∧ g < b + 1 + r.length
      · rw [if_pos y, if_pos ⟨by omega, by omega⟩, Nat.zero_add]
        have : g - b = (g - (b + 1)) + 1 := by omega
        rw [this]
        rfl
      · rw [if_neg y, if_neg (fun w => y ⟨by omega, by omega⟩)]
theorem gsum_take (bs : Nat → List Nat) (t : Nat) : ∀ (gs : List Grp) (b : Nat), t ∈ flat gs → gsum bs (b + gx t gs) ((flat gs).take (ix t (flat gs))) ((gatF b gs).take (ix t (flat gs))) = (cont bs ((gs.getD (gx t gs) dG).2.1.take (ix t (gs.getD (gx t gs) dG).2.1))).length
  | [], b, h => nomatch h
  | q :: r, b, h => by
    unfold gatF
    rw [flat_cons, ix_app, gx_cons]
    by_cases z : t ∈ q.2.1
    · have hl := (ix_mem t q.2.1).mpr z
      rw [if_pos z, if_pos z, List.take_append_of_le_length (by omega), List.take_append_of_le_length (by rw [List.length_replicate]; omega), List.take_replicate]
      have e1 : min (ix t q.2.1) q.2.1.length = (q.2.1.take (ix t q.2.1)).length := by rw [List.length_take]
      rw [e1, gsum_rep, if_pos (by omega)]
      rfl
    · rw [if_neg z, if_neg z]
      rw [flat_cons] at h
      have hm : t ∈ flat r := (List.mem_append.mp h).elim (fun w => absurd w z) id
      have e1 : (q.2.1 ++ flat r).take (q.2.1.length + ix t (flat r)) = q.2.1 ++ (flat r).take (ix t (flat r)) := by
        rw [List.take_append, List.take_of_length_le (by omega)]
        congr 2
        omega
      have e2 : (List.replicate q.2.1.length b ++ gatF (b + 1) r).take (q.2.1.length + ix t (flat r)) = List.replicate q.2.1.length b ++ (gatF (b + 1) r).take (ix t (flat r)) := by
        rw [List.take_append, List.length_replicate, List.take_of_length_le (by rw [List.length_replicate]; omega)]
        congr 2
        omega
      rw [e1, e2, gsum_app bs _ _ _ _ _ (by rw [List.length_replicate]), gsum_rep, if_neg (by omega), Nat.zero_add]
      have e3 : b + (gx t r + 1) = (b + 1) + gx t r := by omega
      rw [e3]
      exact gsum_take bs t r (b + 1) hm
/-! what the model's rows hold -/
def GV (gs : List Grp) (I : Nat → Int32) (X : Nat → Nat → Int32) : Prop := I 9 = nI (flat gs).length ∧ I 10 = nI gs.length ∧ (∀ k, k < (flat gs).length → X 7 k = nI ((flat gs).getD k 0) ∧ X 8 k = nI ((gatF 0 gs).getD k 0)) ∧ ∀ g, g < gs.length → X 11 g = nI (gs.getD g dG).1 ∧ X 12 g = nI (gs.getD g dG).2.2
def TV1 (T : List (Nat × Nat × Nat)) (X : Nat → Nat → Int32) (g : Nat) : Prop := X 13 g = nI T.length ∧ ∀ j, j < T.length → X 14 (5400 * g + 3 * j) = tokV (T.getD j (0, 0, 0)) ∧ X 14 (5400 * g + 3 * j + 1) = nI (T.getD j (0, 0, 0)).2.1 ∧ X 14 (5400 * g + 3 * j + 2) = nI (T.getD j (0, 0, 0)).2.2
def TV (bs : Nat → List Nat) (gs : List Grp) (X : Nat → Nat → Int32) : Prop := ∀ g, g < gs.length → TV1 (toks (contG bs gs g)) X g
def MV (st : AS) (I : Nat → Int32) (X : Nat → Nat → Int32) : Prop := EV st.1 st.2.1 st.2.2.1 I X ∧ match st.2.2.2 with
  | none => I 4 = 0
  | some s => I 4 = 1 ∧ I 5 = nI s.1 ∧ (∀ e, e < st.1 → X 6 e = nI (s.2.1 e)) ∧ GV s.2.2 I X ∧ TV st.2.2.1 s.2.2 X
def ME (E : PE) (σ : PS) (m : Nat) (Ma : Nat → Nat) (a : Int32 × AS) (r : Int32) (τ : PS) : Prop := r = a.1 ∧ ∃ I X, MB E σ τ m Ma I X ∧ MV a.2 I X
theorem MV.ko {st : AS} {I I' : Nat → Int32} {X X' : Nat → Nat → Int32} (h : MV st I X) (hI : ∀ k, k ≤ 14 → I' k = I k) (hX : ∀ k, k ≤ 14 → X' k = X k) : MV st I' X' := by
  obtain ⟨n, kd, bs, S⟩ := st
  obtain ⟨h1, h2⟩ := h
  refine ⟨h1.ko (hI 0 (by omega)) (hX 1 (by omega)) (hX 2 (by omega)) (hX 3 (by omega)), ?_⟩
  cases S with
  | none => show I' 4 = 0; rw [hI 4 (by omega)]; exact h2
  | some s =>
    obtain ⟨a1, a2, a3, ⟨b1, b2, b3, b4⟩, a5⟩ := h2
    refine ⟨by rw [hI 4 (by omega)]; exact a1, by rw [hI 5 (by omega)]; exact a2, fun e he => by rw [hX 6 (by omega)]; exact a3 e he, ⟨by rw [hI 9 (by omega)]; exact b1, by rw [hI 10 (by omega)]; exact b2, fun k hk => by rw [hX 7 (by omega), hX 8 (by omega)]; exact b3 k hk, fun g hg => by rw [hX 11 (by omega), hX 12 (by omega)]; exact b4 g hg⟩, fun g hg => ?_⟩
    obtain ⟨c1, c2⟩ := a5 g hg
    exact ⟨by rw [hX 13 (by omega)]; exact c1, fun j hj => by rw [hX 14 (by omega)]; exact c2 j hj⟩
section MBS
variable {E : PE} {σ0 σ : PS} {m : Nat} {Ma : Nat → Nat} {I : Nat → Int32} {X : Nat → Nat → Int32} {β : Type} {y : Option β} {n : Nat} {kd : Nat → Nat} {bs : Nat → List Nat} {S : Option PK}
theorem em_K {f : Nat → Option β} (h : MB E σ0 σ m Ma I X) (w : f m = y) : (oK 7 (some m) σ).bind f = y := e_K rfl h.k w
theorem em_gi {f : Int32 → Option β} {k : Nat} (h : MB E σ0 σ m Ma I X) (w : f (I k) = y) : (oGi 7 k (some m) σ).bind f = y := e_gi rfl h.k (by rw [h.2.2.2.2.1 k]; exact w)
theorem em_gr {f : Option Nat → Option β} {k : Nat} (h : MB E σ0 σ m Ma I X) (hk : k ∈ amL) (w : f (some (Ma k)) = y) : (oGr 7 k (some m) σ).bind f = y := e_gr rfl h.k (by rw [(h.2.2.2.1 k hk).1]; exact w)
theorem em_al {f : Int32 → Option β} {k j : Nat} {i : Int32} (h : MB E σ0 σ m Ma I X) (hk : k ∈ amL) (hi : i = nI j) (hj : j < alM k) (w : f (X k j) = y) : (oAl (some (Ma k)) i σ).bind f = y := by
  obtain ⟨a1, a2, a3⟩ := h.2.2.2.1 k hk
  have := alM_lt k
  exact e_al rfl hi a2 (by omega) (by omega) (by rw [h.2.2.2.2.2 k hk j]; exact w)
theorem MB.re (h : MB E σ0 σ m Ma I X) : MB E σ σ m Ma I X := ⟨Fo.rf h.1.wf, ⟨rfl, rfl, rfl⟩, h.2.2⟩
theorem ME.rd {a : Int32} {st : AS} (h : MB E σ σ m Ma I X) (hv : MV st I X) : ME E σ m Ma (a, st) a σ := ⟨rfl, I, X, h, hv⟩
theorem sc_n {g1 g2 : Nat → Int32} {k : Nat} (hk : k ≤ 14) : up (up X 15 g1) 16 g2 k = X k := by rw [up_n (by omega), up_n (by omega)]
theorem sp_common6 (hE : 1000 ≤ E.1) (hO : Ok E σ) (hA : AST (n, kd, bs, S)) (h : MB E σ σ m Ma I X) (hv : MV (n, kd, bs, S) I X) (v w : Int32) : wp (f_X6_common E (some m) v w σ) (ME E σ m Ma (aCommon v w (n, kd, bs, S), (n, kd, bs, S))) := by
  have hn : n ≤ 30 := hA.1.1
  refine wm_oM h hO (fun _ _ q => by obtain ⟨-, I', X', q, -⟩ := q; exact ⟨_, _, q⟩) ?_
  unfold g_X6_common f_X6_common_B25 f_X6_common_B26 aCommon
  refine wm_K h (wp_rd (sp_isEntry6 h hO hn hv.1.1 v) ?_)
  rcases in2 v (L := n) (by omega) with ⟨e1, e2⟩ | ⟨e1, e2, a, ha, rfl⟩
  · rw [if_pos e1, if_pos e1]; exact wp_t rfl (wp_ret (ME.rd h hv))
  · rw [if_neg e1, if_neg e1]
    refine wp_f ne01 (wm_K h (wp_rd (sp_isEntry6 h hO hn hv.1.1 w) ?_))
    rcases in2 w (L := n) (by omega) with ⟨d1, d2⟩ | ⟨d1, d2, b, hb, rfl⟩
    · rw [if_pos d1, if_pos d1]; exact wp_t rfl (wp_ret (ME.rd h hv))
    · rw [if_neg d1, if_neg d1]
      refine wp_f ne01 (wm_K h (wp_bd (sp_commonOf hE hO hA.1 ha hb h hv.1) ?_))
      rintro r s ⟨g1, g2, rfl, h2, -⟩
      rw [cl_nI (show a < 2 ^ 31 by omega), cl_nI (show b < 2 ^ 31 by omega)]
      exact wp_ret ⟨rfl, _, _, h2, hv.ko (fun _ _ => rfl) (fun k hk => sc_n hk)⟩
theorem sp_distance6 (hE : 1000 ≤ E.1) (hO : Ok E σ) (hA : AST (n, kd, bs, S)) (h : MB E σ σ m Ma I X) (hv : MV (n, kd, bs, S) I X) (v w : Int32) : wp (f_X6_distance E (some m) v w σ) (ME E σ m Ma (aDist v w (n, kd, bs, S), (n, kd, bs, S))) := by
  have hn : n ≤ 30 := hA.1.1
  refine wm_oM h hO (fun _ _ q => by obtain ⟨-, I', X', q, -⟩ := q; exact ⟨_, _, q⟩) ?_
  unfold g_X6_distance f_X6_distance_B25 f_X6_distance_B26 aDist
  refine wm_K h (wp_rd (sp_isEntry6 h hO hn hv.1.1 v) ?_)
  rcases in2 v (L := n) (by omega) with ⟨e1, e2⟩ | ⟨e1, e2, a, ha, rfl⟩
  · rw [if_pos e1, if_pos e1]; exact wp_t rfl (wp_ret (ME.rd h hv))
  · rw [if_neg e1, if_neg e1]
    refine wp_f ne01 (wm_K h (wp_rd (sp_isEntry6 h hO hn hv.1.1 w) ?_))
    rcases in2 w (L := n) (by omega) with ⟨d1, d2⟩ | ⟨d1, d2, b, hb, rfl⟩
    · rw [if_pos d1, if_pos d1]; exact wp_t rfl (wp_ret (ME.rd h hv))
    · rw [if_neg d1, if_neg d1]
      refine wp_f ne01 (wm_K h (wp_bd (sp_distanceOf hE hO hA.1 ha hb h hv.1) ?_))
      rintro r s ⟨g1, g2, rfl, h2⟩
      rw [cl_nI (show a < 2 ^ 31 by omega), cl_nI (show b < 2 ^ 31 by omega)]
      exact wp_ret ⟨rfl, _, _, h2, hv.ko (fun _ _ => rfl) (fun k hk => sc_n hk)⟩
theorem sp_order6 (hO : Ok E σ) (hA : AST (n, kd, bs, S)) (h : MB E σ σ m Ma I X) (hv : MV (n, kd, bs, S) I X) (v : Int32) : f_X6_order E (some m) v σ = some (aOrder v (n, kd, bs, S), σ) := by
  have hn : n ≤ 30 := hA.1.1
  refine oM_rd hO ?_
  unfold g_X6_order f_X6_order_B34 aOrder
  refine em_gi h ?_
  cases S with
  | none => rw [show I 4 = 0 from hv.2]; exact e_t rfl rfl
  | some s =>
    obtain ⟨a1, a2, a3, ⟨b1, b2, b3, b4⟩, a5⟩ := hv.2
    have hI : AI n kd bs s.2.1 s.1 s.2.2 := hA.2 s rfl
    have hl := hI.lens.1
    rw [a1]
    refine e_f ne01 (em_gi h ?_)
    rw [b1]
    refine bd_rd (sp_isIn hO v 0 _) ?_
    rw [if_iff (out_iff v (by omega))]
    show _ = some (if v < 0 ∨ nI (flat s.2.2).length ≤ v then -1 else nI ((flat s.2.2).getD (cl v) 0), σ)
    rcases in2 v (L := (flat s.2.2).length) (by omega) with ⟨e1, e2⟩ | ⟨e1, e2, j, hj, rfl⟩
    · rw [if_pos e1, if_pos e1, if_pos rfl]
    · rw [if_neg e1, if_neg e1, if_neg ne01, cl_nI (by omega)]
      refine em_gr h (by decide) (em_al h (by decide) rfl (by show j < 30; omega) ?_)
      rw [(b3 j hj).1]
theorem sp_twin6 (hO : Ok E σ) (hA : AST (n, kd, bs, S)) (h : MB E σ σ m Ma I X) (hv : MV (n, kd, bs, S) I X) (v : Int32) : f_X6_twin E (some m) v σ = some (aTwin v (n, kd, bs, S), σ) := by
  have hn : n ≤ 30 := hA.1.1
  refine oM_rd hO ?_
  unfold g_X6_twin f_X6_twin_B28 aTwin
  refine em_K h (bd_rd (sp_isEntry6 h hO hn hv.1.1 v) ?_)
  rcases in2 v (L := n) (by omega) with ⟨e1, e2⟩ | ⟨e1, e2, j, hj, rfl⟩
  · rw [if_pos e1, if_pos e1, if_pos rfl]
  · rw [if_neg e1, if_neg e1, if_neg ne01]
    refine em_gi h ?_
    cases S with
    | none => rw [show I 4 = 0 from hv.2]; exact e_t rfl rfl
    | some s =>
      obtain ⟨a1, a2, a3, -, -⟩ := hv.2
      rw [a1]
      refine e_f ne01 (em_gr h (by decide) (em_al h (by decide) rfl (by show j < 30; omega) ?_))
      rw [a3 j hj]
      show _ = some (nI (s.2.1 (cl (nI j))), σ)
      rw [cl_nI (by omega)]
theorem sp_pioL {gs : List Grp} {t : Nat} (h : MB E σ0 σ m Ma I X) (hg : GV gs I X) (hl : (flat gs).length ≤ 30) (hb : ∀ e ∈ flat gs, e < 30) (ht : t < 30) : ∀ (c f k : Nat), (flat gs).length = k + c → c < f → f_X6_placeInOrder_L2 E f (some m) (nI t) (nI k) σ = some (if t ∈ (flat gs).drop k then nI (k + ix t ((flat gs).drop k)) else -2, σ)
  | 0, f, k, hc, hf => by
    obtain ⟨f, rfl⟩ : ∃ z, f = z + 1 := ⟨f - 1, by omega⟩
    rw [f_X6_placeInOrder_L2]
    refine em_gi h ?_
    rw [hg.1]
    refine e_t (nI_le (by omega) (by omega)) ?_
    rw [List.drop_eq_nil_of_le (by omega), if_neg (fun z => nomatch z)]
  | c + 1, f, k, hc, hf => by
    obtain ⟨f, rfl⟩ : ∃ z, f = z + 1 := ⟨f - 1, by omega⟩
    have ih := sp_pioL h hg hl hb ht c f (k + 1) (by omega) (by omega)
    have hk : k < (flat gs).length := by omega
    have hd := drop_cons (T := flat gs) hk 0
    have hx := hb _ (by rw [List.getD_eq_getElem?_getD, List.getElem?_eq_getElem hk]; exact List.getElem_mem hk : (flat gs).getD k 0 ∈ flat gs)
    rw [f_X6_placeInOrder_L2]
    refine em_gi h ?_
    rw [hg.1]
    refine e_f (nI_ge hk (by omega)) (em_gr h (by decide) (em_al h (by decide) rfl (by show k < 30; omega) ?_))
    rw [(hg.2.2.1 k hk).1, hd, ix_cons]
    by_cases z : (flat gs).getD k 0 = t
    · refine e_t (congrArg nI z) ?_
      rw [if_pos (z ▸ List.mem_cons_self ..), if_pos z]
      rfl
    · refine e_f (fun y => z ((nI_eq (by omega) (by omega)).mp y)) ?_
      rw [nI_1, ih, if_neg z]
      by_cases y : t ∈ (flat gs).drop (k + 1)
      · rw [if_pos y, if_pos (List.mem_cons_of_mem _ y)]
        congr 3
        omega
      · rw [if_neg y, if_neg (fun w => by rcases List.mem_cons.mp w with w | w; exact z w.symm; exact y w)]
theorem sp_pio {gs : List Grp} {t : Nat} (hE : 1000 ≤ E.1) (hO : Ok E σ0) (h : MB E σ0 σ m Ma I X) (hg : GV gs I X) (hl : (flat gs).length ≤ 30) (hb : ∀ e ∈ flat gs, e < 30) (ht : t ∈ flat gs) : f_X6_placeInOrder E (some m) (nI t) σ = some (nI (ix t (flat gs)), σ) := by
  have := sp_pioL (E := E) h hg hl hb (hb t ht) (flat gs).length E.1 0 (by omega) (by omega)
  rw [List.drop_zero, Nat.zero_add, if_pos ht] at this
  exact oM_rd (h.ok hO) this
/-- what the state's order says for the model -/
theorem AI.mb {n : Nat} {kd tw : Nat → Nat} {bs : Nat → List Nat} {bd : Nat} {gs : List Grp} (hI : AI n kd bs tw bd gs) (hn : n ≤ 30) : (flat gs).length ≤ 30 ∧ gs.length ≤ 30 ∧ ∀ e ∈ flat gs, e < 30 := by
  have h1 := hI.lens
  exact ⟨by omega, by omega, fun e he => by have := ((hI.2.2.1 e).mp he).1; omega⟩
theorem sp_group6 (hE : 1000 ≤ E.1) (hO : Ok E σ) (hA : AST (n, kd, bs, S)) (h : MB E σ σ m Ma I X) (hv : MV (n, kd, bs, S) I X) (v : Int32) : f_X6_group E (some m) v σ = some (aGroup v (n, kd, bs, S), σ) := by
  have hn : n ≤ 30 := hA.1.1
  refine oM_rd hO ?_
  unfold g_X6_group f_X6_group_B37 aGroup
  refine em_K h (bd_rd (sp_isEntry6 h hO hn hv.1.1 v) ?_)
  rcases in2 v (L := n) (by omega) with ⟨e1, e2⟩ | ⟨e1, e2, j, hj, rfl⟩
  · rw [if_pos e1, if_pos e1, if_pos rfl]
  · rw [if_neg e1, if_neg e1, if_neg ne01]
    refine em_gi h ?_
    cases S with
    | none => rw [show I 4 = 0 from hv.2]; exact e_t rfl rfl
    | some s =>
      obtain ⟨a1, a2, a3, gv, -⟩ := hv.2
      have hI : AI n kd bs s.2.1 s.1 s.2.2 := hA.2 s rfl
      obtain ⟨l1, l2, l3⟩ := hI.mb hn
      have hm := hI.tmem hj
      have hix := (ix_mem _ _).mpr hm
      rw [a1]
      refine e_f ne01 (em_gr h (by decide) (em_gr h (by decide) (em_al h (by decide) rfl (by show j < 30; omega) (em_K h ?_))))
      rw [a3 j hj]
      refine bd_rd (sp_pio hE hO h gv l1 l3 hm) (em_al h (by decide) rfl (by show ix _ _ < 30; omega) ?_)
      rw [(gv.2.2.1 _ hix).2, gat_ix _ _ _ hm, Nat.zero_add]
      show _ = some (nI (gx (s.2.1 (cl (nI j))) s.2.2), σ)
      rw [cl_nI (by omega)]
theorem getD_at {α : Type} {l : List α} {i : Nat} {d : α} (h : i < l.length) : l.getD i d = l[i] := by rw [List.getD_eq_getElem?_getD, List.getElem?_eq_getElem h]; rfl
theorem sp_gbL {gs : List Grp} {g : Nat} (h : MB E σ0 σ m Ma I X) (hg : GV gs I X) (hv : EV n kd bs I X) (hn : n ≤ 30) (hl : (flat gs).length ≤ 30) (hb : ∀ e ∈ flat gs, e < n) (hgl : gs.length ≤ 30) (hg2 : g < 1000) : ∀ (c f k acc : Nat), (flat gs).length = k + c → c < f → f_X6_groupBytes_L4 E f (some m) (nI g) (nI acc) (nI k) σ = some (nI (acc + gsum bs g ((flat gs).drop k) ((gatF 0 gs).drop k)), σ)
  | 0, f, k, acc, hc, hf => by
    obtain ⟨f, rfl⟩ : ∃ z, f = z + 1 := ⟨f - 1, by omega⟩
    rw [f_X6_groupBytes_L4]
    refine em_gi h ?_
    rw [hg.1]
    refine e_t (nI_le (by omega) (by omega)) ?_
    rw [List.drop_eq_nil_of_le (by omega)]
    rfl
  | c + 1, f, k, acc, hc, hf => by
    obtain ⟨f, rfl⟩ : ∃ z, f = z + 1 := ⟨f - 1, by omega⟩
    have hk : k < (flat gs).length := by omega
    have hk2 : k < (gatF 0 gs).length := by rw [gatF_len]; exact hk
    have hd := drop_cons (T := flat gs) hk 0
    have hd2 := drop_cons (T := gatF 0 gs) hk2 0
    have hen : (flat gs).getD k 0 < n := hb _ (by rw [getD_at hk]; exact List.getElem_mem hk)
    obtain ⟨x1, x2⟩ := hg.2.2.1 k hk
    obtain ⟨-, y2, -⟩ := hv.2 _ hen
    have hgat : (gatF 0 gs).getD k 0 < 1000 := by
      have : ∀ (gs : List Grp) (b : Nat), ∀ x ∈ gatF b gs, x < b + gs.length := by
        intro gs
        induction gs with
        | nil => intro b x hx; exact nomatch hx
        | cons q r ih =>
          intro b x hx
          unfold gatF at hx
          rw [List.length_cons]
          rcases List.mem_append.mp hx with w | w
          · have := (List.mem_replicate.mp w).2; omega
          · have := ih (b + 1) x w; omega
      have := this gs 0 _ (by rw [getD_at hk2]; exact List.getElem_mem hk2 : (gatF 0 gs).getD k 0 ∈ gatF 0 gs)
      omega
    rw [f_X6_groupBytes_L4]
    refine em_gi h ?_
    rw [hg.1]
    refine e_f (nI_ge hk (by omega)) (em_gr h (by decide) (em_al h (by decide) rfl (by show k < 30; omega) ?_))
    rw [x2, hd, hd2]
    unfold f_X6_groupBytes_B38
    show _ = some (nI (acc + ((if (gatF 0 gs).getD k 0 = g then (bs ((flat gs).getD k 0)).length else 0) + gsum bs g ((flat gs).drop (k + 1)) ((gatF 0 gs).drop (k + 1)))), σ)
    by_cases z : (gatF 0 gs).getD k 0 = g
    · refine e_t (congrArg nI z) (em_gr h (by decide) (em_gr h (by decide) (em_al h (by decide) rfl (by show k < 30; omega) ?_)))
      rw [x1]
      refine em_al h (by decide) rfl (by show (flat gs).getD k 0 < 30; omega) ?_
      rw [y2, nI_add, nI_1, sp_gbL h hg hv hn hl hb hgl hg2 c f (k + 1) _ (by omega) (by omega), if_pos z, Nat.add_assoc]
    · refine e_f (fun y => z ((nI_eq (by omega) (by omega)).mp y)) ?_
      have e0 : nI acc + (0 : Int32) = nI acc := nI_add acc 0
      rw [e0, nI_1, sp_gbL h hg hv hn hl hb hgl hg2 c f (k + 1) _ (by omega) (by omega), if_neg z, Nat.zero_add]
theorem sp_groupBytes {gs : List Grp} {g : Nat} (hE : 1000 ≤ E.1) (hO : Ok E σ0) (h : MB E σ0 σ m Ma I X) (hg : GV gs I X) (hv : EV n kd bs I X) (hn : n ≤ 30) (hl : (flat gs).length ≤ 30) (hb : ∀ e ∈ flat gs, e < n) (hgl : gs.length ≤ 30) (hg2 : g < gs.length) : f_X6_groupBytes E (some m) (nI g) σ = some (nI (contG bs gs g).length, σ) := by
  have := sp_gbL (E := E) h hg hv hn hl hb hgl (show g < 1000 by omega) (flat gs).length E.1 0 0 (by omega) (by omega)
  rw [List.drop_zero, List.drop_zero, Nat.zero_add, gsum_flat, if_pos ⟨Nat.zero_le _, by omega⟩, Nat.sub_zero] at this
  exact oM_rd (h.ok hO) this
end MBS
