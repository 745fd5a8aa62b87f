/-! sum -/
theorem up_up {α : Type} (f : Nat → α) (k : Nat) (a b : α) : up (up f k a) k b = up f k b := by
  funext i
  by_cases z : i = k
  · rw [z, up_s, up_s]
  · rw [up_n z, up_n z, up_n z]
theorem up_id {α : Type} (f : Nat → α) (k : Nat) : up f k (f k) = f := by
  funext i
  by_cases z : i = k
  · rw [z, up_s]
  · rw [up_n z]
def flatK (k : Nat) : List Grp → List Nat
  | [] => []
  | q :: r => if q.1 = k then q.2.1 ++ flatK k r else flatK k r
theorem flatK_cons (k : Nat) (q : Grp) (r : List Grp) : flatK k (q :: r) = if q.1 = k then q.2.1 ++ flatK k r else flatK k r := rfl
theorem flatK_filter {kd : Nat → Nat} (k : Nat) : ∀ gs : List Grp, (∀ q ∈ gs, ∀ e ∈ q.2.1, kd e = q.1) → flatK k gs = (flat gs).filter (fun e => kd e = k)
  | [], _ => rfl
  | q :: r, h => by
    have ih := flatK_filter k r (fun p hp => h p (List.mem_cons_of_mem _ hp))
    have h0 := h q (List.mem_cons_self ..)
    rw [flatK_cons, flat_cons, List.filter_append, ← ih]
    by_cases z : q.1 = k
    · rw [if_pos z]
      congr 1
      refine (List.filter_eq_self.mpr (fun e he => ?_)).symm
      exact decide_eq_true ((h0 e he).trans z)
    · rw [if_neg z]
      have : q.2.1.filter (fun e => kd e = k) = [] := List.filter_eq_nil_iff.mpr (fun e he w => z ((h0 e he).symm.trans (of_decide_eq_true w)))
      rw [this, List.nil_append]
theorem flatK_len (k : Nat) : ∀ gs : List Grp, (flatK k gs).length ≤ (flat gs).length
  | [] => Nat.le_refl _
  | q :: r => by
    have ih := flatK_len k r
    rw [flatK_cons, flat_cons, List.length_append]
    split
    · rw [List.length_append]; omega
    · omega
theorem flatK_mem {k e : Nat} : ∀ {gs : List Grp}, e ∈ flatK k gs → e ∈ flat gs
  | [], h => nomatch h
  | q :: r, h => by
    rw [flatK_cons] at h
    rw [flat_cons]
    by_cases z : q.1 = k
    · rw [if_pos z] at h
      rcases List.mem_append.mp h with h | h
      · exact List.mem_append_left _ h
      · exact List.mem_append_right _ (flatK_mem h)
    · rw [if_neg z] at h
      exact List.mem_append_right _ (flatK_mem h)
theorem adjS_short {d : Nat → Nat → Nat} {l : List Nat} (h : l.length ≤ 1) : adjS d l = 0 := by
  cases l with
  | nil => rfl
  | cons a r =>
    cases r with
    | nil => rfl
    | cons b r => exact absurd h (by show ¬ r.length + 2 ≤ 1; omega)
theorem adjS_drop {d : Nat → Nat → Nat} {l : List Nat} {i : Nat} (h : i + 1 < l.length) : adjS d (l.drop i) = d (l.getD i 0) (l.getD (i + 1) 0) + adjS d (l.drop (i + 1)) := by
  rw [drop_cons (T := l) (i := i) (by omega) 0, drop_cons (T := l) (i := i + 1) h 0]
  rfl
section CPS
variable {E : PE} {σ τ : PS} {A : Nat → Nat} {F : Nat → Int32} {LL : Nat → List Nat} {n : Nat} {Es kd tw : Nat → Nat} {ed : Nat → Nat × List Nat × Nat} {GA : Nat → Prop} {gd : Nat → Nat × Nat × List Nat × List (Nat × Nat × Nat)} {G : List (Nat × Grp)} {P Ln : List Nat} {bs bo : Nat → List Nat} {V : Nat → Prop} {S : Option PK} {t : Nat}
theorem sp_amL {g : Nat} {mem : List Nat} (hg : GA g) (hmm : (gd g).2.2.1 = mem.map Es) (hmn : ∀ i ∈ mem, i < n) : ∀ (k f i : Nat) (σ : PS) (L : List Nat), mem.length = i + k → k < f → CB E σ A F (up LL 4 L) n Es ed GA gd → L.length + k ≤ 31 → sN σ + k ≤ E.2.1 → sS σ + 49 * k ≤ E.2.2.1 →
    wp (f_X2_addMembersTo_L2 E f (some g) (some (A 4)) (nI i) σ) (fun _ τ => CB E τ A F (up LL 4 (L ++ (mem.drop i).map Es)) n Es ed GA gd ∧ Fc E σ τ ∧ Gr σ τ k (49 * k))
  | 0, f, i, σ, L, hm, hf, c, hL, h1, h2 => by
    obtain ⟨f, rfl⟩ : ∃ z, f = z + 1 := ⟨f - 1, by omega⟩
    have hO : Ok E σ := ⟨by omega, by omega⟩
    obtain ⟨g1, g2, g3, ml, t, ⟨r1, r2⟩, q1, q2⟩ := c.g hg
    rw [hmm] at r2
    have hll := r2.len
    rw [List.length_map] at hll
    rw [f_X2_addMembersTo_L2]
    refine wp_gr rfl g1 (wp_K r1 r2.1 ?_)
    rw [r1]
    refine wp_rd (sp_size hO r2) (wp_t (by rw [List.length_map]; exact nI_le (by omega) (by omega)) (wp_ret ⟨?_, Fc.rf c.wf, Gr.rf⟩))
    rw [List.drop_eq_nil_of_le (by omega), List.map_nil, List.append_nil]
    exact c
  | k + 1, f, i, σ, L, hm, hf, c, hL, h1, h2 => by
    obtain ⟨f, rfl⟩ : ∃ z, f = z + 1 := ⟨f - 1, by omega⟩
    have hO : Ok E σ := ⟨by omega, by omega⟩
    obtain ⟨g1, g2, g3, ml, t, ⟨r1, r2⟩, q1, q2⟩ := c.g hg
    rw [hmm] at r2
    have hll := r2.len
    rw [List.length_map] at hll
    have hi : i < mem.length := by omega
    have hget : (mem.map Es)[i]? = some (Es mem[i]) := by rw [List.getElem?_map, List.getElem?_eq_getElem hi]; rfl
    have hin := hmn _ (List.getElem_mem hi)
    have l4 := c.l j4
    rw [up_s] at l4
    rw [f_X2_addMembersTo_L2]
    refine wp_gr rfl g1 (wp_K r1 r2.1 ?_)
    rw [r1]
    refine wp_rd (sp_size hO r2) (wp_f (by rw [List.length_map]; exact nI_ge (by omega) (by omega)) (wp_gr rfl g1 (wp_K r1 r2.1 ?_)))
    rw [r1]
    refine wp_rd (sp_get hO r2 (by rw [List.length_map]; exact hi)) ?_
    rw [hget]
    refine wp_ca rfl (c.ke hin) (wp_K rfl l4.1 (wp_bd (so_add c.wf l4 (by omega) (Or.inl (c.ke hin)) (by omega) (by omega)) ?_))
    rintro _ s ⟨t1, t2, t3⟩
    have c2 := c.lst j4 t2 t1
    rw [up_up] at c2
    rw [nI_1]
    have s1 := t3.2.2.1
    have s2 := t3.2.2.2
    refine wp_mono (sp_amL hg hmm hmn k f (i + 1) s (L ++ [Es mem[i]]) (by omega) (by omega) c2 (by rw [List.length_append]; show L.length + 1 + k ≤ 31; omega) (by omega) (by omega)) ?_
    rintro _ τ ⟨u1, u2, u3⟩
    refine ⟨?_, (Fc.one t2 l4.1 (by decide)).tr u2, ?_⟩
    · rw [List.drop_eq_getElem_cons hi, List.map_cons, ← List.singleton_append, ← List.append_assoc]
      exact u1
    · have := t3.tr u3
      exact this.wk (by omega) (by omega)
theorem sp_sumB {ln : List Nat} (hE : 1000 ≤ E.1) (hO : Ok E σ) (c : CB E σ A F LL n Es (fun i => (kd i, bs i, tw i)) GA gd) (h4 : LL 4 = ln.map Es) (hln : ∀ i ∈ ln, i < n) : ∀ (k f i acc : Nat), ln.length ≤ i + 1 + k → k < f → i ≤ 100 → f_X5_sum_L85 E f (some (A 0)) (nI acc) (nI (i + 1)) σ = some (nI (acc + adjS (fun a b => distN (bs a) (bs b)) (ln.drop i)), σ) := by
  have l4 := c.l j4
  rw [h4] at l4
  have hll := l4.len
  rw [List.length_map] at hll
  have done : ∀ (f i acc : Nat), ln.length ≤ i + 1 → i ≤ 100 → f_X5_sum_L85 E (f + 1) (some (A 0)) (nI acc) (nI (i + 1)) σ = some (nI (acc + adjS (fun a b => distN (bs a) (bs b)) (ln.drop i)), σ) := by
    intro f i acc hm hi
    rw [f_X5_sum_L85]
    refine e_gr rfl c.kx (e_K c.f3 l4.1 ?_)
    rw [c.f3]
    refine bd_rd (sp_size hO l4) (e_t (by rw [List.length_map]; exact nI_le (by omega) (by omega)) ?_)
    rw [adjS_short (by rw [List.length_drop]; omega)]
    rfl
  intro k
  induction k with
  | zero =>
    intro f i acc hm hf hi
    obtain ⟨f, rfl⟩ : ∃ z, f = z + 1 := ⟨f - 1, by omega⟩
    exact done f i acc (by omega) hi
  | succ k ih =>
    intro f i acc hm hf hi
    obtain ⟨f, rfl⟩ : ∃ z, f = z + 1 := ⟨f - 1, by omega⟩
    by_cases z : ln.length ≤ i + 1
    · exact done f i acc z hi
    · have h1 : i < ln.length := by omega
      have h2 : i + 1 < ln.length := by omega
      have hlm : (ln.map Es).length = ln.length := List.length_map ..
      have g1 : (ln.map Es)[i]? = some (Es ln[i]) := by rw [List.getElem?_map, List.getElem?_eq_getElem h1]; rfl
      have g2 : (ln.map Es)[i + 1]? = some (Es ln[i + 1]) := by rw [List.getElem?_map, List.getElem?_eq_getElem h2]; rfl
      have d1 : ln.getD i 0 = ln[i] := by rw [List.getD_eq_getElem?_getD, List.getElem?_eq_getElem h1]; rfl
      have d2 : ln.getD (i + 1) 0 = ln[i + 1] := by rw [List.getD_eq_getElem?_getD, List.getElem?_eq_getElem h2]; rfl
      have e1 := c.e (hln _ (List.getElem_mem h1))
      have e2 := c.e (hln _ (List.getElem_mem h2))
      have k1 := c.ke (hln _ (List.getElem_mem h1))
      have k2 := c.ke (hln _ (List.getElem_mem h2))
      rw [f_X5_sum_L85]
      refine e_gr rfl c.kx (e_K c.f3 l4.1 ?_)
      rw [c.f3]
      refine bd_rd (sp_size hO l4) (e_f (by rw [List.length_map]; exact nI_ge (by omega) (by omega)) (e_gr rfl c.kx (e_K c.f3 l4.1 ?_)))
      rw [c.f3, nI_pred]
      refine bd_rd (sp_get hO l4 (by omega)) ?_
      rw [g1]
      refine e_ca rfl k1 (e_gr rfl c.kx (e_K c.f3 l4.1 ?_))
      rw [c.f3]
      refine bd_rd (sp_get hO l4 (by omega)) ?_
      rw [g2]
      refine e_ca rfl k2 (bd_rd (sp_apart (by omega) hO e1 e2) ?_)
      rw [nI_add, nI_1, ih f (i + 1) _ (by omega) (by omega) (by omega), adjS_drop h2, d1, d2, Nat.add_assoc]
theorem sp_sumL {kind : Nat} (hE : 1000 ≤ E.1) (hn : n ≤ 1000) (hk : kind < 1000) (hv : LV LL GA G P) (hR : RG Es bo V G gd) (gis : GI n G) : ∀ (k f g : Nat) (σ : PS) (ln : List Nat), G.length = g + k → k < f → CB E σ A F (up LL 4 (ln.map Es)) n Es (fun i => (kd i, bs i, tw i)) GA gd → (∀ i ∈ ln, i < n) → ln.length + (flatK kind ((G.map (·.2)).drop g)).length ≤ 31 → sN σ + (flatK kind ((G.map (·.2)).drop g)).length ≤ E.2.1 → sS σ + 49 * (flatK kind ((G.map (·.2)).drop g)).length ≤ E.2.2.1 →
    wp (f_X5_sum_L28 E f (some (A 0)) (nI kind) (nI g) σ) (fun r τ => r = nI (adjS (fun a b => distN (bs a) (bs b)) (ln ++ flatK kind ((G.map (·.2)).drop g))) ∧ (∃ L, CB E τ A F (up LL 4 L) n Es (fun i => (kd i, bs i, tw i)) GA gd) ∧ Fc E σ τ ∧ Gr σ τ (flatK kind ((G.map (·.2)).drop g)).length (49 * (flatK kind ((G.map (·.2)).drop g)).length))
  | 0, f, g, σ, ln, hm, hf, c, hln, hl, h1, h2 => by
    obtain ⟨f, rfl⟩ : ∃ z, f = z + 1 := ⟨f - 1, by omega⟩
    have hO : Ok E σ := ⟨by omega, by omega⟩
    have l2 := c.l j2
    rw [up_n (show (2 : Nat) ≠ 4 by decide), hv.1] at l2
    have hgl := l2.len
    rw [List.length_map] at hgl
    rw [f_X5_sum_L28]
    refine wp_gr rfl c.kx (wp_K c.f1 l2.1 ?_)
    rw [c.f1]
    refine wp_rd (sp_size hO l2) (wp_t (by rw [List.length_map]; exact nI_le (by omega) (by omega)) ?_)
    have hd : flatK kind ((G.map (·.2)).drop g) = [] := by rw [List.drop_eq_nil_of_le (by rw [List.length_map]; omega)]; rfl
    rw [hd] at hl ⊢
    have run := sp_sumB (ln := ln) hE hO c up_s hln 40 E.1 0 0 (by show ln.length ≤ 0 + 1 + 40; have : ln.length + 0 ≤ 31 := hl; omega) (by omega) (by omega)
    rw [List.drop_zero, Nat.zero_add] at run
    refine ⟨_, σ, run, ?_, ⟨_, c⟩, Fc.rf c.wf, Gr.rf⟩
    rw [List.append_nil, Nat.zero_add]
  | k + 1, f, g, σ, ln, hm, hf, c, hln, hl, h1, h2 => by
    obtain ⟨f, rfl⟩ : ∃ z, f = z + 1 := ⟨f - 1, by omega⟩
    have hO : Ok E σ := ⟨by omega, by omega⟩
    have l2 := c.l j2
    rw [up_n (show (2 : Nat) ≠ 4 by decide), hv.1] at l2
    have hgl := l2.len
    rw [List.length_map] at hgl
    obtain ⟨p, hp⟩ := at_of (L := G) (i := g) (by omega)
    have hga := hv.2.2.1 g p hp
    have hg := c.g hga
    obtain ⟨k1, k2, k3, k4⟩ := hR g p hp
    obtain ⟨m1, m2, m3⟩ := gis g p hp
    have hdrop : (G.map (·.2)).drop g = p.2 :: (G.map (·.2)).drop (g + 1) := by
      have := drop_cons (T := G.map (·.2)) (i := g) (by rw [List.length_map]; omega) dG
      rw [gf_at hp] at this
      exact this
    have hgetG : f_Jx4a65c_get_915e3 E (some (A 2)) (nI g) σ = some (some p.1, σ) := by
      have := sp_get (i := g) hO l2 (by rw [List.length_map]; omega)
      rw [this, map_at hp]
    rw [hdrop, flatK_cons] at hl h1 h2 ⊢
    rw [f_X5_sum_L28]
    refine wp_gr rfl c.kx (wp_K c.f1 l2.1 ?_)
    rw [c.f1]
    refine wp_rd (sp_size hO l2) (wp_f (by rw [List.length_map]; exact nI_ge (by omega) (by omega)) (wp_gr rfl c.kx (wp_K c.f1 l2.1 ?_)))
    rw [c.f1]
    refine wp_rd hgetG (wp_ca rfl hg.1 (wp_gi rfl hg.1 ?_))
    rw [hg.2.1, k1]
    unfold f_X5_sum_B75
    rw [nI_1]
    by_cases z : p.2.1 = kind
    · rw [if_pos z] at hl h1 h2 ⊢
      rw [List.length_append] at hl h1 h2 ⊢
      refine wp_t (congrArg nI z) (wp_gr rfl c.kx (wp_K c.f1 l2.1 ?_))
      rw [c.f1]
      refine wp_rd hgetG (wp_ca rfl hg.1 (wp_gr rfl c.kx (wp_K rfl hg.1 ?_)))
      rw [c.f3]
      have run := sp_amL (E := E) (LL := LL) hga k3 m3 p.2.2.1.length E.1 0 σ (ln.map Es) (by omega) (by omega) c (by rw [List.length_map]; omega) (by omega) (by omega)
      refine wp_bd (wp_oM (E := E) (wp_mono run (fun _ τ q => ⟨q.2.2.bk (by omega) (by omega), q⟩))) ?_
      rintro _ s ⟨t1, t2, t3⟩
      rw [List.drop_zero, ← List.map_append] at t1
      have s1 := t3.2.2.1
      have s2 := t3.2.2.2
      refine wp_mono (sp_sumL hE hn hk hv hR gis k f (g + 1) s (ln ++ p.2.2.1) (by omega) (by omega) t1 (fun i hi => (List.mem_append.mp hi).elim (hln i) (m3 i)) (by rw [List.length_append]; omega) (by omega) (by omega)) ?_
      rintro r τ ⟨u1, u2, u3, u4⟩
      refine ⟨?_, u2, t2.tr u3, (t3.tr u4).wk (by omega) (by omega)⟩
      rw [u1, List.append_assoc]
    · rw [if_neg z] at hl h1 h2 ⊢
      exact wp_f (fun y => z ((nI_eq (by omega) (by omega)).mp y)) (sp_sumL hE hn hk hv hR gis k f (g + 1) σ ln (by omega) (by omega) c hln hl h1 h2)
theorem sp_sum (hE : 1000 ≤ E.1) (hA : AST (n, kd, bs, S)) (h : CI E σ A n kd bs S t) (hr1 : sN σ + 1000 ≤ E.2.1) (hr2 : sS σ + 60000 ≤ E.2.2.1) (v : Int32) : wp (f_X5_sum E (some (A 0)) v σ) (CE E σ A t 200 (aSum v (n, kd, bs, S), (n, kd, bs, S))) := by
  have hn : n ≤ 30 := hA.1.1
  have hO : Ok E σ := ⟨by omega, by omega⟩
  have hrf : sN σ ≤ sN σ ∧ sS σ ≤ sS σ ∧ sN σ ≤ E.2.1 ∧ sS σ ≤ E.2.2.1 := ⟨Nat.le_refl _, Nat.le_refl _, hO.1, hO.2⟩
  obtain ⟨F, Es, LL, GA, gd, tw, c, h1, hS0, hS1⟩ := h.rd2
  refine wp_oM (E := E) ?_
  unfold g_X5_sum aSum
  refine wp_rd (sp_isKind hO v) ?_
  rcases in2 v (L := 6) (by decide) with ⟨z, z2⟩ | ⟨z, z2, k, k1', rfl⟩
  · have z : v < 0 ∨ (6 : Int32) ≤ v := z
    rw [if_pos z, if_pos z]
    exact wp_t rfl (wp_ret ⟨hrf, CE.rd h h.wf⟩)
  · have z : ¬ (nI k < 0 ∨ (6 : Int32) ≤ nI k) := z
    rw [if_neg z, if_neg z]
    refine wp_f ne01 (wp_gi rfl c.kx ?_)
    rw [c.fF]
    cases S with
    | none =>
      rw [(hS0 rfl).1]
      exact wp_t rfl (wp_ret ⟨hrf, CE.rd h h.wf⟩)
    | some s0 =>
      obtain ⟨f6, f7, htw, G, P, hv, hR, hG, ht⟩ := hS1 s0 rfl
      subst htw
      have hI : AI n kd bs s0.2.1 s0.1 s0.2.2 := hA.2 s0 rfl
      have gis : GI n G := GI.of (by rw [hG]; exact hI.gis hn (fun e he => (hA.1.2 e he).1))
      rw [f6]
      refine wp_f ne01 (wp_gr rfl c.kx (wp_K c.f3 (c.l j4).1 ?_))
      rw [c.f3]
      refine wp_bd (so_clear (by omega) c.wf hO (c.l j4)) ?_
      rintro _ s ⟨t1, t2, t3⟩
      have c2 := c.lst j4 t2 t1
      have s1 := t3.2.2.1
      have s2 := t3.2.2.2
      have hfl : (flatK k (G.map (·.2))).length ≤ 30 := by
        have e1 := flatK_len k (G.map (·.2))
        rw [hG] at e1 ⊢
        have := hI.lens.1
        omega
      have hgl := c.lenG hv
      have run := sp_sumL (kind := k) (bs := bs) (kd := kd) (tw := s0.2.1) (F := F) (A := A) hE (by omega) (by omega) hv hR gis G.length E.1 0 s [] (by omega) (by omega) c2 (fun _ hx => nomatch hx) (by rw [List.drop_zero]; show 0 + _ ≤ 31; omega) (by rw [List.drop_zero]; omega) (by rw [List.drop_zero]; omega)
      rw [List.drop_zero, List.nil_append] at run
      refine wp_mono run ?_
      rintro r τ ⟨u1, ⟨L, u2⟩, u3, u4⟩
      have sz : Gr σ τ 200 9800 := (t3.tr u4).wk (by omega) (by omega)
      have fk : flatK k (G.map (·.2)) = (flat s0.2.2).filter (fun e => kd e = k) := by
        rw [hG]; exact flatK_filter k s0.2.2 (fun q hq => (hI.2.2.2.1 q hq).2.1)
      refine ⟨sz.bk (by omega) (by omega), ?_, (Fc.one t2 (c.l j4).1 (by decide)).tr u3, t, ⟨F, Es, f6, f7, G, P, L, ⟨up LL 4 L, GA, gd, u2, ⟨?_, ?_, hv.2.2.1, hv.2.2.2.1, hv.2.2.2.2⟩, hR, ?_, up_s⟩, hG, ht⟩, sz.bg (by omega) (by omega)⟩
      · rw [u1, fk]
        show _ = nI (adjS (fun a b => distN (bs a) (bs b)) ((flat s0.2.2).filter (fun e => kd e = cl (nI k))))
        rw [cl_nI (by omega)]
      · rw [up_n (by decide)]; exact hv.1
      · rw [up_n (by decide)]; exact hv.2.1
      · rw [up_n (by decide)]; exact h1
end CPS
