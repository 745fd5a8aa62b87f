/-! A CHANGED BYTE -/
theorem cont_app (bs : Nat → List Nat) (a b : List Nat) : cont bs (a ++ b) = cont bs a ++ cont bs b := List.flatMap_append
theorem cont_cons (bs : Nat → List Nat) (a : Nat) (b : List Nat) : cont bs (a :: b) = bs a ++ cont bs b := List.flatMap_cons
theorem cont_congr {bs bs' : Nat → List Nat} : ∀ {mem : List Nat}, (∀ i ∈ mem, bs i = bs' i) → cont bs mem = cont bs' mem
  | [], _ => rfl
  | a :: l, h => by rw [cont_cons, cont_cons, h a (List.mem_cons_self ..), cont_congr (fun i hi => h i (List.mem_cons_of_mem _ hi))]
theorem cont_lenc {bs bs' : Nat → List Nat} (h : ∀ i, (bs i).length = (bs' i).length) : ∀ (mem : List Nat), (cont bs mem).length = (cont bs' mem).length
  | [] => rfl
  | a :: l => by rw [cont_cons, cont_cons, List.length_append, List.length_append, h a, cont_lenc h l]
theorem ix_get {e : Nat} {l : List Nat} (h : e ∈ l) : l[ix e l]? = some e := by
  have h1 := (ix_mem e l).mpr h
  have h2 := ix_at e l h
  rw [List.getD_eq_getElem?_getD, List.getElem?_eq_getElem h1] at h2
  rw [List.getElem?_eq_getElem h1]
  exact congrArg some h2
theorem nd_split {e : Nat} {l : List Nat} (hn : l.Nodup) (h : e ∈ l) : e ∉ l.take (ix e l) ∧ e ∉ l.drop (ix e l + 1) := by
  have h1 := (set_split (y := e) (ix_get h)).1
  have h2 : (e :: (l.take (ix e l) ++ l.drop (ix e l + 1))).Nodup := by
    have p : l.Perm (e :: (l.take (ix e l) ++ l.drop (ix e l + 1))) := by
      have q := @List.perm_middle Nat e (l.take (ix e l)) (l.drop (ix e l + 1))
      rw [← h1] at q
      exact q
    exact p.nodup_iff.mp hn
  have h3 := (List.nodup_cons.mp h2).1
  exact ⟨fun z => h3 (List.mem_append_left _ z), fun z => h3 (List.mem_append_right _ z)⟩
theorem cont_swap {bs bo : Nat → List Nat} {e hr : Nat} {mem : List Nat} (hn : mem.Nodup) (h : e ∈ mem) (h1 : bs hr = bo e) (h2 : ∀ i, i ≠ e → bs i = bo i) : cont bs (mem.set (ix e mem) hr) = cont bo mem := by
  obtain ⟨s1, s2⟩ := set_split (y := hr) (ix_get h)
  obtain ⟨n1, n2⟩ := nd_split hn h
  rw [s2]
  have e2 : cont bo mem = cont bo (mem.take (ix e mem)) ++ (bo e ++ cont bo (mem.drop (ix e mem + 1))) := by
    have := congrArg (cont bo) s1
    rw [cont_app, cont_cons] at this
    exact this
  rw [e2, cont_app, cont_cons, h1, cont_congr (mem := mem.take (ix e mem)) (fun i hi => h2 i (fun z => n1 (by rw [z] at hi; exact hi))), cont_congr (mem := mem.drop (ix e mem + 1)) (fun i hi => h2 i (fun z => n2 (by rw [z] at hi; exact hi)))]
def heirOf (n : Nat) (tw : Nat → Nat) (e : Nat) : Option Nat := firstF (fun j => j ≠ e ∧ tw j = e) n 0
def twH (tw : Nat → Nat) (e hr : Nat) : Nat → Nat := fun j => if j ≠ e ∧ tw j = e then hr else tw j
def chgG (n : Nat) (kd : Nat → Nat) (bs : Nat → List Nat) (bd : Nat) (tw : Nat → Nat) (gs : List Grp) (e : Nat) : (Nat → Nat) × List Grp × Nat :=
  if tw e = e then match heirOf n tw e with
    | none => (tw, gs, gx e gs)
    | some hr => (twH tw e hr, (putE bs bd (kd e) e (swapG e hr gs)).1, (putE bs bd (kd e) e (swapG e hr gs)).2)
  else (up tw e e, (putE bs bd (kd e) e gs).1, (putE bs bd (kd e) e gs).2)
def anewG (gs : List Grp) (h : Nat) : List Grp := gs.set h ((gs.getD h dG).1, (gs.getD h dG).2.1, (gs.getD h dG).2.2 + 1)
theorem flat_set_same : ∀ (gs : List Grp) (h : Nat) (k a : Nat), flat (gs.set h (k, (gs.getD h dG).2.1, a)) = flat gs
  | [], h, k, a => rfl
  | q :: r, 0, k, a => by show flat ((k, q.2.1, a) :: r) = _; rw [flat_cons, flat_cons]
  | q :: r, h + 1, k, a => by
    show flat (q :: r.set h (k, (r.getD h dG).2.1, a)) = _
    rw [flat_cons, flat_cons, flat_set_same r h k a]
theorem AI.anew {n : Nat} {kd tw : Nat → Nat} {bs : Nat → List Nat} {bd : Nat} {gs : List Grp} (h : AI n kd bs tw bd gs) (i : Nat) : AI n kd bs tw bd (anewG gs i) := by
  obtain ⟨h1, h2, h3, h4, h5⟩ := h
  have hf : flat (anewG gs i) = flat gs := flat_set_same gs i _ _
  refine ⟨h1, by rw [hf]; exact h2, fun e => by rw [hf]; exact h3 e, fun q hq => ?_, h5⟩
  obtain ⟨j, hj⟩ := List.getElem?_of_mem hq
  unfold anewG at hj
  rw [List.getElem?_set] at hj
  by_cases z : i = j
  · rw [if_pos z] at hj
    by_cases y : i < gs.length
    · rw [if_pos y] at hj
      cases hj
      obtain ⟨p, hp⟩ := at_of y
      rw [getD_of hp]
      exact h4 p (List.mem_of_getElem? hp)
    · rw [if_neg y] at hj; cases hj
  · rw [if_neg z] at hj
    exact h4 q (List.mem_of_getElem? hj)
theorem swapG_mem {e hr : Nat} : ∀ {gs : List Grp} {q : Grp}, q ∈ swapG e hr gs → q ∈ gs ∨ ∃ q0 ∈ gs, e ∈ q0.2.1 ∧ q = (q0.1, q0.2.1.set (ix e q0.2.1) hr, q0.2.2)
  | [], q, h => nomatch h
  | p :: r, q, h => by
    unfold swapG at h
    by_cases z : e ∈ p.2.1
    · rw [if_pos z] at h
      rcases List.mem_cons.mp h with h | h
      · exact Or.inr ⟨p, List.mem_cons_self .., z, h⟩
      · exact Or.inl (List.mem_cons_of_mem _ h)
    · rw [if_neg z] at h
      rcases List.mem_cons.mp h with h | h
      · exact Or.inl (h ▸ List.mem_cons_self ..)
      · rcases swapG_mem h with w | ⟨q0, w1, w2⟩
        · exact Or.inl (List.mem_cons_of_mem _ w)
        · exact Or.inr ⟨q0, List.mem_cons_of_mem _ w1, w2⟩
theorem nd_sub : ∀ {gs : List Grp} {q : Grp}, (flat gs).Nodup → q ∈ gs → q.2.1.Nodup
  | [], q, _, h => nomatch h
  | p :: r, q, hn, h => by
    rw [flat_cons] at hn
    have := List.nodup_append.mp hn
    rcases List.mem_cons.mp h with h | h
    · rw [h]; exact this.1
    · exact nd_sub this.2.1 h
/-- what is in the rows behind an exchange -/
theorem swap_flat {e hr : Nat} {gs : List Grp} (hn : (flat gs).Nodup) (he : e ∈ flat gs) : ∃ R, (flat gs).Perm (e :: R) ∧ (flat (swapG e hr gs)).Perm (hr :: R) := by
  obtain ⟨s1, s2⟩ := set_split (y := hr) (ix_get he)
  refine ⟨(flat gs).take (ix e (flat gs)) ++ (flat gs).drop (ix e (flat gs) + 1), ?_, ?_⟩
  · have q := @List.perm_middle Nat e ((flat gs).take (ix e (flat gs))) ((flat gs).drop (ix e (flat gs) + 1))
    rw [← s1] at q
    exact q
  · rw [flat_swap, s2]
    exact List.perm_middle
theorem chg_AI {n : Nat} {kd tw : Nat → Nat} {bo bs : Nat → List Nat} {bd e : Nat} {gs : List Grp} (h : AI n kd bo tw bd gs) (he : e < n) (hl : (bs e).length = (bo e).length) (hl2 : (bs e).length ≤ 60) (hb : ∀ i, i ≠ e → bs i = bo i) : AI n kd bs (chgG n kd bs bd tw gs e).1 bd (chgG n kd bs bd tw gs e).2.1 := by
  obtain ⟨h1, h2, h3, h4, h5⟩ := id h
  have hlen : ∀ i, (bs i).length = (bo i).length := fun i => by
    by_cases z : i = e
    · rw [z]; exact hl
    · rw [hb i z]
  have h4' : ∀ q ∈ gs, q.2.1 ≠ [] ∧ (∀ e ∈ q.2.1, kd e = q.1) ∧ (cont bs q.2.1).length ≤ 400 := fun q hq => ⟨(h4 q hq).1, (h4 q hq).2.1, by rw [cont_lenc hlen]; exact (h4 q hq).2.2⟩
  unfold chgG
  by_cases z : tw e = e
  · rw [if_pos z]
    have hef : e ∈ flat gs := (h3 e).mpr ⟨he, z⟩
    cases ho : heirOf n tw e with
    | none =>
      refine ⟨fun j hj => ?_, h2, h3, h4', h5⟩
      obtain ⟨a1, a2, a3, a4⟩ := h1 j hj
      refine ⟨a1, a2, a3, ?_⟩
      show bs (tw j) = bs j
      by_cases y : j = e
      · rw [y, z]
      · have : tw j ≠ e := fun w => firstF_none _ _ _ ho j (Nat.zero_le _) (by omega) ⟨y, w⟩
        rw [hb _ this, hb _ y]
        exact a4
    | some hr =>
      obtain ⟨⟨b1, b2⟩, -, b3, -⟩ := firstF_some _ _ _ _ ho
      have b3 : hr < n := by omega
      obtain ⟨R, p1, p2⟩ := swap_flat (hr := hr) h2 hef
      have nR := List.nodup_cons.mp (p1.nodup_iff.mp h2)
      have hrf : hr ∉ flat gs := fun w => b1 (((h3 hr).mp w).2.symm.trans b2)
      have hrR : hr ∉ R := fun w => hrf (p1.mem_iff.mpr (List.mem_cons_of_mem _ w))
      have kdr : kd hr = kd e := by rw [← (h1 hr b3).2.2.1, b2]
      have bsr : bo hr = bo e := by rw [← (h1 hr b3).2.2.2, b2]
      have te : twH tw e hr e = e := by unfold twH; rw [if_neg (fun w => w.1 rfl)]; exact z
      have th : ∀ j, j ≠ e → tw j = e → twH tw e hr j = hr := fun j w1 w2 => by unfold twH; rw [if_pos ⟨w1, w2⟩]
      have tn : ∀ j, tw j ≠ e → twH tw e hr j = tw j := fun j w => by unfold twH; rw [if_neg (fun y => w y.2)]
      have thr : twH tw e hr hr = hr := th hr b1 b2
      show AI n kd bs (twH tw e hr) bd (putE bs bd (kd e) e (swapG e hr gs)).1
      refine AI.put (tw := tw) (tw' := twH tw e hr) (p2.nodup_iff.mpr (List.nodup_cons.mpr ⟨hrR, nR.2⟩)) (fun q hq => ?_) h5 (fun j hj => ?_) ?_ hl2 (fun i => ?_)
      · rcases swapG_mem hq with w | ⟨q0, w1, w2, w3⟩
        · exact h4' q w
        · rw [w3]
          have g0 := h4 q0 w1
          refine ⟨fun w => g0.1 ?_, fun i hi => ?_, ?_⟩
          · have := congrArg List.length w
            rw [List.length_set] at this
            exact List.eq_nil_of_length_eq_zero this
          · rcases List.mem_or_eq_of_mem_set hi with w | w
            · exact g0.2.1 i w
            · rw [w, kdr]; exact g0.2.1 e w2
          · show (cont bs (q0.2.1.set (ix e q0.2.1) hr)).length ≤ 400
            rw [cont_swap (bo := bo) (nd_sub h2 w1) w2 (by rw [hb hr b1]; exact bsr) hb]
            exact g0.2.2
      · obtain ⟨a1, a2, a3, a4⟩ := h1 j hj
        by_cases y : j = e
        · rw [y, te]; exact ⟨he, te, rfl, rfl⟩
        · by_cases w : tw j = e
          · rw [th j y w]
            refine ⟨b3, thr, ?_, ?_⟩
            · rw [kdr, ← a3, w]
            · rw [hb hr b1, hb j y, bsr, ← a4, w]
          · rw [tn j w]
            refine ⟨a1, ?_, a3, ?_⟩
            · rw [tn (tw j) (by rw [a2]; exact w)]; exact a2
            · rw [hb _ w, hb _ y]; exact a4
      · intro w
        rcases List.mem_cons.mp (p2.mem_iff.mp w) with w | w
        · exact b1 w.symm
        · exact nR.1 w
      · rw [p2.mem_iff, List.mem_cons]
        constructor
        · rintro ((w | w) | w)
          · rw [w]; exact ⟨b3, thr⟩
          · have w2 := (h3 i).mp (p1.mem_iff.mpr (List.mem_cons_of_mem _ w))
            have w3 : i ≠ e := fun y => nR.1 (y ▸ w)
            exact ⟨w2.1, by rw [tn i (by rw [w2.2]; exact w3)]; exact w2.2⟩
          · rw [w]; exact ⟨he, te⟩
        · rintro ⟨w1, w2⟩
          by_cases y : i = e
          · exact Or.inr y
          · by_cases w : tw i = e
            · rw [th i y w] at w2
              exact Or.inl (Or.inl w2.symm)
            · rw [tn i w] at w2
              have := p1.mem_iff.mp ((h3 i).mpr ⟨w1, w2⟩)
              rcases List.mem_cons.mp this with v | v
              · exact absurd v y
              · exact Or.inl (Or.inr v)
  · rw [if_neg z]
    have hne : ∀ j, j < n → tw j ≠ e := fun j hj w => z (by have := (h1 j hj).2.1; rw [w] at this; exact this)
    have hef : e ∉ flat gs := fun w => z ((h3 e).mp w).2
    show AI n kd bs (up tw e e) bd (putE bs bd (kd e) e gs).1
    refine AI.put (tw := tw) (tw' := up tw e e) h2 h4' h5 (fun j hj => ?_) hef hl2 (fun i => ?_)
    · obtain ⟨a1, a2, a3, a4⟩ := h1 j hj
      by_cases y : j = e
      · rw [y, up_s]; exact ⟨he, up_s, rfl, rfl⟩
      · rw [up_n y]
        refine ⟨a1, ?_, a3, ?_⟩
        · rw [up_n (hne j hj)]; exact a2
        · rw [hb _ (hne j hj), hb _ y]; exact a4
    · constructor
      · rintro (w | w)
        · have w2 := (h3 i).mp w
          have w3 : i ≠ e := fun y => hef (y ▸ w)
          exact ⟨w2.1, by rw [up_n w3]; exact w2.2⟩
        · rw [w]; exact ⟨he, up_s⟩
      · rintro ⟨w1, w2⟩
        by_cases y : i = e
        · exact Or.inr y
        · rw [up_n y] at w2
          exact Or.inl ((h3 i).mpr ⟨w1, w2⟩)
theorem gx_uniq (e : Nat) : ∀ (gs : List Grp) (i : Nat) (q : Grp), (flat gs).Nodup → gs[i]? = some q → e ∈ q.2.1 → gx e gs = i
  | [], i, q, _, h, _ => by cases h
  | p :: r, 0, q, hn, h, he => by
    have h : some p = some q := h
    cases h
    rw [gx_cons, if_pos he]
  | p :: r, i + 1, q, hn, h, he => by
    have h : r[i]? = some q := h
    rw [flat_cons] at hn
    have hd := List.nodup_append.mp hn
    have hm : e ∈ flat r := mem_flat.mpr ⟨q, List.mem_of_getElem? h, he⟩
    rw [gx_cons, if_neg (fun z => hd.2.2 e z e hm rfl), gx_uniq e r i q hd.2.1 h he]
theorem AI.free {n : Nat} {L : List Nat} {e : Nat} (h : L.Nodup) (hl : ∀ x ∈ L, x < n) (he : e < n) (hx : e ∉ L) : L.length + 1 ≤ n :=
  nodup_len n (e :: L) (List.nodup_cons.mpr ⟨hx, h⟩) (fun x z => (List.mem_cons.mp z).elim (fun w => w ▸ he) (hl x))
def GIs (n : Nat) (gs : List Grp) : Prop := ∀ q ∈ gs, q.1 < 1000 ∧ q.2.1.length ≤ 30 ∧ ∀ j ∈ q.2.1, j < n
theorem AI.gis {n : Nat} {kd tw : Nat → Nat} {bs : Nat → List Nat} {bd : Nat} {gs : List Grp} (h : AI n kd bs tw bd gs) (hn : n ≤ 30) (hk : ∀ e, e < n → kd e < 6) : GIs n gs := by
  intro q hq
  have hm : ∀ j ∈ q.2.1, j < n := fun j hj => ((h.2.2.1 j).mp (mem_flat.mpr ⟨q, hq, hj⟩)).1
  refine ⟨?_, ?_, hm⟩
  · obtain ⟨h1, h2, -⟩ := h.2.2.2.1 q hq
    cases hc : q.2.1 with
    | nil => exact absurd hc h1
    | cons a l =>
      have ha : a ∈ q.2.1 := by rw [hc]; exact List.mem_cons_self ..
      have := h2 a ha
      have := hk a (hm a ha)
      omega
  · have := mem_len gs q hq
    have := h.lens.1
    omega
theorem GIs.swap {n e hr : Nat} {gs : List Grp} (h : GIs n gs) (hhr : hr < n) : GIs n (swapG e hr gs) := by
  intro q hq
  rcases swapG_mem hq with w | ⟨q0, w1, w2, w3⟩
  · exact h q w
  · obtain ⟨a, b, c⟩ := h q0 w1
    rw [w3]
    refine ⟨a, by show (q0.2.1.set _ _).length ≤ 30; rw [List.length_set]; exact b, fun j hj => ?_⟩
    rcases List.mem_or_eq_of_mem_set hj with w | w
    · exact c j w
    · rw [w]; exact hhr
theorem swapG_len (e hr : Nat) : ∀ gs : List Grp, (swapG e hr gs).length = gs.length
  | [] => rfl
  | q :: r => by
    unfold swapG
    by_cases z : e ∈ q.2.1
    · rw [if_pos z]; rfl
    · rw [if_neg z, List.length_cons, swapG_len e hr r, List.length_cons]
theorem swapG_ne {e hr : Nat} {gs : List Grp} (h : ∀ q ∈ gs, q.2.1 ≠ []) : ∀ q ∈ swapG e hr gs, q.2.1 ≠ [] := by
  intro q hq
  rcases swapG_mem hq with w | ⟨q0, w1, w2, w3⟩
  · exact h q w
  · rw [w3]
    intro w
    have := congrArg List.length w
    rw [List.length_set] at this
    exact h q0 w1 (List.eq_nil_of_length_eq_zero this)
