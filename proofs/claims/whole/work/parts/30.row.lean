/-- only the class's own things are changed -/
def Fc (E : PE) (σ τ : PS) : Prop := Fo E σ τ (fun b => ∀ k, sK σ b = some k → k ≠ 7)
theorem Fc.rf {E : PE} {σ : PS} (hw : Wf E σ) : Fc E σ σ := Fo.rf hw
theorem Fc.tr {E : PE} {σ τ ρ : PS} (h : Fc E σ τ) (k : Fc E τ ρ) : Fc E σ ρ := Fo.tr h k (fun _ z => z) (fun b z q hq => z q (h.k hq))
theorem Fc.of {E : PE} {σ τ : PS} {S : Nat → Prop} (h : Fo E σ τ S) (hS : ∀ b, S b → ∃ k, sK σ b = some k ∧ k ≠ 7) : Fc E σ τ := h.wk (fun b z q hq => by
  obtain ⟨k, e1, e2⟩ := hS b z
  cases e1.symm.trans hq
  exact e2)
theorem Fc.one {E : PE} {σ τ : PS} {a k : Nat} (h : Fo E σ τ (fun b => b = a)) (ha : sK σ a = some k) (hk : k ≠ 7) : Fc E σ τ := Fc.of h (fun b z => ⟨k, by rw [z]; exact ha, hk⟩)
section CBS
variable {E : PE} {σ τ : PS} {A : Nat → Nat} {F : Nat → Int32} {LL : Nat → List Nat} {n : Nat} {Es : Nat → Nat} {ed : Nat → Nat × List Nat × Nat} {GA : Nat → Prop} {gd : Nat → Nat × Nat × List Nat × List (Nat × Nat × Nat)}
theorem Rt.ko2 (h : Rt σ A F) {S : Nat → Prop} (hf : Fo E σ τ S) (h0 : ¬ S (A 0)) (h5 : ¬ S (A 5)) (h7 : ∃ c, isM τ (A 7) (A 8) c) : Rt τ A F := by
  obtain ⟨⟨⟨x1, x2, x3, x4, x5, x6, x7⟩, xF⟩, ⟨a1, a2, ⟨sa, a3⟩, ⟨ua, a4⟩⟩, -⟩ := h
  obtain ⟨dx, -⟩ := hf.2.2 _ 6 x1 (by omega) h0
  obtain ⟨da, du⟩ := hf.2.2 _ 1 a1 (by omega) h5
  refine ⟨⟨⟨hf.k x1, ?_, ?_, ?_, ?_, ?_, ?_⟩, fun k => by rw [dx.2.1]; exact xF k⟩, ⟨hf.k a1, ?_, ⟨sa, ?_⟩, ⟨ua, ?_⟩⟩, h7⟩
  · rw [dx.2.2.1]; exact x2
  · rw [dx.2.2.1]; exact x3
  · rw [dx.2.2.1]; exact x4
  · rw [dx.2.2.1]; exact x5
  · rw [dx.2.2.1]; exact x6
  · rw [dx.2.2.1]; exact x7
  · rw [da.2.2.1]; exact a2
  · exact ⟨by rw [da.2.2.1]; exact a3.1, hf.k a3.2.1, by rw [(du 1 sa 100 a3.1 a3.2.1 (Nat.le_refl _)).1]; exact a3.2.2⟩
  · exact ⟨by rw [da.2.2.1]; exact a4.1, hf.k a4.2.1, by rw [(du 2 ua 100 a4.1 a4.2.1 (Nat.le_refl _)).1]; exact a4.2.2⟩
/-- one group and the row maker are changed -/
theorem CB.grp2 (h : CB E σ A F LL n Es ed GA gd) {g : Nat} {S : Nat → Prop} {d : Nat × Nat × List Nat × List (Nat × Nat × Nat)} (hg : GA g) (hf : Fo E σ τ S) (hS : ∀ b, S b → b = A 7 ∨ gA σ g b) (hc : ∃ c, isM τ (A 7) (A 8) c) (hG : isG E τ g d.1 d.2.1 d.2.2.1 d.2.2.2) : CB E τ A F LL n Es ed GA (up gd g d) := by
  have no : ∀ {b k : Nat}, sK σ b = some k → k ≠ 3 → k ≠ 0 → k ≠ 5 → k ≠ 4 → ¬ S b := by
    intro b k hb n1 n2 n3 n4 z
    rcases hS b z with e | e
    · rw [e] at hb; exact n4 (Option.some.inj (hb.symm.trans h.km))
    · rcases (h.g hg).parts e with e | e | e
      · exact n1 (Option.some.inj (hb.symm.trans e.2))
      · exact n2 (Option.some.inj (hb.symm.trans e.2))
      · exact n3 (Option.some.inj (hb.symm.trans e.2))
  refine ⟨hf.wf, h.rt.ko2 hf (no h.kx (by decide) (by decide) (by decide) (by decide)) (no h.ka (by decide) (by decide) (by decide) (by decide)) hc, fun j hj => (h.l hj).ko hf (fun z => ?_), fun i hi => (h.e hi).ko hf (no (h.ke hi) (by decide) (by decide) (by decide) (by decide)), fun k hk => ?_⟩
  · rcases hS _ z with e | e
    · exact kne (h.l hj).1 h.km (by decide) e
    · rcases (h.g hg).parts e with e | e | e
      · cases e.2.symm.trans (h.l hj).1
      · exact h.gl (h.g hg).1 e.1 e.2 hj rfl
      · cases e.2.symm.trans (h.l hj).1
  · by_cases z : k = g
    · subst z; rw [up_s]; exact hG
    · rw [up_n z]
      refine (h.g hk).ko hf (fun b hb y => ?_)
      rcases hS b y with e | e
      · rw [e] at hb
        rcases (h.g hk).parts hb with e | e | e
        · cases e.2.symm.trans h.km
        · cases e.2.symm.trans h.km
        · cases e.2.symm.trans h.km
      · exact gA.dis h.wf (h.g hk) (h.g hg) z hb e
theorem sp_rowL {r cb g t : Nat} {c : List Nat} (hE : 1000 ≤ E.1) : ∀ (k n p : Nat) (σ : PS) (T : List (Nat × Nat × Nat)), c.length ≤ p + k → k < n → p ≤ c.length → Wf E σ → Ok E σ → isM σ r cb c → sK σ g = some 3 → sR σ 3 1 g = some t → isT σ t T → T.length ≤ p →
    wp (f_X3_makeRow_L17 E n (some r) (some g) (nI p) σ) (fun _ τ => isM τ r cb c ∧ isT τ t (T ++ tokF c k p) ∧ Fo E σ τ (fun b => b = r ∨ b = t) ∧ Sk σ τ)
  | 0, n, p, σ, T, hk, hn, hp, hw, hO, h, hg, hr, ht, hT => by
    obtain ⟨n, rfl⟩ : ∃ z, n = z + 1 := ⟨n - 1, by omega⟩
    have hl := h.2.2.2.1
    rw [f_X3_makeRow_L17]
    refine wp_gi rfl h.1 ?_
    rw [h.2.2.1]
    refine wp_t (nI_le (by omega) (by omega)) (wp_ret ⟨h, ?_, Fo.rf hw, Sk.rf⟩)
    show isT σ t (T ++ [])
    rw [List.append_nil]
    exact ht
  | k + 1, n, p, σ, T, hk, hn, hp, hw, hO, h, hg, hr, ht, hT => by
    obtain ⟨n, rfl⟩ : ∃ z, n = z + 1 := ⟨n - 1, by omega⟩
    have hl := h.2.2.2.1
    rw [f_X3_makeRow_L17]
    refine wp_gi rfl h.1 ?_
    rw [h.2.2.1]
    by_cases hend : c.length ≤ p
    · refine wp_t (nI_le hend (by omega)) (wp_ret ⟨h, ?_, Fo.rf hw, Sk.rf⟩)
      unfold tokF
      rw [if_pos hend, List.append_nil]
      exact ht
    · refine wp_f (nI_ge (by omega) (by omega)) (wp_K rfl h.1 (wp_bd (sp_findCopy hE hO h (by omega)) ?_))
      rintro _ s ⟨m1, m2, m3, m4, m5⟩
      have fo : Fo E σ s (fun b => b = r) := Fo.one hw (m5.wf hw) h.1 (by decide) m4
      have trn : t ≠ r := kne ht.1 h.1 (by decide)
      have hts := ht.ko fo trn
      have hgs : sK s g = some 3 := fo.k hg
      have hrs : sR s 3 1 g = some t := by rw [m5.2.2.1]; exact hr
      have hle := fc_le c p (min 60 (c.length - p)) p
      have hws := m5.wf hw
      have hOs := m5.ok hO
      refine wp_gi rfl m1.1 ?_
      rw [m3]
      by_cases h4 : (fc c p (min 60 (c.length - p)) p).2 < 4
      · have hx : sA s cb p = nI (c.getD p 0) := m1.2.2.2.2.2 p (by omega)
        obtain ⟨-, ⟨c1, c2, c3⟩, -⟩ := id m1
        refine wp_t (show nI _ < nI 4 from nI_lt h4 (by omega)) (wp_gr rfl hgs (wp_gr rfl m1.1 (wp_al c1 rfl c2 (by omega) (by omega) ?_)))
        rw [hx]
        refine wp_K hrs hts.1 ?_
        rw [hrs]
        refine wp_bd (sp_addByte hws hOs hts (by omega)) ?_
        rintro _ s2 ⟨t1, t2, t3⟩
        have fo2 := Fo.row hws hts t2 t3
        rw [nI_1]
        refine wp_mono (sp_rowL hE k n (p + 1) s2 (T ++ [(c.getD p 0, 0, 1)]) (by omega) (by omega) (by omega) (t3.wf hws) (t3.ok hOs) (m1.ko fo2 (fun z => trn z.symm)) (fo2.k hgs) (by rw [t3.2.2.1]; exact hrs) t1 (by rw [List.length_append]; show T.length + 1 ≤ _; omega)) ?_
        rintro _ τ ⟨u1, u2, u3, u4⟩
        refine ⟨u1, ?_, (fo.tr fo2 (fun b z => Or.inl z) (fun b z => Or.inr z)).tr u3 (fun _ z => z) (fun _ z => z), (m5.tr t3).tr u4⟩
        unfold tokF
        rw [if_neg hend, if_pos h4]
        rw [List.append_assoc] at u2
        exact u2
      · have hpos := fc_pos c p (min 60 (c.length - p)) p (by omega)
        refine wp_f (show ¬ nI _ < nI 4 from nI_nlt (by omega) (by omega)) (wp_gr rfl hgs (wp_gi rfl m1.1 (wp_gi rfl m1.1 (wp_K hrs hts.1 ?_))))
        rw [hrs, m2, m3]
        refine wp_bd (sp_addCopy hws hOs hts (by omega) hpos.1) ?_
        rintro _ s2 ⟨t1, t2, t3⟩
        have fo2 := Fo.row hws hts t2 t3
        have m1' := m1.ko fo2 (fun z => trn z.symm)
        have hI : sI s2 4 3 r = nI (fc c p (min 60 (c.length - p)) p).2 := by rw [(fo2.2.2 r 4 m1.1 (by omega) (fun z => trn z.symm)).1.2.1]; exact m3
        refine wp_gi rfl m1'.1 ?_
        rw [hI, nI_add]
        refine wp_mono (sp_rowL hE k n (p + (fc c p (min 60 (c.length - p)) p).2) s2 (T ++ [(0, (fc c p (min 60 (c.length - p)) p).1, (fc c p (min 60 (c.length - p)) p).2)]) (by omega) (by omega) (by omega) (t3.wf hws) (t3.ok hOs) m1' (fo2.k hgs) (by rw [t3.2.2.1]; exact hrs) t1 (by rw [List.length_append]; show T.length + 1 ≤ _; omega)) ?_
        rintro _ τ ⟨u1, u2, u3, u4⟩
        refine ⟨u1, ?_, (fo.tr fo2 (fun b z => Or.inl z) (fun b z => Or.inr z)).tr u3 (fun _ z => z) (fun _ z => z), (m5.tr t3).tr u4⟩
        unfold tokF
        rw [if_neg hend, if_neg h4]
        rw [List.append_assoc] at u2
        exact u2
/-- what a group's members tell -/
def cont (bo : Nat → List Nat) (mem : List Nat) : List Nat := mem.flatMap bo
theorem cont_map (ed : Nat → Nat × List Nat × Nat) {bo : Nat → List Nat} {Es : Nat → Nat} (mem : List Nat) (h : ∀ i ∈ mem, bo (Es i) = (ed i).2.1) : (mem.map Es).flatMap bo = cont (fun i => (ed i).2.1) mem := by
  unfold cont
  induction mem with
  | nil => rfl
  | cons a l ih =>
    rw [List.map_cons, List.flatMap_cons, List.flatMap_cons, h a (List.mem_cons_self ..), ih (fun i hi => h i (List.mem_cons_of_mem _ hi))]
theorem sp_makeRow (hE : 1000 ≤ E.1) (hn : n ≤ 1000) (hO : Ok E σ) (h : CB E σ A F LL n Es ed GA gd) {g : Nat} {mem : List Nat} (hg : GA g) (hm : (gd g).2.2.1 = mem.map Es) (hmem : ∀ i ∈ mem, i < n) (hl : (cont (fun i => (ed i).2.1) mem).length ≤ 400) :
    wp (f_X3_makeRow E (some (A 7)) (some g) σ) (fun _ τ => CB E τ A F LL n Es ed GA (up gd g ((gd g).1, (gd g).2.1, (gd g).2.2.1, toks (cont (fun i => (ed i).2.1) mem))) ∧ Fc E σ τ ∧ Gr σ τ 0 0) := by
  obtain ⟨c0, hc⟩ := h.rt.2.2
  have hG := h.g hg
  obtain ⟨g1, g2, g3, ml, t, ⟨r1, r2⟩, ⟨q1, q2⟩⟩ := id hG
  rw [hm] at r2
  -- the bytes by address
  have hbo : ∃ bo : Nat → List Nat, ∀ i, i < n → bo (Es i) = (ed i).2.1 := by
    refine ⟨fun a => if hx : ∃ i, i < n ∧ Es i = a then (ed (Classical.choose hx)).2.1 else [], fun i hi => ?_⟩
    have hx : ∃ j, j < n ∧ Es j = Es i := ⟨i, hi, rfl⟩
    have := Classical.choose_spec hx
    show (if hx : ∃ j, j < n ∧ Es j = Es i then (ed (Classical.choose hx)).2.1 else []) = _
    rw [dif_pos hx, h.ei this.1 hi hn this.2]
  obtain ⟨bo, hbo⟩ := hbo
  have ec := cont_map ed (bo := bo) (Es := Es) mem (fun i hi => hbo i (hmem i hi))
  have trm : t ≠ A 7 := kne q2.1 h.km (by decide)
  refine wp_oM (E := E) ?_
  unfold g_X3_makeRow
  refine wp_gr rfl g1 (wp_K rfl h.km ?_)
  rw [r1]
  refine wp_bd (sp_gather (bo := bo) hE h.wf hO hc r2 (fun e he => ?_) (by rw [ec]; exact hl)) ?_
  · obtain ⟨i, hi, rfl⟩ := List.mem_map.mp he
    have := h.e (hmem i hi)
    rw [← hbo i (hmem i hi)] at this
    exact ⟨_, _, _, this⟩
  rintro _ s ⟨m1, m2, m3⟩
  rw [ec] at m1
  have fo : Fo E σ s (fun b => b = A 7) := Fo.own h.wf (m3.wf h.wf) leaf4 hc.1 m2
  have ts := q2.ko fo trm
  have hrs : sR s 3 1 g = some t := by rw [m3.2.2.1]; exact q1
  refine wp_gr rfl (fo.k g1) (wp_K hrs ts.1 ?_)
  rw [hrs]
  refine wp_bd (sp_tclear (m3.ok hO) ts) ?_
  rintro _ s2 ⟨t1, t2, t3⟩
  have fo2 : Fo E s s2 (fun b => b = t) := Fo.one (m3.wf h.wf) (t3.wf (m3.wf h.wf)) ts.1 (by decide) t2
  have m12 := m1.ko fo2 (fun z => trm z.symm)
  have hcl := m1.2.2.2.1
  refine wp_mono (sp_rowL (r := A 7) (cb := A 8) (g := g) (t := t) hE (cont (fun i => (ed i).2.1) mem).length E.1 0 s2 [] (by omega) (by omega) (by omega) (t3.wf (m3.wf h.wf)) (t3.ok (m3.ok hO)) m12 (fo2.k (fo.k g1)) (by rw [t3.2.2.1]; exact hrs) t1 (Nat.le_refl _)) ?_
  rintro _ τ ⟨u1, u2, u3, u4⟩
  have sk := (m3.tr t3).tr u4
  have foA : Fo E σ τ (fun b => b = A 7 ∨ b = t) := (fo.tr fo2 (fun b z => Or.inl z) (fun b z => Or.inr z)).tr u3 (fun _ z => z) (fun _ z => z)
  refine ⟨sk.bk hO, ?_, Fc.of foA (fun b z => ?_), sk.gr⟩
  · refine h.grp2 hg foA (fun b z => ?_) ⟨_, u1⟩ ?_
    · rcases z with z | z
      · exact Or.inl z
      · rw [z]; exact Or.inr (Or.inr (Or.inr q1))
    · have ngS : ¬ (g = A 7 ∨ g = t) := fun z => z.elim (kne g1 h.km (by decide)) (kne g1 q2.1 (by decide))
      obtain ⟨dg, -⟩ := foA.2.2 g 3 g1 (by omega) ngS
      refine ⟨foA.k g1, by rw [dg.2.1]; exact g2, by rw [dg.2.1]; exact g3, ml, t, ⟨by rw [dg.2.2.1]; exact r1, ?_⟩, ⟨by rw [dg.2.2.1]; exact q1, ?_⟩⟩
      · show isL E τ ml (gd g).2.2.1
        rw [hm]
        exact r2.ko foA (fun z => z.elim (kne r2.1 h.km (by decide)) (kne r2.1 q2.1 (by decide)))
      · exact u2
  · rcases z with z | z
    · exact ⟨4, by rw [z]; exact h.km, by decide⟩
    · exact ⟨5, by rw [z]; exact q2.1, by decide⟩
end CBS
