/-! whose a cell is -/
def own (σ : PS) (c a d : Nat) : Prop := d = a ∨ ∃ k, sR σ c k a = some d
theorem ex_own {σ : PS} {e b : Nat} (h : ex σ e b) : own σ 2 e b := by
  rcases h with h | h | h
  · exact Or.inl h
  · exact Or.inr ⟨2, h⟩
  · exact Or.inr ⟨3, h⟩
theorem tx_own {σ : PS} {e b : Nat} (h : tx σ e b) : own σ 5 e b := by
  rcases h with h | h | h | h
  · exact Or.inl h
  · exact Or.inr ⟨0, h⟩
  · exact Or.inr ⟨1, h⟩
  · exact Or.inr ⟨2, h⟩
theorem lx_own {σ : PS} {e b : Nat} (h : lx σ e b) : own σ 0 e b := by
  rcases h with h | h
  · exact Or.inl h
  · exact Or.inr ⟨1, h⟩
/-- a class whose fields hold arrays alone -/
def leafC (c : Nat) : Prop := c < 100 ∧ ∀ k, 100 ≤ tyK c k
theorem leaf0 : leafC 0 := ⟨by decide, fun _ => by show 100 ≤ 102; decide⟩
theorem leaf2 : leafC 2 := ⟨by decide, fun _ => Nat.le_refl 100⟩
theorem leaf4 : leafC 4 := ⟨by decide, fun _ => Nat.le_refl 100⟩
theorem leaf5 : leafC 5 := ⟨by decide, fun _ => Nat.le_refl 100⟩
theorem leaf7 : leafC 7 := ⟨by decide, fun _ => Nat.le_refl 100⟩
theorem own.dis {E : PE} {σ : PS} {c c' a a' d kd : Nat} (hw : Wf E σ) (l : leafC c) (l' : leafC c') (ha : sK σ a = some c) (ha' : sK σ a' = some c') (hne : a ≠ a') (hd : sK σ d = some kd) (h1 : own σ c a d) (h2 : own σ c' a' d) : False := by
  have hl := l.1
  have hl' := l'.1
  rcases h1 with h1 | ⟨k, h1⟩
  · rcases h2 with h2 | ⟨k', h2⟩
    · exact hne (h1.symm.trans h2)
    · have e := hw.ty ha' h2 hd
      rw [h1] at hd
      cases ha.symm.trans hd
      have := l'.2 k'
      omega
  · rcases h2 with h2 | ⟨k', h2⟩
    · have e := hw.ty ha h1 hd
      rw [h2] at hd
      cases ha'.symm.trans hd
      have := l.2 k
      omega
    · exact hne (hw.uo ha ha' h1 h2 hd).2.2
theorem isE.kept {E : PE} {σ τ : PS} {e num kd tw : Nat} {bs : List Nat} {X : Nat → Prop} (hw : Wf E σ) (h : isE σ e num kd bs tw) (hf : Fr σ τ X) (hX : ∀ d k, own σ 2 e d → sK σ d = some k → ¬ X d) : isE τ e num kd bs tw := by
  obtain ⟨b, m, ⟨h1, h2, h3, h4, h5, h6, ⟨r1, r2, r3⟩, ⟨q1, q2, q3⟩, h9⟩, h10⟩ := h
  have de := hf.2.2.2.2 e (hw.lt h1) (hX e 2 (Or.inl rfl) h1)
  have db := hf.2.2.2.2 b (hw.lt r2) (hX b 100 (Or.inr ⟨2, r1⟩) r2)
  have dm := hf.2.2.2.2 m (hw.lt q2) (hX m 100 (Or.inr ⟨3, q1⟩) q2)
  refine ⟨b, m, ⟨hf.k hw h1, by rw [de.2.1]; exact h2, by rw [de.2.1]; exact h3, by rw [de.2.1]; exact h4, by rw [de.2.1]; exact h5, h6, ⟨by rw [de.2.2.1]; exact r1, hf.k hw r2, by rw [db.1]; exact r3⟩, ⟨by rw [de.2.2.1]; exact q1, hf.k hw q2, by rw [dm.1]; exact q3⟩, fun i hi => by rw [db.2.2.2.1]; exact h9 i hi⟩, fun j hj => by rw [dm.2.2.2.1]; exact h10 j hj⟩
theorem isT.kept {E : PE} {σ τ : PS} {t : Nat} {T : List (Nat × Nat × Nat)} {X : Nat → Prop} (hw : Wf E σ) (h : isT σ t T) (hf : Fr σ τ X) (hX : ∀ d k, own σ 5 t d → sK σ d = some k → ¬ X d) : isT τ t T := by
  obtain ⟨h1, h2, h3, h4, va, ba, ma, ⟨a1, a2, a3⟩, ⟨b1, b2, b3⟩, ⟨m1, m2, m3⟩, h5⟩ := h
  have dt := hf.2.2.2.2 t (hw.lt h1) (hX t 5 (Or.inl rfl) h1)
  have da := hf.2.2.2.2 va (hw.lt a2) (hX va 100 (Or.inr ⟨0, a1⟩) a2)
  have db := hf.2.2.2.2 ba (hw.lt b2) (hX ba 100 (Or.inr ⟨1, b1⟩) b2)
  have dm := hf.2.2.2.2 ma (hw.lt m2) (hX ma 100 (Or.inr ⟨2, m1⟩) m2)
  exact ⟨hf.k hw h1, by rw [dt.2.1]; exact h2, by rw [dt.2.1]; exact h3, h4, va, ba, ma, ⟨by rw [dt.2.2.1]; exact a1, hf.k hw a2, by rw [da.1]; exact a3⟩, ⟨by rw [dt.2.2.1]; exact b1, hf.k hw b2, by rw [db.1]; exact b3⟩, ⟨by rw [dt.2.2.1]; exact m1, hf.k hw m2, by rw [dm.1]; exact m3⟩, fun i hi => by rw [da.2.2.2.1, db.2.2.2.1, dm.2.2.2.1]; exact h5 i hi⟩
theorem isL.keptO {E : PE} {σ τ : PS} {a : Nat} {L : List Nat} {X : Nat → Prop} (hw : Wf E σ) (h : isL E σ a L) (hf : Fr σ τ X) (hX : ∀ d k, own σ 0 a d → sK σ d = some k → ¬ X d) : isL E τ a L :=
  h.kept hw hf (hX a 0 (Or.inl rfl) h.1) (fun d hd hk => hX d 102 (Or.inr ⟨1, hd⟩) hk)
/-! RowMaker: its content -/
def isM (σ : PS) (r cb : Nat) (c : List Nat) : Prop := sK σ r = some 4 ∧ (sR σ 4 0 r = some cb ∧ sK σ cb = some 100 ∧ sL σ cb = 400) ∧ sI σ 4 1 r = nI c.length ∧ c.length ≤ 400 ∧ (∀ x ∈ c, x < 256) ∧ ∀ i, i < c.length → sA σ cb i = nI (c.getD i 0)
theorem sp_sameL {E : PE} {σ : PS} {r cb q p most : Nat} {c : List Nat} (h : isM σ r cb c) (hq : q ≤ p) (hp : p + most ≤ c.length) : ∀ (k n s : Nat), most = s + k → k < n → f_X3_sameBytes_L3 E n (some r) (nI q) (nI p) (nI most) (nI s) σ = some (nI (same c q p k s), σ)
  | 0, n, s, hm, hn => by
    obtain ⟨n, rfl⟩ : ∃ z, n = z + 1 := ⟨n - 1, by omega⟩
    have hl := h.2.2.2.1
    rw [f_X3_sameBytes_L3]
    exact e_t (nI_le (by omega) (by omega)) rfl
  | k + 1, n, s, hm, hn => by
    obtain ⟨n, rfl⟩ : ∃ z, n = z + 1 := ⟨n - 1, by omega⟩
    have ih := sp_sameL (E := E) h hq hp k n (s + 1) (by omega) (by omega)
    obtain ⟨h1, ⟨r1, r2, r3⟩, h3, h4, h5, h6⟩ := h
    have l1 := getD_lt h5 (q + s)
    have l2 := getD_lt h5 (p + s)
    rw [f_X3_sameBytes_L3]
    refine e_f (nI_ge (by omega) (by omega)) (e_gr rfl h1 (e_al r1 (nI_add q s) r2 (by omega) (by omega) (e_gr rfl h1 (e_al r1 (nI_add p s) r2 (by omega) (by omega) ?_))))
    rw [h6 _ (by omega), h6 _ (by omega)]
    unfold same
    by_cases e : c.getD (q + s) 0 = c.getD (p + s) 0
    · rw [if_pos e]
      refine e_t (congrArg nI e) ?_
      rw [nI_1]
      exact ih
    · rw [if_neg e]
      exact e_f (fun z => e ((nI_eq (by omega) (by omega)).mp z)) rfl
theorem sp_sameBytes {E : PE} {σ : PS} {r cb q p most : Nat} {c : List Nat} (hE : 1000 ≤ E.1) (hO : Ok E σ) (h : isM σ r cb c) (hq : q ≤ p) (hp : p + most ≤ c.length) : f_X3_sameBytes E (some r) (nI q) (nI p) (nI most) σ = some (nI (same c q p most 0), σ) := by
  have hl := h.2.2.2.1
  exact oM_rd hO (sp_sameL (E := E) h hq hp most E.1 0 (by omega) (by omega))
theorem isM.pI {σ : PS} {r cb k : Nat} {c : List Nat} {v : Int32} (h : isM σ r cb c) (hk : k ≠ 1) : isM (pI 4 k r v σ) r cb c := by
  obtain ⟨h1, h2, h3, h4, h5, h6⟩ := h
  refine ⟨h1, h2, ?_, h4, h5, h6⟩
  rw [sI_pI, if_neg (fun z => hk z.2.1.symm)]
  exact h3
theorem sp_findL {E : PE} {r cb p most : Nat} {c : List Nat} (hE : 1000 ≤ E.1) (hp : p < c.length) (hmo : p + most ≤ c.length) : ∀ (k n f : Nat) (σ : PS), p = f + k → k < n → Ok E σ → isM σ r cb c → sI σ 4 2 r = nI (fc c p most f).1 → sI σ 4 3 r = nI (fc c p most f).2 →
    wp (f_X3_findCopy_L24 E n (some r) (nI p) (nI most) (nI (f + 1)) σ) (fun _ τ => isM τ r cb c ∧ sI τ 4 2 r = nI (fc c p most p).1 ∧ sI τ 4 3 r = nI (fc c p most p).2 ∧ Fr σ τ (fun b => b = r) ∧ Sk σ τ)
  | 0, n, f, σ, hm, hn, hO, h, e1, e2 => by
    obtain ⟨n, rfl⟩ : ∃ z, n = z + 1 := ⟨n - 1, by omega⟩
    have hl := h.2.2.2.1
    have hf : f = p := by omega
    subst hf
    rw [f_X3_findCopy_L24]
    exact wp_t (nI_lt (by omega) (by omega)) (wp_ret ⟨h, e1, e2, Fr.rf, Sk.rf⟩)
  | k + 1, n, f, σ, hm, hn, hO, h, e1, e2 => by
    obtain ⟨n, rfl⟩ : ∃ z, n = z + 1 := ⟨n - 1, by omega⟩
    have hl := h.2.2.2.1
    have hle := fc_le c p most f
    have hle2 := same_le c (p - (f + 1)) p most 0
    rw [f_X3_findCopy_L24]
    refine wp_f (nI_nlt (by omega) (by omega)) (wp_gi rfl h.1 ?_)
    rw [e2]
    by_cases hfull : most ≤ (fc c p most f).2
    · have hfc : fc c p most p = fc c p most f := by
        have := fc_full c p most hfull (k + 1)
        rw [← hm] at this
        exact this
      refine wp_t (nI_le hfull (by omega)) (wp_ret ⟨h, ?_, ?_, Fr.rf, Sk.rf⟩)
      · rw [e1, hfc]
      · rw [e2, hfc]
    · refine wp_f (fun z => hfull ((nI_leI (by omega) (by omega)).mp z)) (wp_K rfl h.1 ?_)
      rw [pk_sub (show f + 1 ≤ p by omega)]
      refine wp_rd (sp_sameBytes hE hO h (by omega) hmo) (wp_gi rfl h.1 ?_)
      rw [e2]
      by_cases hb : (fc c p most f).2 < same c (p - (f + 1)) p most 0
      · have efc : fc c p most (f + 1) = (f + 1, same c (p - (f + 1)) p most 0) := by show (if _ then _ else _) = _; rw [if_pos hb]
        refine wp_f (fun z => by have := (nI_leI (by omega) (by omega)).mp z; omega) (wp_pi rfl h.1 (wp_pi rfl h.1 ?_))
        show wp (f_X3_findCopy_L24 E n (some r) (nI p) (nI most) (nI (f + 1) + 1) _) _
        rw [nI_1]
        refine wp_mono (sp_findL hE hp hmo k n (f + 1) (pI 4 3 r _ (pI 4 2 r _ σ)) (by omega) (by omega) hO ((h.pI (by decide)).pI (by decide)) ?_ ?_) ?_
        · rw [sI_pI, if_neg (fun z => absurd z.2.1 (by decide)), sI_pI, if_pos ⟨rfl, rfl, rfl⟩, efc]
        · rw [sI_pI, if_pos ⟨rfl, rfl, rfl⟩, efc]
        · rintro _ τ ⟨t1, t2, t3, t4, t5⟩
          exact ⟨t1, t2, t3, (Fr.pI.tr Fr.pI (fun _ _ z => z) (fun _ _ z => z)).tr t4 (fun _ _ z => z) (fun _ _ z => z), Sk.tr ⟨⟨rfl, rfl⟩, rfl, rfl, rfl⟩ t5⟩
      · have efc : fc c p most (f + 1) = fc c p most f := by show (if _ then _ else _) = _; rw [if_neg hb]
        refine wp_t (nI_le (by omega) (by omega)) ?_
        show wp (f_X3_findCopy_L24 E n (some r) (nI p) (nI most) (nI (f + 1) + 1) σ) _
        rw [nI_1]
        exact sp_findL hE hp hmo k n (f + 1) σ (by omega) (by omega) hO h (by rw [efc]; exact e1) (by rw [efc]; exact e2)
theorem sp_findCopy {E : PE} {σ : PS} {r cb p : Nat} {c : List Nat} (hE : 1000 ≤ E.1) (hO : Ok E σ) (h : isM σ r cb c) (hp : p < c.length) :
    wp (f_X3_findCopy E (some r) (nI p) σ) (fun _ τ => isM τ r cb c ∧ sI τ 4 2 r = nI (fc c p (min 60 (c.length - p)) p).1 ∧ sI τ 4 3 r = nI (fc c p (min 60 (c.length - p)) p).2 ∧ Fr σ τ (fun b => b = r) ∧ Sk σ τ) := by
  have hl := h.2.2.2.1
  refine wp_oM (E := E) ?_
  unfold g_X3_findCopy
  refine wp_gi rfl h.1 (wp_pi rfl h.1 (wp_pi rfl h.1 ?_))
  have hmin : (if sI σ 4 1 r - nI p < (60 : Int32) then sI σ 4 1 r - nI p else (60 : Int32)) = nI (min 60 (c.length - p)) := by
    rw [h.2.2.1, pk_sub (by omega)]
    exact minI (a := 60) (b := c.length - p) (by omega) (by omega)
  rw [hmin]
  refine wp_mono (sp_findL hE hp (by omega) p E.1 0 (pI 4 3 r 0 (pI 4 2 r 0 σ)) (by omega) (by omega) hO ((h.pI (by decide)).pI (by decide)) ?_ ?_) ?_
  · rw [sI_pI, if_neg (fun z => absurd z.2.1 (by decide)), sI_pI, if_pos ⟨rfl, rfl, rfl⟩]; rfl
  · rw [sI_pI, if_pos ⟨rfl, rfl, rfl⟩]; rfl
  · rintro _ τ ⟨t1, t2, t3, t4, t5⟩
    have hs : Sk σ τ := Sk.tr ⟨⟨rfl, rfl⟩, rfl, rfl, rfl⟩ t5
    exact ⟨hs.bk hO, t1, t2, t3, (Fr.pI.tr Fr.pI (fun _ _ z => z) (fun _ _ z => z)).tr t4 (fun _ _ z => z) (fun _ _ z => z), hs⟩
/-- one entry's bytes come behind the content -/
theorem sp_gathE {E : PE} {r cb e : Nat} {P : Unit → PS → Prop} {v1 : Option Nat} {v2 : Int32} {K : Option Nat → Option Nat → Int32 → PS → Option (Unit × PS)} {num kd tw : Nat} {bs : List Nat} : ∀ (k n i : Nat) (σ : PS) (c : List Nat), bs.length = i + k → k < n → Wf E σ → isM σ r cb c → isE σ e num kd bs tw → c.length + k ≤ 400 →
    (∀ τ, isM τ r cb (c ++ bs.drop i) → Fr σ τ (own σ 4 r) → Sk σ τ → wp (K (some r) v1 (v2 + 1) τ) P) → wp (f_X3_gather_L27 E K n (some r) v1 v2 (some e) (nI i) σ) P
  | 0, n, i, σ, c, hm, hn, hw, h, he, hl, kk => by
    obtain ⟨n, rfl⟩ : ∃ z, n = z + 1 := ⟨n - 1, by omega⟩
    obtain ⟨b, m, g, -⟩ := he
    have hb := g.lens
    rw [f_X3_gather_L27]
    refine wp_gi rfl g.1 ?_
    rw [g.2.2.2.1]
    refine wp_t (nI_le (by omega) (by omega)) (kk σ ?_ Fr.rf Sk.rf)
    rw [List.drop_eq_nil_of_le (by omega), List.append_nil]
    exact h
  | k + 1, n, i, σ, c, hm, hn, hw, h, he, hl, kk => by
    obtain ⟨n, rfl⟩ : ∃ z, n = z + 1 := ⟨n - 1, by omega⟩
    obtain ⟨b, m, g, hmk⟩ := id he
    obtain ⟨-, -, -, g4, -, ⟨g6, g6'⟩, ⟨r1, r2, r3⟩, -, g9⟩ := id g
    obtain ⟨h1, ⟨q1, q2, q3⟩, h3, h4, h5, h6⟩ := id h
    rw [f_X3_gather_L27]
    refine wp_gi rfl g.1 ?_
    rw [g4]
    refine wp_f (nI_ge (by omega) (by omega)) (wp_gi rfl h1 ?_)
    rw [h3]
    refine wp_f (show ¬ nI 400 ≤ nI c.length from nI_ge (by omega) (by omega)) (wp_gr rfl h1 (wp_gi rfl h1 (wp_gr rfl g.1 (wp_al r1 rfl r2 (by omega) (by omega) (wp_as (j := c.length) q1 h3 q2 (by omega) (by omega) (wp_gi rfl h1 (wp_pi rfl h1 ?_)))))))
    rw [g9 i (by omega)]
    obtain ⟨ρ, hρ⟩ : ∃ ρ, ρ = pI 4 1 r (sI (pA cb c.length (nI (bs.getD i 0)) σ) 4 1 r + 1) (pA cb c.length (nI (bs.getD i 0)) σ) := ⟨_, rfl⟩
    rw [nI_1, ← hρ]
    have hsk : Sk σ ρ := by rw [hρ]; exact ⟨⟨rfl, rfl⟩, rfl, rfl, rfl⟩
    have hfr : Fr σ ρ (own σ 4 r) := by
      rw [hρ]
      exact Fr.pA.tr Fr.pI (fun b _ z => by rw [z]; exact Or.inr ⟨0, q1⟩) (fun _ _ z => Or.inl z)
    have hρM : isM ρ r cb (c ++ [bs.getD i 0]) := by
      rw [hρ]
      refine ⟨h1, ⟨q1, q2, q3⟩, ?_, by rw [List.length_append]; show c.length + 1 ≤ 400; omega, ?_, fun j hj => ?_⟩
      · rw [sI_pI, if_pos ⟨rfl, rfl, rfl⟩, List.length_append]
        show sI σ 4 1 r + 1 = nI (c.length + 1)
        rw [h3, nI_1]
      · intro x hx
        rcases List.mem_append.mp hx with hx | hx
        · exact h5 x hx
        · rw [List.mem_singleton.mp hx]; exact getD_lt g6' i
      · rw [List.length_append] at hj
        have hj : j < c.length + 1 := hj
        show (if cb = cb ∧ j = c.length then nI (bs.getD i 0) else sA σ cb j) = _
        by_cases z : j = c.length
        · rw [if_pos ⟨rfl, z⟩, z, List.getD_eq_getElem?_getD (l := c ++ _), List.getElem?_append_right (Nat.le_refl _), Nat.sub_self]; rfl
        · rw [if_neg (fun y => z y.2), h6 j (by omega), List.getD_eq_getElem?_getD, List.getD_eq_getElem?_getD, List.getElem?_append_left (by omega)]
    have hρE : isE ρ e num kd bs tw := he.kept hw hfr (fun d kk2 o1 o2 o3 => own.dis hw leaf2 leaf4 g.1 h1 (fun z => by rw [z] at g; cases g.1.symm.trans h1) o2 o1 o3)
    refine sp_gathE k n (i + 1) ρ (c ++ [bs.getD i 0]) (by omega) (by omega) (hsk.wf hw) hρM hρE (by rw [List.length_append]; show c.length + 1 + k ≤ 400; omega) (fun τ t1 t2 t3 => kk τ ?_ ?_ (hsk.tr t3))
    · rw [drop_cons (T := bs) (i := i) (by omega) 0, ← List.singleton_append, ← List.append_assoc]
      exact t1
    · refine hfr.tr t2 (fun _ _ z => z) (fun b2 _ z => ?_)
      unfold own at z ⊢
      rw [hsk.2.2.1] at z
      exact z
/-- all entries of a list -/
theorem sp_gathL {E : PE} {r cb ml : Nat} {A : List Nat} {bo : Nat → List Nat} (hE : 1000 ≤ E.1) : ∀ (k n i : Nat) (σ : PS) (c : List Nat), A.length = i + k → k < n → Wf E σ → Ok E σ → isM σ r cb c → isL E σ ml A → (∀ e ∈ A, ∃ num kd tw, isE σ e num kd (bo e) tw) → c.length + ((A.drop i).flatMap bo).length ≤ 400 →
    wp (f_X3_gather_L7 E n (some r) (some ml) (nI i) σ) (fun _ τ => isM τ r cb (c ++ (A.drop i).flatMap bo) ∧ Fr σ τ (own σ 4 r) ∧ Sk σ τ)
  | 0, n, i, σ, c, hm, hn, hw, hO, h, hL, he, hl => by
    obtain ⟨n, rfl⟩ : ∃ z, n = z + 1 := ⟨n - 1, by omega⟩
    have hln := hL.len
    rw [f_X3_gather_L7]
    refine wp_K rfl hL.1 (wp_rd (sp_size hO hL) (wp_t (nI_le (by omega) (by omega)) (wp_ret ⟨?_, Fr.rf, Sk.rf⟩)))
    rw [List.drop_eq_nil_of_le (by omega), List.flatMap_nil, List.append_nil]
    exact h
  | k + 1, n, i, σ, c, hm, hn, hw, hO, h, hL, he, hl => by
    obtain ⟨n, rfl⟩ : ∃ z, n = z + 1 := ⟨n - 1, by omega⟩
    have hln := hL.len
    have hi : i < A.length := by omega
    have hget : A[i]? = some A[i] := List.getElem?_eq_getElem hi
    obtain ⟨num, kd, tw, hEi⟩ := he A[i] (List.getElem_mem hi)
    have hdrop : A.drop i = A[i] :: A.drop (i + 1) := List.drop_eq_getElem_cons hi
    have hbl : (bo A[i]).length ≤ 60 := by obtain ⟨b, m, g, -⟩ := hEi; exact g.lens
    rw [hdrop, List.flatMap_cons, List.length_append] at hl
    rw [f_X3_gather_L7]
    refine wp_K rfl hL.1 (wp_rd (sp_size hO hL) (wp_f (nI_ge hi (by omega)) (wp_K rfl hL.1 (wp_rd (sp_get hO hL hi) (wp_ca hget (by obtain ⟨b, m, g, -⟩ := hEi; exact g.1) ?_)))))
    rw [hget]
    refine sp_gathE (num := num) (kd := kd) (tw := tw) (bs := bo A[i]) (bo A[i]).length E.1 0 σ c (by omega) (by omega) hw h hEi (by omega) (fun τ t1 t2 t3 => ?_)
    rw [List.drop_zero] at t1
    have dis : ∀ {c' a' : Nat}, leafC c' → sK σ a' = some c' → a' ≠ r → ∀ d k, own σ c' a' d → sK σ d = some k → ¬ own σ 4 r d := fun lf hk hne d k o1 o2 o3 => own.dis hw lf leaf4 hk h.1 hne o2 o1 o3
    have hLτ : isL E τ ml A := hL.keptO hw t2 (dis leaf0 hL.1 (fun z => by rw [z] at hL; cases hL.1.symm.trans h.1))
    rw [nI_1]
    refine wp_mono (sp_gathL (bo := bo) hE k n (i + 1) τ (c ++ bo A[i]) (by omega) (by omega) (t3.wf hw) (t3.ok hO) t1 hLτ (fun e hmem => ?_) (by rw [List.length_append]; omega)) ?_
    · obtain ⟨n2, k2, w2, g2⟩ := he e hmem
      exact ⟨n2, k2, w2, g2.kept hw t2 (dis leaf2 (by obtain ⟨b, m, g, -⟩ := g2; exact g.1) (fun z => by obtain ⟨b, m, g, -⟩ := g2; rw [z] at g; cases g.1.symm.trans h.1))⟩
    · rintro _ ρ ⟨s1, s2, s3⟩
      refine ⟨?_, t2.tr s2 (fun _ _ z => z) (fun b2 _ z => ?_), t3.tr s3⟩
      · rw [hdrop, List.flatMap_cons, ← List.append_assoc]; exact s1
      · unfold own at z ⊢
        rw [t3.2.2.1] at z
        exact z
theorem sp_gather {E : PE} {σ : PS} {r cb ml : Nat} {A c0 : List Nat} {bo : Nat → List Nat} (hE : 1000 ≤ E.1) (hw : Wf E σ) (hO : Ok E σ) (h : isM σ r cb c0) (hL : isL E σ ml A) (he : ∀ e ∈ A, ∃ num kd tw, isE σ e num kd (bo e) tw) (hl : (A.flatMap bo).length ≤ 400) :
    wp (f_X3_gather E (some r) (some ml) σ) (fun _ τ => isM τ r cb (A.flatMap bo) ∧ Fr σ τ (own σ 4 r) ∧ Sk σ τ) := by
  have hln := hL.len
  refine wp_oM (E := E) ?_
  unfold g_X3_gather
  refine wp_pi rfl h.1 ?_
  have f0 : Fr σ (pI 4 1 r 0 σ) (own σ 4 r) := Fr.pI.wk (fun _ _ z => Or.inl z)
  have dis : ∀ {c' a' : Nat}, leafC c' → sK σ a' = some c' → a' ≠ r → ∀ d k, own σ c' a' d → sK σ d = some k → ¬ own σ 4 r d := fun lf hk hne d k o1 o2 o3 => own.dis hw lf leaf4 hk h.1 hne o2 o1 o3
  refine wp_mono (sp_gathL (cb := cb) (A := A) (bo := bo) hE A.length E.1 0 (pI 4 1 r 0 σ) [] (by omega) (by omega) (hw.same rfl rfl rfl) hO ?_ ?_ (fun e hmem => ?_) (by rw [List.drop_zero]; simpa using hl)) ?_
  · obtain ⟨h1, h2, h3, h4, h5, h6⟩ := h
    refine ⟨h1, h2, ?_, by simp, (fun _ hx => nomatch hx), (fun i hi => absurd hi (Nat.not_lt_zero i))⟩
    rw [sI_pI, if_pos ⟨rfl, rfl, rfl⟩]; rfl
  · exact hL.keptO hw f0 (dis leaf0 hL.1 (fun z => by rw [z] at hL; cases hL.1.symm.trans h.1))
  · obtain ⟨n2, k2, w2, g2⟩ := he e hmem
    exact ⟨n2, k2, w2, g2.kept hw f0 (dis leaf2 (by obtain ⟨b, m, g, -⟩ := g2; exact g.1) (fun z => by obtain ⟨b, m, g, -⟩ := g2; rw [z] at g; cases g.1.symm.trans h.1))⟩
  · rintro _ ρ ⟨s1, s2, s3⟩
    have hs : Sk σ ρ := Sk.tr ⟨⟨rfl, rfl⟩, rfl, rfl, rfl⟩ s3
    rw [List.drop_zero, List.nil_append] at s1
    exact ⟨hs.bk hO, s1, f0.tr s2 (fun _ _ z => z) (fun _ _ z => z), hs⟩
