theorem foldO_map (h f : Nat → Nat) : ∀ (S : List Nat) (b : Option (Nat × Nat)), (S.map h).foldl (stepO f) (b.map (fun p => (h p.1, p.2))) = (S.foldl (stepO (fun x => f (h x))) b).map (fun p => (h p.1, p.2))
  | [], b => rfl
  | y :: S, b => by
    rw [List.map_cons, List.foldl_cons, List.foldl_cons, ← foldO_map h f S]
    congr 1
    cases b with
    | none => rfl
    | some p =>
      show (if f (h y) < p.2 then some (h y, f (h y)) else some (h p.1, p.2)) = Option.map _ (if f (h y) < p.2 then some (y, f (h y)) else some p)
      split <;> rfl
theorem minO_map (h f : Nat → Nat) (S : List Nat) : minO f (S.map h) = (minO (fun x => f (h x)) S).map (fun p => (h p.1, p.2)) := foldO_map h f S none
theorem map_era (h : Nat → Nat) (x : Nat) : ∀ S : List Nat, (∀ y ∈ S, h y = h x → y = x) → (S.erase x).map h = (S.map h).erase (h x)
  | [], _ => rfl
  | y :: S, hi => by
    rw [List.map_cons, List.erase_cons, List.erase_cons]
    by_cases z : y = x
    · rw [z]; simp
    · have : ¬ h y = h x := fun w => z (hi y (List.mem_cons_self ..) w)
      rw [if_neg (by simpa using z), if_neg (by simpa using this), List.map_cons, map_era h x S (fun q hq => hi q (List.mem_cons_of_mem _ hq))]
theorem bestP_map (d : Nat → Nat → Nat) (h : Nat → Nat) : ∀ (k : Nat) (g : Nat → Nat) (S : List Nat), (∀ x ∈ S, ∀ y ∈ S, h x = h y → x = y) → bestP d k g (S.map h) = ((bestP (fun a b => d (h a) (h b)) k (fun x => g (h x)) S).1, (bestP (fun a b => d (h a) (h b)) k (fun x => g (h x)) S).2.map h)
  | 0, g, S, hi => rfl
  | k + 1, g, S, hi => by
    have ih : ∀ x ∈ S, bestP d k (d (h x)) ((S.map h).erase (h x)) = ((bestP (fun a b => d (h a) (h b)) k (fun y => d (h x) (h y)) (S.erase x)).1, (bestP (fun a b => d (h a) (h b)) k (fun y => d (h x) (h y)) (S.erase x)).2.map h) := by
      intro x hx
      rw [← map_era h x S (fun y hy => hi y hy x hx)]
      exact bestP_map d h k (d (h x)) (S.erase x) (fun a ha b hb => hi a (List.mem_of_mem_erase ha) b (List.mem_of_mem_erase hb))
    have e1 : minO (fun x => g x + (bestP d k (d x) ((S.map h).erase x)).1) (S.map h) = (minO (fun x => g (h x) + (bestP (fun a b => d (h a) (h b)) k (fun y => d (h x) (h y)) (S.erase x)).1) S).map (fun p => (h p.1, p.2)) := by
      rw [minO_map]
      congr 1
      refine minO_congr (fun x hx => ?_)
      rw [ih x hx]
    show (match minO (fun x => g x + (bestP d k (d x) ((S.map h).erase x)).1) (S.map h) with
      | none => (0, [])
      | some m => (m.2, m.1 :: (bestP d k (d m.1) ((S.map h).erase m.1)).2)) = _
    have e2 : bestP (fun a b => d (h a) (h b)) (k + 1) (fun x => g (h x)) S = (match minO (fun x => g (h x) + (bestP (fun a b => d (h a) (h b)) k (fun y => d (h x) (h y)) (S.erase x)).1) S with
      | none => (0, [])
      | some m => (m.2, m.1 :: (bestP (fun a b => d (h a) (h b)) k (fun y => d (h m.1) (h y)) (S.erase m.1)).2)) := rfl
    rw [e1, e2]
    cases hq : minO (fun x => g (h x) + (bestP (fun a b => d (h a) (h b)) k (fun y => d (h x) (h y)) (S.erase x)).1) S with
    | none => rfl
    | some p =>
      have hp := (minO_of hq).2
      show (p.2, h p.1 :: (bestP d k (d (h p.1)) ((S.map h).erase (h p.1))).2) = _
      rw [ih p.1 hp]
      rfl
theorem bits_all : ∀ m, m < 8 → bitsL m (2 ^ m - 1) = List.range' 0 m := by decide +kernel
theorem rg_getD (ln : List Nat) : (List.range' 0 ln.length).map (fun i => ln.getD i 0) = ln := by
  apply List.ext_getElem?
  intro i
  rw [List.getElem?_map]
  by_cases h : i < ln.length
  · rw [List.getElem?_range' h, List.getElem?_eq_getElem h]
    show some (ln.getD (0 + 1 * i) 0) = some ln[i]
    rw [Nat.zero_add, Nat.one_mul, List.getD_eq_getElem?_getD, List.getElem?_eq_getElem h]
    rfl
  · rw [List.getElem?_eq_none (l := List.range' 0 ln.length) (by rw [List.length_range']; omega), List.getElem?_eq_none (l := ln) (by omega)]
    rfl
theorem getD_in {ln : List Nat} {n : Nat} (h0 : 0 < ln.length) (h : ∀ i ∈ ln, i < n) (x : Nat) : ln.getD x 0 < n := by
  by_cases hx : x < ln.length
  · rw [List.getD_eq_getElem?_getD, List.getElem?_eq_getElem hx]; exact h _ (List.getElem_mem hx)
  · rw [List.getD_eq_getElem?_getD, List.getElem?_eq_none (by omega)]
    have := h _ (List.getElem_mem h0)
    show 0 < n
    omega
/-- the best row of a line of entries -/
def bestL (d : Nat → Nat → Nat) (ln : List Nat) : List Nat := (bestP d ln.length (fun _ => 0) ln).2
section CPS
variable {E : PE} {σ τ : PS} {A : Nat → Nat} {F : Nat → Int32} {LL : Nat → List Nat} {n : Nat} {Es kd tw : Nat → Nat} {ed : Nat → Nat × List Nat × Nat} {GA : Nat → Prop} {gd : Nat → Nat × Nat × List Nat × List (Nat × Nat × Nat)} {G : List (Nat × Grp)} {P Ln : List Nat} {bs bo : Nat → List Nat} {V : Nat → Prop} {S : Option PK} {t : Nat}
theorem AW.ko {sa ua : Nat} {X : Nat → Prop} (aw : AW σ A sa ua) (ka : sK σ (A 5) = some 1) (hf : Fo E σ τ X) (h5 : ¬ X (A 5)) : AW τ A sa ua ∧ (∀ i, sA τ sa i = sA σ sa i) ∧ ∀ i, sA τ ua i = sA σ ua i := by
  obtain ⟨da, du⟩ := hf.2.2 _ 1 ka (by omega) h5
  have d1 := du 1 sa 100 aw.1.1 aw.1.2.1 (Nat.le_refl _)
  have d2 := du 2 ua 100 aw.2.1 aw.2.2.1 (Nat.le_refl _)
  exact ⟨⟨⟨by rw [da.2.2.1]; exact aw.1.1, hf.k aw.1.2.1, by rw [d1.1]; exact aw.1.2.2⟩, ⟨by rw [da.2.2.1]; exact aw.2.1, hf.k aw.2.2.1, by rw [d2.1]; exact aw.2.2.2⟩⟩, d1.2.2.2.1, d2.2.2.2.1⟩
theorem sp_abL {ln : List Nat} {sa ua : Nat} (hE : 1000 ≤ E.1) (hm7 : ln.length ≤ 7) (hln : ∀ i ∈ ln, i < n) (hbl : ∀ i, i < n → (bs i).length ≤ 60) (h6 : LL 6 = ln.map Es) : ∀ (k f i s : Nat) (l : Option Nat) (cur : List Nat) (σ : PS), ln.length = i + k → k < f → (bitsL ln.length s).length = k → s < 2 ^ ln.length → cur.length = ln.length → (∀ a, l = some a → a < ln.length) → Ok E σ → CB E σ A F (up LL 4 (cur.map Es)) n Es (fun i => (kd i, bs i, tw i)) GA gd → AW σ A sa ua → JS σ sa ln.length (fun x y => distN (bs (ln.getD x 0)) (bs (ln.getD y 0))) ln.length 0 → US σ ua ln.length (fun x y => distN (bs (ln.getD x 0)) (bs (ln.getD y 0))) (2 ^ ln.length) 0 →
    wp (f_X0_arrangeBest_L63 E f (some (A 5)) (some (A 4)) (nI ln.length) (nI s) (encO l) (nI i) σ) (fun _ τ => CB E τ A F (up LL 4 ((cur.take i ++ (bestP (fun x y => distN (bs (ln.getD x 0)) (bs (ln.getD y 0))) k (gS (fun x y => distN (bs (ln.getD x 0)) (bs (ln.getD y 0))) l) (bitsL ln.length s)).2.map (fun x => ln.getD x 0)).map Es)) n Es (fun i => (kd i, bs i, tw i)) GA gd ∧ Fc E σ τ ∧ Gr σ τ 0 0)
  | 0, f, i, s, l, cur, σ, hk, hf, hb, hs, hc, hl, hO, c, aw, hj, hu => by
    obtain ⟨f, rfl⟩ : ∃ z, f = z + 1 := ⟨f - 1, by omega⟩
    rw [f_X0_arrangeBest_L63]
    refine wp_t (nI_le (by omega) (by omega)) (wp_ret ⟨?_, Fc.rf c.wf, Gr.rf⟩)
    show CB E σ A F (up LL 4 ((cur.take i ++ [].map _).map Es)) n Es _ GA gd
    rw [List.map_nil, List.append_nil, List.take_of_length_le (by omega)]
    exact c
  | k + 1, f, i, s, l, cur, σ, hk, hf, hb, hs, hc, hl, hO, c, aw, hj, hu => by
    obtain ⟨f, rfl⟩ : ∃ z, f = z + 1 := ⟨f - 1, by omega⟩
    have h128 := pw7 hm7
    have hwle : ∀ a b, (fun x y => distN (bs (ln.getD x 0)) (bs (ln.getD y 0))) a b ≤ 1980 := by
      intro a b
      exact distN_le (hbl _ (getD_in (by omega) hln a)) (hbl _ (getD_in (by omega) hln b))
    have hu0 : US σ ua ln.length (fun x y => distN (bs (ln.getD x 0)) (bs (ln.getD y 0))) s 0 := fun s' x' h1 h2 h3 h4 => hu s' x' h1 h2 h3 (by omega)
    have bn := sp_bestNext (E := E) (l := l) hE hwle hm7 hO c.ka aw hj hu0 hs hl
    have bp := bestP_set (w := fun x y => distN (bs (ln.getD x 0)) (bs (ln.getD y 0))) hm7 hs (gS (fun x y => distN (bs (ln.getD x 0)) (bs (ln.getD y 0))) l) hb
    rw [f_X0_arrangeBest_L63, bp]
    refine wp_f (nI_ge (by omega) (by omega)) (wp_K rfl c.ka (wp_rd bn ?_))
    cases hq : minO (fun x => gS (fun x y => distN (bs (ln.getD x 0)) (bs (ln.getD y 0))) l x + vS (fun x y => distN (bs (ln.getD x 0)) (bs (ln.getD y 0))) ln.length (clr s x) x) (bitsL ln.length s) with
    | none =>
      have := minO_none hq
      rw [this] at hb
      cases hb
    | some p =>
      have hp := bits_mem.mp (minO_of hq).2
      have l6 := c.l j6
      rw [up_n (show (6 : Nat) ≠ 4 by decide), h6] at l6
      have l4 := c.l j4
      rw [up_s] at l4
      have hlm : (ln.map Es).length = ln.length := List.length_map ..
      have hcm : (cur.map Es).length = ln.length := by rw [List.length_map]; exact hc
      have f6 : sR σ 1 0 (A 5) = some (A 6) := c.rt.2.1.2.1
      have ga : (ln.map Es)[p.1]? = some (Es ln[p.1]) := by rw [List.getElem?_map, List.getElem?_eq_getElem hp.1]; rfl
      have da : ln.getD p.1 0 = ln[p.1] := by rw [List.getD_eq_getElem?_getD, List.getElem?_eq_getElem hp.1]; rfl
      have na := hln _ (List.getElem_mem hp.1)
      refine wp_f (show ¬ nI p.1 < 0 from nI_pos (by omega)) (wp_f (show ¬ nI ln.length ≤ nI p.1 from nI_ge hp.1 (by omega)) (wp_gr rfl c.ka (wp_K f6 l6.1 ?_)))
      rw [f6]
      refine wp_rd (show f_Jx4a65c_get_915e3 E (some (A 6)) (nI p.1) σ = _ from sp_get hO l6 (by omega)) ?_
      rw [ga]
      refine wp_ca rfl (c.ke na) (wp_K rfl l4.1 (wp_bd (so_set c.wf hO l4 (by omega) (Or.inl (c.ke na))) ?_))
      rintro _ s2 ⟨-, t1, t2, t3⟩
      rw [← List.map_set] at t1
      have c2 := c.lst j4 t2 t1
      rw [up_up] at c2
      obtain ⟨aw2, ea, eu⟩ := aw.ko c.ka t2 (fun z => kne c.ka l4.1 (by decide) z)
      unfold f_X0_arrangeBest_B122
      have hclr : nI s &&& (((1 : Int32) <<< (encB (some p) &&& 31)) ^^^ (-1 : Int32)) = nI (clr s p.1) := bt2 s (by omega) p.1 (by omega)
      rw [hclr, nI_1]
      have hclt := clr_lt hp.2
      have hlen2 : (bitsL ln.length (clr s p.1)).length = k := by
        rw [bits_clr hm7 (by omega) (by omega), List.length_erase_of_mem (bits_mem.mpr hp), hb]
        rfl
      refine wp_mono (sp_abL (ua := ua) (sa := sa) hE hm7 hln hbl h6 k f (i + 1) (clr s p.1) (some p.1) (cur.set i ln[p.1]) s2 (by omega) (by omega) hlen2 (by omega) (by rw [List.length_set]; exact hc) (fun a z => by cases z; exact hp.1) (t3.ok hO.1 hO.2) c2 aw2 (fun a' b' h1 h2 h3 => by rw [ea]; exact hj a' b' h1 h2 h3) (fun s' x' h1 h2 h3 h4 => by rw [eu]; exact hu s' x' h1 h2 h3 h4)) ?_
      rintro _ τ ⟨v1, v2, v3⟩
      refine ⟨?_, (Fc.one t2 l4.1 (by decide)).tr v2, t3.tr v3⟩
      have et : (cur.set i ln[p.1]).take (i + 1) = cur.take i ++ [ln[p.1]] := by
        have hci : i < cur.length := by omega
        rw [List.take_succ, List.getElem?_set, if_pos rfl, if_pos hci, List.take_set_of_le (Nat.le_refl _)]
        rfl
      rw [et, List.append_assoc, ← da] at v1
      exact v1
end CPS
