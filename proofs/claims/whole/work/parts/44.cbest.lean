section CPS
variable {E : PE} {σ τ : PS} {A : Nat → Nat} {F : Nat → Int32} {LL : Nat → List Nat} {n : Nat} {Es kd tw : Nat → Nat} {ed : Nat → Nat × List Nat × Nat} {GA : Nat → Prop} {gd : Nat → Nat × Nat × List Nat × List (Nat × Nat × Nat)} {G : List (Nat × Grp)} {P Ln : List Nat} {bs bo : Nat → List Nat} {V : Nat → Prop} {S : Option PK} {t : Nat}
theorem CB.arrW (h : CB E σ A F LL n Es ed GA gd) {k d i : Nat} {v : Int32} (hr : sR σ 1 k (A 5) = some d) (hd : sK σ d = some 100) : CB E (pA d i v σ) A F LL n Es ed GA gd ∧ Fc E σ (pA d i v σ) := by
  have hf : Fo E σ (pA d i v σ) (fun b => b = A 5) := Fo.arr h.wf (h.wf.same rfl rfl rfl) h.ka hr hd (by omega) Fr.pA
  have no : ∀ {b k : Nat}, sK σ b = some k → k ≠ 1 → ¬ b = A 5 := fun hb hk' => kne hb h.ka hk'
  refine ⟨⟨hf.wf, ?_, fun j hj => (h.l hj).ko hf (no (h.l hj).1 (by decide)), fun i hi => (h.e hi).ko hf (no (h.ke hi) (by decide)), fun g hg => (h.g hg).ko hf (fun b hb => ?_)⟩, Fc.one hf h.ka (by decide)⟩
  · obtain ⟨x, a, c, hc⟩ := h.rt
    exact ⟨x, a, c, hc.ko hf (no hc.1 (by decide))⟩
  · rcases (h.g hg).parts hb with e | e | e
    · exact no e.2 (by decide)
    · exact no e.2 (by decide)
    · exact no e.2 (by decide)
/-- the arranger's own rows -/
def AW (σ : PS) (A : Nat → Nat) (sa ua : Nat) : Prop := Ar σ 1 1 (A 5) sa 49 ∧ Ar σ 1 2 (A 5) ua 896
theorem CB.aw (h : CB E σ A F LL n Es ed GA gd) : ∃ sa ua, AW σ A sa ua := by
  obtain ⟨-, ⟨-, -, ⟨sa, h1⟩, ⟨ua, h2⟩⟩, -⟩ := h.rt
  exact ⟨sa, ua, h1, h2⟩
theorem AW.ne (h : CB E σ A F LL n Es ed GA gd) {sa ua : Nat} (w : AW σ A sa ua) : sa ≠ ua := by
  intro z
  have e := w.2.1
  rw [← z] at e
  exact absurd (h.wf.uo h.ka h.ka w.1.1 e w.1.2.1).2.1 (by decide)
theorem AW.pA {sa ua d i : Nat} {v : Int32} (w : AW σ A sa ua) : AW (pA d i v σ) A sa ua := w
/-- the steps that are measured -/
def JS (σ : PS) (sa m : Nat) (w : Nat → Nat → Nat) (a b : Nat) : Prop := ∀ a' b', a' < m → b' < m → (a' < a ∨ (a' = a ∧ b' < b)) → sA σ sa (a' * 7 + b') = nI (w a' b')
theorem sp_msB {ln : List Nat} {sa ua : Nat} {P : Unit → PS → Prop} {K : Option Nat → Int32 → Int32 → PS → Option (Unit × PS)} {a : Nat} (hE : 1000 ≤ E.1) (hm7 : ln.length ≤ 7) (hln : ∀ i ∈ ln, i < n) (ha : a < ln.length) (h6 : LL 6 = ln.map Es) : ∀ (k f b : Nat) (σ : PS), ln.length = b + k → k < f → Ok E σ → CB E σ A F LL n Es (fun i => (kd i, bs i, tw i)) GA gd → AW σ A sa ua → JS σ sa ln.length (fun x y => distN (bs (ln.getD x 0)) (bs (ln.getD y 0))) a b →
    (∀ τ, CB E τ A F LL n Es (fun i => (kd i, bs i, tw i)) GA gd → AW τ A sa ua → JS τ sa ln.length (fun x y => distN (bs (ln.getD x 0)) (bs (ln.getD y 0))) (a + 1) 0 → Fc E σ τ → Gr σ τ 0 0 → wp (K (some (A 5)) (nI ln.length) (nI (a + 1)) τ) P) →
    wp (f_X0_measureSteps_L9 E K f (some (A 5)) (nI ln.length) (nI a) (nI b) σ) P
  | 0, f, b, σ, hm, hf, hO, c, aw, hj, kk => by
    obtain ⟨f, rfl⟩ : ∃ z, f = z + 1 := ⟨f - 1, by omega⟩
    rw [f_X0_measureSteps_L9]
    refine wp_t (nI_le (by omega) (by omega)) ?_
    rw [nI_1]
    exact kk σ c aw (fun a' b' h1 h2 h3 => hj a' b' h1 h2 (by omega)) (Fc.rf c.wf) Gr.rf
  | k + 1, f, b, σ, hm, hf, hO, c, aw, hj, kk => by
    obtain ⟨f, rfl⟩ : ∃ z, f = z + 1 := ⟨f - 1, by omega⟩
    have hb : b < ln.length := by omega
    have l6 := c.l j6
    rw [h6] at l6
    have hlm : (ln.map Es).length = ln.length := List.length_map ..
    have f6 : sR σ 1 0 (A 5) = some (A 6) := c.rt.2.1.2.1
    have ga : (ln.map Es)[a]? = some (Es ln[a]) := by rw [List.getElem?_map, List.getElem?_eq_getElem ha]; rfl
    have gb : (ln.map Es)[b]? = some (Es ln[b]) := by rw [List.getElem?_map, List.getElem?_eq_getElem hb]; rfl
    have da : ln.getD a 0 = ln[a] := by rw [List.getD_eq_getElem?_getD, List.getElem?_eq_getElem ha]; rfl
    have db : ln.getD b 0 = ln[b] := by rw [List.getD_eq_getElem?_getD, List.getElem?_eq_getElem hb]; rfl
    have na := hln _ (List.getElem_mem ha)
    have nb := hln _ (List.getElem_mem hb)
    obtain ⟨s1, s2, s3⟩ := aw.1
    rw [f_X0_measureSteps_L9]
    refine wp_f (nI_ge hb (by omega)) (wp_gr rfl c.ka (wp_gr rfl c.ka (wp_K f6 l6.1 ?_)))
    rw [f6]
    refine wp_rd (sp_get hO l6 (by omega)) ?_
    rw [ga]
    refine wp_ca rfl (c.ke na) (wp_gr rfl c.ka (wp_K f6 l6.1 ?_))
    rw [f6]
    refine wp_rd (sp_get hO l6 (by omega)) ?_
    rw [gb]
    refine wp_ca rfl (c.ke nb) (wp_rd (sp_apart (by omega) hO (c.e na) (c.e nb)) ?_)
    have hidx : nI a * (7 : Int32) + nI b = nI (a * 7 + b) := by
      have : nI a * (7 : Int32) = nI (a * 7) := pk_mul a 7
      rw [this, nI_add]
    obtain ⟨c2, fc⟩ := c.arrW (i := a * 7 + b) (v := nI (distN (bs ln[a]) (bs ln[b]))) s1 s2
    refine wp_as s1 hidx s2 (by omega) (by omega) ?_
    rw [nI_1]
    refine sp_msB hE hm7 hln ha h6 k f (b + 1) _ (by omega) (by omega) hO c2 aw (fun a' b' h1 h2 h3 => ?_) (fun τ t1 t2 t3 t4 t5 => kk τ t1 t2 t3 (fc.tr t4) t5)
    rw [sA_pA]
    by_cases z : a' = a ∧ b' = b
    · obtain ⟨rfl, rfl⟩ := z
      rw [if_pos ⟨rfl, rfl⟩]
      show _ = nI (distN (bs (ln.getD a' 0)) (bs (ln.getD b' 0)))
      rw [da, db]
    · rw [if_neg (fun y => z (by omega))]
      exact hj a' b' h1 h2 (by omega)
theorem sp_msA {ln : List Nat} {sa ua : Nat} (hE : 1000 ≤ E.1) (hm7 : ln.length ≤ 7) (hln : ∀ i ∈ ln, i < n) (h6 : LL 6 = ln.map Es) : ∀ (k f a : Nat) (σ : PS), ln.length = a + k → k < f → Ok E σ → CB E σ A F LL n Es (fun i => (kd i, bs i, tw i)) GA gd → AW σ A sa ua → JS σ sa ln.length (fun x y => distN (bs (ln.getD x 0)) (bs (ln.getD y 0))) a 0 →
    wp (f_X0_measureSteps_L2 E f (some (A 5)) (nI ln.length) (nI a) σ) (fun _ τ => CB E τ A F LL n Es (fun i => (kd i, bs i, tw i)) GA gd ∧ AW τ A sa ua ∧ JS τ sa ln.length (fun x y => distN (bs (ln.getD x 0)) (bs (ln.getD y 0))) ln.length 0 ∧ Fc E σ τ ∧ Gr σ τ 0 0)
  | 0, f, a, σ, hm, hf, hO, c, aw, hj => by
    obtain ⟨f, rfl⟩ : ∃ z, f = z + 1 := ⟨f - 1, by omega⟩
    rw [f_X0_measureSteps_L2]
    exact wp_t (nI_le (by omega) (by omega)) (wp_ret ⟨c, aw, fun a' b' h1 h2 h3 => hj a' b' h1 h2 (by omega), Fc.rf c.wf, Gr.rf⟩)
  | k + 1, f, a, σ, hm, hf, hO, c, aw, hj => by
    obtain ⟨f, rfl⟩ : ∃ z, f = z + 1 := ⟨f - 1, by omega⟩
    rw [f_X0_measureSteps_L2]
    refine wp_f (nI_ge (by omega) (by omega)) (sp_msB hE hm7 hln (by omega) h6 ln.length E.1 0 σ (by omega) (by omega) hO c aw hj (fun τ t1 t2 t3 t4 t5 => ?_))
    refine wp_mono (sp_msA hE hm7 hln h6 k f (a + 1) τ (by omega) (by omega) (t5.ok hO.1 hO.2) t1 t2 t3) ?_
    rintro _ ρ ⟨u1, u2, u3, u4, u5⟩
    exact ⟨u1, u2, u3, t4.tr u4, t5.tr u5⟩
theorem sp_measureSteps {ln : List Nat} {sa ua : Nat} (hE : 1000 ≤ E.1) (hm7 : ln.length ≤ 7) (hln : ∀ i ∈ ln, i < n) (h6 : LL 6 = ln.map Es) (hO : Ok E σ) (c : CB E σ A F LL n Es (fun i => (kd i, bs i, tw i)) GA gd) (aw : AW σ A sa ua) :
    wp (f_X0_measureSteps E (some (A 5)) (nI ln.length) σ) (fun _ τ => CB E τ A F LL n Es (fun i => (kd i, bs i, tw i)) GA gd ∧ AW τ A sa ua ∧ JS τ sa ln.length (fun x y => distN (bs (ln.getD x 0)) (bs (ln.getD y 0))) ln.length 0 ∧ Fc E σ τ ∧ Gr σ τ 0 0) := by
  refine wp_oM (E := E) (wp_mono (sp_msA hE hm7 hln h6 ln.length E.1 0 σ (by omega) (by omega) hO c aw (fun a' b' h1 h2 h3 => by omega)) ?_)
  rintro _ τ q
  exact ⟨q.2.2.2.2.bk hO.1 hO.2, q⟩
/-! the sums of sets -/
def vS (w : Nat → Nat → Nat) (m s x : Nat) : Nat := (bestP w (bitsL m s).length (w x) (bitsL m s)).1
def US (σ : PS) (ua m : Nat) (w : Nat → Nat → Nat) (s x : Nat) : Prop := ∀ s' x', s' < 2 ^ m → x' < m → s'.testBit x' = false → (s' < s ∨ (s' = s ∧ x' < x)) → sA σ ua (s' * 7 + x') = nI (vS w m s' x')
/-- the step from the last, if there is one -/
def gS (w : Nat → Nat → Nat) : Option Nat → Nat → Nat
  | none => fun _ => 0
  | some a => w a
theorem pw7 {m : Nat} (h : m ≤ 7) : 2 ^ m ≤ 128 := Nat.pow_le_pow_right (by decide) h
theorem sp_sumBy {sa ua m s x : Nat} {w : Nat → Nat → Nat} {l : Option Nat} (hm : m ≤ 7) (hO : Ok E σ) (ka : sK σ (A 5) = some 1) (aw : AW σ A sa ua) (hj : JS σ sa m w m 0) (hu : US σ ua m w s 0) (hs : s < 2 ^ m) (hx : x < m) (hb : s.testBit x = true) (hl : ∀ a, l = some a → a < m) : f_X0_sumBy E (some (A 5)) (encO l) (nI x) (nI s) σ = some (nI (gS w l x + vS w m (clr s x) x), σ) := by
  have h128 := pw7 hm
  have hlt := clr_lt hb
  have hbx : (clr s x).testBit x = false := by
    rw [bt4 s (by omega) x (by omega) x (by omega)]
    simp
  have hv := hu (clr s x) x (by omega) hx hbx (Or.inl hlt)
  obtain ⟨s1, s2, s3⟩ := aw.1
  obtain ⟨u1, u2, u3⟩ := aw.2
  have hidx : (nI s &&& (((1 : Int32) <<< (nI x &&& 31)) ^^^ (-1 : Int32))) * (7 : Int32) + nI x = nI (clr s x * 7 + x) := by
    rw [bt2 s (by omega) x (by omega)]
    have : nI (clr s x) * (7 : Int32) = nI (clr s x * 7) := pk_mul _ 7
    rw [this, nI_add]
  refine oM_rd hO ?_
  unfold g_X0_sumBy f_X0_sumBy_B20
  cases l with
  | none =>
    refine e_t rfl (e_gr rfl ka (e_al u1 hidx u2 (by omega) (by omega) ?_))
    rw [hv]
    show some (nI 0 + _, σ) = _
    rw [nI_add]
    rfl
  | some a =>
    have ha := hl a rfl
    have hj2 := hj a x ha hx (Or.inl ha)
    have hidx2 : nI a * (7 : Int32) + nI x = nI (a * 7 + x) := by
      have : nI a * (7 : Int32) = nI (a * 7) := pk_mul a 7
      rw [this, nI_add]
    refine e_f (show ¬ nI a = -1 from neg1_ne (by omega)) (e_gr rfl ka (e_al s1 hidx2 s2 (by omega) (by omega) (e_gr rfl ka (e_al u1 hidx u2 (by omega) (by omega) ?_))))
    rw [hv, hj2, nI_add]
    rfl
def encB : Option (Nat × Nat) → Int32
  | none => -1
  | some p => nI p.1
def encV : Option (Nat × Nat) → Int32
  | none => 0
  | some p => nI p.2
theorem sp_bnL {sa ua m s : Nat} {w : Nat → Nat → Nat} {l : Option Nat} (hw : ∀ a b, w a b ≤ 1980) (hm : m ≤ 7) (hO : Ok E σ) (ka : sK σ (A 5) = some 1) (aw : AW σ A sa ua) (hj : JS σ sa m w m 0) (hu : US σ ua m w s 0) (hs : s < 2 ^ m) (hl : ∀ a, l = some a → a < m) : ∀ (k f i : Nat) (b : Option (Nat × Nat)) (v5 : Int32), m = i + k → k < f → (∀ p, b = some p → p.1 < 7 ∧ p.2 < 100000 ∧ v5 = nI p.2) → f_X0_bestNext_L9 E f (some (A 5)) (encO l) (nI s) (nI m) (encB b) v5 (nI i) σ = some (encB (((List.range' i k).filter (fun j => s.testBit j)).foldl (stepO (fun x => gS w l x + vS w m (clr s x) x)) b), σ)
  | 0, f, i, b, v5, hk, hf, hb => by
    obtain ⟨f, rfl⟩ : ∃ z, f = z + 1 := ⟨f - 1, by omega⟩
    rw [f_X0_bestNext_L9]
    exact e_t (nI_le (by omega) (by omega)) rfl
  | k + 1, f, i, b, v5, hk, hf, hb => by
    obtain ⟨f, rfl⟩ : ∃ z, f = z + 1 := ⟨f - 1, by omega⟩
    have h128 := pw7 hm
    rw [f_X0_bestNext_L9, List.range'_succ]
    refine e_f (nI_ge (by omega) (by omega)) ?_
    unfold f_X0_bestNext_B47 f_X0_bestNext_B55
    by_cases hbit : s.testBit i = true
    · have hgle : ∀ x, gS w l x ≤ 1980 := fun x => by
        cases l with
        | none => exact Nat.zero_le _
        | some a => exact hw a x
      have hvle : vS w m (clr s i) i ≤ 1980 * 7 := by
        unfold vS
        have := bestP_le hw (bitsL m (clr s i)).length (w i) (bitsL m (clr s i)) (hw i)
        have h2 : (bitsL m (clr s i)).length ≤ 7 := by
          unfold bitsL
          have := List.length_filter_le (fun j => (clr s i).testBit j) (List.range' 0 m)
          rw [List.length_range'] at this
          omega
        have h3 := Nat.mul_le_mul_left 1980 h2
        omega
      have hgi := hgle i
      rw [List.filter_cons_of_pos (by exact hbit), List.foldl_cons]
      refine e_f (fun z => by rw [(bt1 s (by omega) i (by omega)).mp z] at hbit; cases hbit) (e_K rfl ka (bd_rd (sp_sumBy hm hO ka aw hj hu hs (by omega) hbit hl) ?_))
      have bigb : ∀ p : Nat × Nat, p = (i, gS w l i + vS w m (clr s i) i) → f_X0_bestNext_L9 E f (some (A 5)) (encO l) (nI s) (nI m) (nI i) (nI (gS w l i + vS w m (clr s i) i)) (nI i + 1) σ = some (encB (((List.range' (i + 1) k).filter (fun j => s.testBit j)).foldl (stepO (fun x => gS w l x + vS w m (clr s x) x)) (some p)), σ) := by
        rintro p rfl
        rw [nI_1]
        exact sp_bnL hw hm hO ka aw hj hu hs hl k f (i + 1) (some (i, gS w l i + vS w m (clr s i) i)) _ (by omega) (by omega) (fun p hp => by cases hp; exact ⟨by show i < 7; omega, by show gS w l i + vS w m (clr s i) i < 100000; omega, rfl⟩)
      cases b with
      | none => exact e_t rfl (bigb _ rfl)
      | some p =>
        obtain ⟨p1, p2, p3⟩ := hb p rfl
        refine e_f (show ¬ nI p.1 = -1 from neg1_ne (by omega)) ?_
        rw [p3]
        by_cases z : gS w l i + vS w m (clr s i) i < p.2
        · have e1 : stepO (fun x => gS w l x + vS w m (clr s x) x) (some p) i = some (i, gS w l i + vS w m (clr s i) i) := if_pos z
          rw [e1]
          exact e_f (nI_ge z (by omega)) (bigb _ rfl)
        · have e1 : stepO (fun x => gS w l x + vS w m (clr s x) x) (some p) i = some p := if_neg z
          rw [e1]
          refine e_t (nI_le (by omega) (by omega)) ?_
          rw [nI_1]
          exact sp_bnL hw hm hO ka aw hj hu hs hl k f (i + 1) (some p) (nI p.2) (by omega) (by omega) (fun q hq => by cases hq; exact ⟨p1, p2, rfl⟩)
    · have hbf : s.testBit i = false := by cases h : s.testBit i with
        | true => exact absurd h hbit
        | false => rfl
      rw [List.filter_cons_of_neg (by rw [hbf]; decide)]
      refine e_t ((bt1 s (by omega) i (by omega)).mpr hbf) ?_
      rw [nI_1]
      exact sp_bnL hw hm hO ka aw hj hu hs hl k f (i + 1) b v5 (by omega) (by omega) hb
theorem sp_bestNext {sa ua m s : Nat} {w : Nat → Nat → Nat} {l : Option Nat} (hE : 1000 ≤ E.1) (hw : ∀ a b, w a b ≤ 1980) (hm : m ≤ 7) (hO : Ok E σ) (ka : sK σ (A 5) = some 1) (aw : AW σ A sa ua) (hj : JS σ sa m w m 0) (hu : US σ ua m w s 0) (hs : s < 2 ^ m) (hl : ∀ a, l = some a → a < m) : f_X0_bestNext E (some (A 5)) (encO l) (nI s) (nI m) σ = some (encB (minO (fun x => gS w l x + vS w m (clr s x) x) (bitsL m s)), σ) :=
  oM_rd hO (sp_bnL hw hm hO ka aw hj hu hs hl m E.1 0 none 0 (by omega) (by omega) (fun _ z => nomatch z))
/-- a set's best: by its members -/
theorem bestP_set {w : Nat → Nat → Nat} {m s : Nat} (hm : m ≤ 7) (hs : s < 2 ^ m) (g : Nat → Nat) {k : Nat} (hk : (bitsL m s).length = k + 1) : bestP w (k + 1) g (bitsL m s) = match minO (fun x => g x + vS w m (clr s x) x) (bitsL m s) with
    | none => (0, [])
    | some p => (p.2, p.1 :: (bestP w k (w p.1) (bitsL m (clr s p.1))).2) := by
  have h128 := pw7 hm
  have e1 : ∀ x ∈ bitsL m s, g x + (bestP w k (w x) ((bitsL m s).erase x)).1 = g x + vS w m (clr s x) x := by
    intro x hx
    have hx' := bits_mem.mp hx
    unfold vS
    rw [bits_clr hm (by omega) (by omega), List.length_erase_of_mem hx, hk]
    rfl
  show (match minO (fun x => g x + (bestP w k (w x) ((bitsL m s).erase x)).1) (bitsL m s) with
    | none => (0, [])
    | some p => (p.2, p.1 :: (bestP w k (w p.1) ((bitsL m s).erase p.1)).2)) = _
  rw [minO_congr e1]
  cases hq : minO (fun x => g x + vS w m (clr s x) x) (bitsL m s) with
  | none => rfl
  | some p =>
    have hp := bits_mem.mp (minO_of hq).2
    simp only []
    rw [bits_clr hm (by omega) (by omega)]
theorem vS_of {w : Nat → Nat → Nat} {m s x : Nat} (hm : m ≤ 7) (hs : s < 2 ^ m) : vS w m s x = match minO (fun y => w x y + vS w m (clr s y) y) (bitsL m s) with
    | none => 0
    | some p => p.2 := by
  cases hk : (bitsL m s).length with
  | zero =>
    have e0 := List.eq_nil_of_length_eq_zero hk
    unfold vS
    rw [e0]
    rfl
  | succ k =>
    have := bestP_set (w := w) hm hs (w x) hk
    have e1 : vS w m s x = (bestP w (k + 1) (w x) (bitsL m s)).1 := by unfold vS; rw [hk]
    rw [e1, this]
    cases minO (fun y => w x y + vS w m (clr s y) y) (bitsL m s) with
    | none => rfl
    | some p => rfl
theorem sp_suB {sa ua m s : Nat} {w : Nat → Nat → Nat} {P : Unit → PS → Prop} {K : Option Nat → Int32 → Int32 → PS → Option (Unit × PS)} (hE : 1000 ≤ E.1) (hw : ∀ a b, w a b ≤ 1980) (hm : m ≤ 7) (hs : s < 2 ^ m) : ∀ (k f x : Nat) (σ : PS), m = x + k → k < f → Ok E σ → CB E σ A F LL n Es ed GA gd → AW σ A sa ua → JS σ sa m w m 0 → US σ ua m w s x →
    (∀ τ, CB E τ A F LL n Es ed GA gd → AW τ A sa ua → JS τ sa m w m 0 → US τ ua m w (s + 1) 0 → Fc E σ τ → Gr σ τ 0 0 → wp (K (some (A 5)) (nI m) (nI (s + 1)) τ) P) →
    wp (f_X0_measureSums_L11 E K f (some (A 5)) (nI m) (nI s) (nI x) σ) P
  | 0, f, x, σ, hk, hf, hO, c, aw, hj, hu, kk => by
    obtain ⟨f, rfl⟩ : ∃ z, f = z + 1 := ⟨f - 1, by omega⟩
    rw [f_X0_measureSums_L11]
    refine wp_t (nI_le (by omega) (by omega)) ?_
    rw [nI_1]
    exact kk σ c aw hj (fun s' x' h1 h2 h3 h4 => hu s' x' h1 h2 h3 (by omega)) (Fc.rf c.wf) Gr.rf
  | k + 1, f, x, σ, hk, hf, hO, c, aw, hj, hu, kk => by
    obtain ⟨f, rfl⟩ : ∃ z, f = z + 1 := ⟨f - 1, by omega⟩
    have h128 := pw7 hm
    have hu0 : US σ ua m w s 0 := fun s' x' h1 h2 h3 h4 => hu s' x' h1 h2 h3 (by omega)
    rw [f_X0_measureSums_L11]
    refine wp_f (nI_ge (by omega) (by omega)) ?_
    unfold f_X0_measureSums_B60 f_X0_measureSums_B61
    cases hbit : s.testBit x with
    | true =>
      refine wp_f (fun z => by rw [(bt1 s (by omega) x (by omega)).mp z] at hbit; cases hbit) ?_
      rw [nI_1]
      refine sp_suB hE hw hm hs k f (x + 1) σ (by omega) (by omega) hO c aw hj (fun s' x' h1 h2 h3 h4 => ?_) kk
      by_cases z : s' = s ∧ x' = x
      · obtain ⟨rfl, rfl⟩ := z; rw [hbit] at h3; cases h3
      · exact hu s' x' h1 h2 h3 (by omega)
    | false =>
      have bn := sp_bestNext (E := E) (l := some x) hE hw hm hO c.ka aw hj hu0 hs (fun a z => by cases z; omega)
      obtain ⟨u1, u2, u3⟩ := aw.2
      have hidx : nI s * (7 : Int32) + nI x = nI (s * 7 + x) := by
        have : nI s * (7 : Int32) = nI (s * 7) := pk_mul s 7
        rw [this, nI_add]
      have hv := vS_of (w := w) (x := x) hm hs
      have fin : ∀ v, v = nI (vS w m s x) → wp ((oAs (some ua) (nI s * 7 + nI x) v σ).bind fun s8 => f_X0_measureSums_L11 E K f (some (A 5)) (nI m) (nI s) (nI x + 1) s8) P := by
        rintro v rfl
        obtain ⟨c2, fc⟩ := c.arrW (i := s * 7 + x) (v := nI (vS w m s x)) u1 u2
        refine wp_as rfl hidx u2 (by omega) (by omega) ?_
        rw [nI_1]
        refine sp_suB hE hw hm hs k f (x + 1) _ (by omega) (by omega) hO c2 aw (fun a' b' h1 h2 h3 => ?_) (fun s' x' h1 h2 h3 h4 => ?_) (fun τ t1 t2 t3 t4 t5 t6 => kk τ t1 t2 t3 t4 (fc.tr t5) t6)
        · rw [sA_pA, if_neg (fun z => (AW.ne c aw) z.1)]
          exact hj a' b' h1 h2 h3
        · rw [sA_pA]
          by_cases z : s' = s ∧ x' = x
          · obtain ⟨rfl, rfl⟩ := z; rw [if_pos ⟨rfl, rfl⟩]
          · rw [if_neg (fun y => z (by omega))]
            exact hu s' x' h1 h2 h3 (by omega)
      refine wp_t ((bt1 s (by omega) x (by omega)).mpr hbit) (wp_K rfl c.ka ?_)
      refine wp_rd bn (wp_gr rfl c.ka ?_)
      rw [u1]
      cases hq : minO (fun y => gS w (some x) y + vS w m (clr s y) y) (bitsL m s) with
      | none =>
        refine wp_f (show ¬ (0 : Int32) ≤ -1 by decide) (fin 0 ?_)
        have e2 : minO (fun y => w x y + vS w m (clr s y) y) (bitsL m s) = none := hq
        rw [hv, e2]
        rfl
      | some p =>
        have e2 : minO (fun y => w x y + vS w m (clr s y) y) (bitsL m s) = some p := hq
        have hp := bits_mem.mp (minO_of hq).2
        have hpv := (minO_of hq).1
        refine wp_t (show (0 : Int32) ≤ nI p.1 from nI_pos' (by omega)) (wp_K rfl c.ka (wp_rd (sp_sumBy (l := some x) hm hO c.ka aw hj hu0 hs hp.1 hp.2 (fun a z => by cases z; omega)) (fin _ ?_)))
        rw [hv, e2]
        exact congrArg nI hpv.symm
theorem sp_suA {sa ua m : Nat} {w : Nat → Nat → Nat} (hE : 1000 ≤ E.1) (hw : ∀ a b, w a b ≤ 1980) (hm : m ≤ 7) : ∀ (k f s : Nat) (σ : PS), 2 ^ m = s + k → k < f → Ok E σ → CB E σ A F LL n Es ed GA gd → AW σ A sa ua → JS σ sa m w m 0 → US σ ua m w s 0 →
    wp (f_X0_measureSums_L2 E f (some (A 5)) (nI m) (nI s) σ) (fun _ τ => CB E τ A F LL n Es ed GA gd ∧ AW τ A sa ua ∧ JS τ sa m w m 0 ∧ US τ ua m w (2 ^ m) 0 ∧ Fc E σ τ ∧ Gr σ τ 0 0)
  | 0, f, s, σ, hk, hf, hO, c, aw, hj, hu => by
    obtain ⟨f, rfl⟩ : ∃ z, f = z + 1 := ⟨f - 1, by omega⟩
    have h128 := pw7 hm
    rw [f_X0_measureSums_L2, bt3 m (by omega)]
    have hs : s = 2 ^ m := by omega
    subst hs
    exact wp_t (nI_le (Nat.le_refl _) (by omega)) (wp_ret ⟨c, aw, hj, hu, Fc.rf c.wf, Gr.rf⟩)
  | k + 1, f, s, σ, hk, hf, hO, c, aw, hj, hu => by
    obtain ⟨f, rfl⟩ : ∃ z, f = z + 1 := ⟨f - 1, by omega⟩
    have h128 := pw7 hm
    rw [f_X0_measureSums_L2, bt3 m (by omega)]
    refine wp_f (nI_ge (by omega) (by omega)) (sp_suB hE hw hm (by omega) m E.1 0 σ (by omega) (by omega) hO c aw hj hu (fun τ t1 t2 t3 t4 t5 t6 => ?_))
    refine wp_mono (sp_suA hE hw hm k f (s + 1) τ (by omega) (by omega) (t6.ok hO.1 hO.2) t1 t2 t3 t4) ?_
    rintro _ ρ ⟨v1, v2, v3, v4, v5, v6⟩
    exact ⟨v1, v2, v3, v4, t5.tr v5, t6.tr v6⟩
theorem sp_measureSums {sa ua m : Nat} {w : Nat → Nat → Nat} (hE : 1000 ≤ E.1) (hw : ∀ a b, w a b ≤ 1980) (hm : m ≤ 7) (hO : Ok E σ) (c : CB E σ A F LL n Es ed GA gd) (aw : AW σ A sa ua) (hj : JS σ sa m w m 0) :
    wp (f_X0_measureSums E (some (A 5)) (nI m) σ) (fun _ τ => CB E τ A F LL n Es ed GA gd ∧ AW τ A sa ua ∧ JS τ sa m w m 0 ∧ US τ ua m w (2 ^ m) 0 ∧ Fc E σ τ ∧ Gr σ τ 0 0) := by
  have h128 := pw7 hm
  refine wp_oM (E := E) (wp_mono (sp_suA (m := m) hE hw hm (2 ^ m) E.1 0 σ (by omega) (by omega) hO c aw hj (fun s' x' h1 h2 h3 h4 => by omega)) ?_)
  rintro _ τ q
  exact ⟨q.2.2.2.2.2.bk hO.1 hO.2, q⟩
end CPS
