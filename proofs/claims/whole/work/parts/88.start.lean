/-! from the entry: the world that the Statement gives, the law's walk, its pure end -/
def ps0 (n : Nat) : PS := ((n, 0, (fun _ => none), (fun _ => 0)), (fun _ _ _ => 0), (fun _ _ _ => none), (fun _ _ => 0), (fun _ _ => none), (fun _ _ => 0))
theorem ar_of {args : Array Value} {s : State} {ty : FieldType} (h : (Cond.arrayClass ty).before args s = true) : ∃ cA : ClassId, ArrOfT s cA ty ∧ s.vm.findClass ("[" ++ ty.toString) = some cA := by
  obtain ⟨c, k, comp, h1, h2, h3⟩ := Cond.arrayClass_spec h
  exact ⟨c, fun n z => ⟨fun k h => (by cases h), k, h2, comp, h3⟩, h1⟩
set_option maxHeartbeats 4000000 in
set_option maxRecDepth 20000 in
/-- YOUR PART: from the entry, for every script of at most 2560 ints, the law comes to its end with true -/
theorem whole_start {p : Program} {e : Env} {s : State} {m : MethodId} {below : List Frame} {meth : Method} {c : Code} (l : Launch) (hlt : l.stackTraces = false) {b L : Nat} {xs : Nat → Int32} (hL : L ≤ 2560) (C0 : lw_At p s m meth c b L xs) : W p l e room_1 s m #[Value.ref b] below meth c s.heap [] 0 0 (lw_Z below #[Value.ref b] s) (entryFrame m ([Value.ref b] : List Value).toArray 7) := by
  obtain ⟨hx, hb, hr, hml, hown, hts, hX, hbl, hlocks, hgv⟩ := id C0
  have hfl := flat_of_before _ hgv
  have hA : ∀ a : Nat, a < s.heap.size → ¬ (fun q : Nat => s.heap.size ≤ q) a := fun a h => Nat.not_le.mpr h
  obtain ⟨c0, i0, k0⟩ := u_known (C := RJx4a65c) (T := TJx4a65c) (N := 3) (n := 3) hts wsL_in_wsJx4a65c0 (hts (.instantiable RJx4a65c 3) (by decide +kernel))
  obtain ⟨c1, i1, k1⟩ := u_known (C := RX0) (T := TX0) (N := 3) (n := 3) hts wsL_in_wsX00 (hts (.instantiable RX0 3) (by decide +kernel))
  obtain ⟨c2, i2, k2⟩ := u_known (C := RX1) (T := TX1) (N := 6) (n := 6) hts wsL_in_wsX10 (hts (.instantiable RX1 6) (by decide +kernel))
  obtain ⟨c3, i3, k3⟩ := u_known (C := RX2) (T := TX2) (N := 4) (n := 4) hts wsL_in_wsX20 (hts (.instantiable RX2 4) (by decide +kernel))
  obtain ⟨c4, i4, k4⟩ := u_known (C := RX3) (T := TX3) (N := 4) (n := 4) hts wsL_in_wsX30 (hts (.instantiable RX3 4) (by decide +kernel))
  obtain ⟨c5, i5, k5⟩ := u_known (C := RX4) (T := TX4) (N := 5) (n := 5) hts wsL_in_wsX40 (hts (.instantiable RX4 5) (by decide +kernel))
  obtain ⟨c6, i6, k6⟩ := u_known (C := RX5) (T := TX5) (N := 8) (n := 8) hts wsL_in_wsX50 (hts (.instantiable RX5 8) (by decide +kernel))
  obtain ⟨c7, i7, k7⟩ := u_known (C := RX6) (T := TX6) (N := 23) (n := 23) hts wsL_in_wsX60 (hts (.instantiable RX6 23) (by decide +kernel))
  obtain ⟨dC, dI, hKc⟩ : ∃ (dC : Nat → ClassId) (dI : Nat → Nat → Nat), ∀ (k : Nat) (q : vw_C), vwCl[k]? = some q → u_Kn s q.1 q.2.1 q.2.2 (dC k) (dI k) := by
    refine ⟨fun k => match k with | 0 => c0 | 1 => c1 | 2 => c2 | 3 => c3 | 4 => c4 | 5 => c5 | 6 => c6 | _ => c7, fun k => match k with | 0 => i0 | 1 => i1 | 2 => i2 | 3 => i3 | 4 => i4 | 5 => i5 | 6 => i6 | _ => i7, ?_⟩
    intro k q hq
    match k, hq with
    | 0, hq => cases hq; exact k0
    | 1, hq => cases hq; exact k1
    | 2, hq => cases hq; exact k2
    | 3, hq => cases hq; exact k3
    | 4, hq => cases hq; exact k4
    | 5, hq => cases hq; exact k5
    | 6, hq => cases hq; exact k6
    | 7, hq => cases hq; exact k7
    | k + 8, hq => simp [vwCl] at hq
  obtain ⟨aI, hI1, hI2⟩ := ar_of (hts (.arrayClass .int) (by decide +kernel))
  obtain ⟨aJ, hJ1, hJ2⟩ := ar_of (hts (.arrayClass .long) (by decide +kernel))
  have hAO : va_AO "java/lang/Object" s := va_AO.of (hts (.arrayOver (.object "java/lang/Object")) (by decide +kernel))
  obtain ⟨comp, aO, kO, f1, -, f3, f4, f5⟩ := Cond.arrayOver_spec hAO
  have hK : va_K (dC, dI) vwCl (tysK (aI, aJ, aO)) s := by
    refine ⟨hKc, fun k q hq => ?_⟩
    match k, hq with
    | 0, hq => cases hq; exact ⟨hI1, hI2⟩
    | 1, hq => cases hq; exact ⟨hJ1, hJ2⟩
    | 2, hq => cases hq; exact ⟨fun n z => ⟨fun k h => (by cases h), kO, f3, comp, f4⟩, kO, comp, f3, f4, f1, f5⟩
    | k + 3, hq => simp at hq
  obtain ⟨da, hd1, hd2⟩ := va_Tof (tm := .static "java/util/ArrayList" "DEFAULTCAPACITY_EMPTY_ELEMENTDATA" "[Ljava/lang/Object;") (ty := .object "java/lang/Object") (N := 0) (f := fun _ => .null) (A := fun q => s.heap.size ≤ q) (by decide) (hfl _ (by decide +kernel)) (va_eqt (hfl _ (by decide +kernel))) (fun j hj => absurd hj (Nat.not_lt_zero _)) hA
  have hda : da < s.heap.size := by
    obtain ⟨cell, q1, -⟩ := hd2
    exact (Array.getElem?_eq_some_iff.mp q1).1
  have hZ := va_Zref (A := fun q => s.heap.size ≤ q) (hts (.laysStatic "java/util/ArrayList" "DEFAULTCAPACITY_EMPTY_ELEMENTDATA" "[Ljava/lang/Object;") (by decide +kernel)) (hts (.initialized "java/util/ArrayList") (by decide +kernel)) hd1 hA
  obtain ⟨mi, hMi⟩ := va_Mi.of (C := "[Ljava/lang/Object;") (hfl _ (by decide +kernel))
  have hKn : Kn (dC, dI) (aI, aJ, aO) s.heap.size (20000, s.heap.size + 162966, 8607208, da, mi) s :=
    ⟨hK, hZ, hd2, hMi, va_Dc.of (hts (.declares ⟨"java/lang/Object", "getClass", "()Ljava/lang/Class;"⟩) (by decide +kernel)),
      ⟨va_Nw.of rfl (hts (.methodLinkNest RX5 236 yX2_init RX5) (by decide +kernel)), va_Nw.of rfl (hts (.methodLinkNest RX5 27 yX0_init RX5) (by decide +kernel)), va_Nw.of rfl (hts (.methodLinkNest RX5 34 yX3_init RX5) (by decide +kernel)), va_Nw.of rfl (hts (.methodLinkNest RX0 42 yX5_apart RX5) (by decide +kernel)), va_Nw.of rfl (hts (.methodLinkNest RX2 20 yX4_init RX5) (by decide +kernel))⟩,
      ⟨va_Nw.of rfl (hts (.castable RX1 "java/lang/Object") (by decide +kernel)), va_Nw.of rfl (hts (.castable RX2 "java/lang/Object") (by decide +kernel))⟩, hAO⟩
  have hst : (Cond.exactly (.string "SolidGroups" 125) "java/lang/String").before #[Value.ref b] s = true := hfl _ (by decide +kernel)
  obtain ⟨sa, -, -, -, hsa, -⟩ := Cond.exactly_spec hst
  have hKX : KX s.heap.size s :=
    ⟨⟨sa, vk_R.of (A := #[Value.ref b]) (hts (.stringRef RX5 125 "neither entry has marks") (by decide +kernel)) hsa⟩, va_Nw.of rfl (hts (.declares ⟨"java/lang/RuntimeException", "<init>", "(Ljava/lang/String;)V"⟩) (by decide +kernel)), va_Nw.of rfl (hts (.declares ⟨"java/lang/Exception", "<init>", "(Ljava/lang/String;)V"⟩) (by decide +kernel)), va_Nw.of rfl (hts (.declares ⟨"java/lang/Throwable", "<init>", "(Ljava/lang/String;)V"⟩) (by decide +kernel)), va_Nw.of rfl (hts (.castable aeN aeN) (by decide +kernel)),
      vx_Zqof (hts (.laysStatic Bundle.tN "UNASSIGNED_STACK" Bundle.steD) (by decide +kernel)) (hts (.initialized Bundle.tN) (by decide +kernel)) (hfl _ (by decide +kernel)) hA, vx_Zqof (hts (.laysStatic Bundle.tN "SUPPRESSED_SENTINEL" Bundle.listD) (by decide +kernel)) (hts (.initialized Bundle.tN) (by decide +kernel)) (hfl _ (by decide +kernel)) hA⟩
  have hW : Wf (20000, s.heap.size + 162966, 8607208, da, mi) (ps0 s.heap.size) := ⟨fun _ _ h => (by cases h), fun _ h => (by cases h), hda, fun _ _ _ _ h => (by cases h), fun _ _ _ _ _ _ _ h => (by cases h)⟩
  have hR : Rp (dC, dI) (aI, aJ, aO) s.heap.size (ps0 s.heap.size) s.heap := ⟨rfl, Nat.le_refl _, fun _ _ h => (by cases h)⟩
  obtain ⟨τ, hf, h1, h2⟩ := law_pure (E := (20000, s.heap.size + 162966, 8607208, da, mi)) (xs := xs) (σ0 := ps0 s.heap.size) (show 10000 ≤ 20000 by decide) hL hW (Nat.le_refl _) (by show 0 + 8607208 ≤ 8607208; decide)
  have hl := lv_entry ([.ref b]) (n := 7) (Nat.le_of_ble_eq_true rfl)
  rw [lg_entry_eq]
  generalize (lg_sl ([.ref b]) ++ List.replicate (7 - (lg_sl ([.ref b])).length) Slot.unset).toArray = ls at hl ⊢
  have hl : lv_has ls 7 [(0, .ref b)] := hl
  exact c_L_law l hlt (dC, dI) (aI, aJ, aO) s.heap.size (20000, s.heap.size + 162966, 8607208, da, mi) hf ⟨h1, h2⟩ ⟨hx, hb, hml, hown, fun w hw => hts w (wsL_law_in w hw)⟩ hKn hKX ⟨by show 162966 = s.heap.size + 162966 - s.heap.size; omega, by show 8607208 = 8607208 - 0; rfl⟩ hlocks hr hX hbl rfl ⟨hR, va_S.rf, rfl, rfl, by show s.heap.size ≤ s.heap.size + 162966; omega, by show 0 ≤ 8607208; decide⟩ hl
