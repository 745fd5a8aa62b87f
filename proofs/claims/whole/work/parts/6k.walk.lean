set_option maxHeartbeats 4000000 in
set_option maxRecDepth 100000 in
theorem c_X6_twin (l : Launch) (D : va_G) (G : GC) (base : Nat) (E : PE) {a0 : Nat} {p1 : Int32} {σ0 τ : PS} {rv : Int32} (hF : f_X6_twin E (some a0) p1 σ0 = some (rv, τ)) : Ct l D G base E yX6_twin wsX6_twin 2 43 ([.ref a0, .int (p1)] : List Value) σ0 (some (.int rv)) τ := by
  obtain ⟨hf, hmo⟩ := oM_of hF
  refine Ct.of (own := RX6) [1, 1] (by decide) rfl rfl hmo (ct_R (ct_I ct_0)) (by decide) ?_
  intro p e s m below meth c R Q ls H locs cells slots S hKn hRm hfr hlo hlk hret hnm hQ hD hl
  have hx := S.1
  have hb := S.2.1
  have hts := S.2.2.2.2
  have inX6 : ∀ w ∈ u_ws RX6 TX6 23, w ∈ wsX6_twin := by decide +kernel
  have wd0 := hts (.fieldLink RX6 64 "SolidGroupsModel" "isPacked" "Z") (by decide +kernel)
  have wd1 := hts (.fieldLink RX6 19 "SolidGroupsModel" "twins" "[I") (by decide +kernel)
  have hB28 : ∀ (w0 : Int32) (σ : PS) (H : Heap) (locs : List Loc) (cells slots : Nat) (ls : Array Slot), Dy D G base E s.heap σ0 σ H locs cells slots → lv_has ls 2 [] → f_X6_twin_B28 E w0 σ = some (rv, τ) → W p l e R s m ([.ref a0, .int (p1)] : List Value).toArray below meth c H locs cells slots Q (F0 m 28 ls [.int (w0)]) := by
    intro w0 σ H locs cells slots ls hD hl hf
    unfold f_X6_twin_B28 at hf
    obtain ⟨e1, e2⟩ := ret_eq hf
    rw [hQ, ← e1, ← e2]
    exact hw_iret S hlk hret rfl hD dX6_twin_28
  have hl : lv_has ls 2 [(0, va_rf (some a0)), (1, .int (p1))] := hl
  unfold g_X6_twin at hf
  refine hw_aload_n (r := (some a0)) hx hb dX6_twin_0 rfl (lv_at hl 0 rfl) ?_
  refine lv_iload_n hx hb dX6_twin_1 rfl (lv_at hl 1 rfl) ?_
  obtain ⟨b3, hv, hf⟩ := ob_s hf
  obtain ⟨e9, hk9⟩ := oK_of hv
  cases e9
  obtain ⟨r1, s2, hv, hf⟩ := ob_p hf
  refine hw_V (b := a0) (ci := 7) (T := TX6) (N := 23) (As := [.int (p1)]) (rest := []) S hKn hRm hD (c_X6_isEntry l D G base E hv) (mo_X6_isEntry hv) hk9 rfl (by decide) gX6_twin_X6_isEntry rfl 1 (by decide +kernel) ⟨by rw [hfr]; decide, by rw [hlo]; decide⟩ rfl hl.1 (Nat.le_trans cs_0 (by decide)) rfl dX6_twin_2 (fun H locs cells slots hD => ?_)
  refine W.eq (g2 := F0 m 5 ls [.int (r1)]) rfl ?_
  refine lv_if_ne (tgt := 10) hx hb dX6_twin_5 (by decide) (fun hc => ?_) (fun hc => ?_)
  · rw [if_neg hc] at hf
    refine hw_aload_n (r := (some a0)) hx hb dX6_twin_10 rfl (lv_at hl 0 rfl) ?_
    obtain ⟨x4, hv, hf⟩ := ob_s hf
    refine hw_gi (C := RX6) (T := TX6) (N := 23) (ref := "SolidGroupsModel") S hKn hD hv rfl (by decide) (by decide) rfl inX6 wd0 (fun _ h9 => h9) dX6_twin_11 ?_
    refine lv_if_eq (tgt := 26) hx hb dX6_twin_14 (by decide) (fun hc => ?_) (fun hc => ?_)
    · rw [if_pos hc] at hf
      refine lv_bipush (v := (-2)) hx hb dX6_twin_26 (by decide) ?_
      exact hB28 (-2 : Int32) _ _ _ _ _ _ hD (lv_sub hl [] rfl) hf
    · rw [if_neg hc] at hf
      refine hw_aload_n (r := (some a0)) hx hb dX6_twin_17 rfl (lv_at hl 0 rfl) ?_
      obtain ⟨x5, hv, hf⟩ := ob_s hf
      refine hw_gr (C := RX6) (T := TX6) (N := 23) (ref := "SolidGroupsModel") S hKn hD hv rfl (by decide) (by decide) rfl inX6 wd1 (fun _ h9 => h9) dX6_twin_18 ?_
      refine lv_iload_n hx hb dX6_twin_21 rfl (lv_at hl 1 rfl) ?_
      obtain ⟨x6, hv, hf⟩ := ob_s hf
      refine hw_al S hKn hD hv dX6_twin_22 ?_
      refine lv_goto (tgt := 28) hx hb dX6_twin_23 (by decide) ?_
      exact hB28 x6 _ _ _ _ _ _ hD (lv_sub hl [] rfl) hf
  · rw [if_pos hc] at hf
    refine lv_iconst (v := (-1)) hx hb dX6_twin_8 (by decide) ?_
    obtain ⟨e1, e2⟩ := ret_eq hf
    rw [hQ, ← e1, ← e2]
    exact hw_iret S hlk hret rfl hD dX6_twin_9
set_option maxHeartbeats 4000000 in
set_option maxRecDepth 100000 in
theorem c_X6_group (l : Launch) (D : va_G) (G : GC) (base : Nat) (E : PE) {a0 : Nat} {p1 : Int32} {σ0 τ : PS} {rv : Int32} (hF : f_X6_group E (some a0) p1 σ0 = some (rv, τ)) : Ct l D G base E yX6_group wsX6_group 2 43 ([.ref a0, .int (p1)] : List Value) σ0 (some (.int rv)) τ := by
  obtain ⟨hf, hmo⟩ := oM_of hF
  refine Ct.of (own := RX6) [1, 1] (by decide) rfl rfl hmo (ct_R (ct_I ct_0)) (by decide) ?_
  intro p e s m below meth c R Q ls H locs cells slots S hKn hRm hfr hlo hlk hret hnm hQ hD hl
  have hx := S.1
  have hb := S.2.1
  have hts := S.2.2.2.2
  have inX6 : ∀ w ∈ u_ws RX6 TX6 23, w ∈ wsX6_group := by decide +kernel
  have wd0 := hts (.fieldLink RX6 64 "SolidGroupsModel" "isPacked" "Z") (by decide +kernel)
  have wd1 := hts (.fieldLink RX6 25 "SolidGroupsModel" "groupAt" "[I") (by decide +kernel)
  have wd2 := hts (.fieldLink RX6 19 "SolidGroupsModel" "twins" "[I") (by decide +kernel)
  have hB37 : ∀ (w0 : Int32) (σ : PS) (H : Heap) (locs : List Loc) (cells slots : Nat) (ls : Array Slot), Dy D G base E s.heap σ0 σ H locs cells slots → lv_has ls 2 [] → f_X6_group_B37 E w0 σ = some (rv, τ) → W p l e R s m ([.ref a0, .int (p1)] : List Value).toArray below meth c H locs cells slots Q (F0 m 37 ls [.int (w0)]) := by
    intro w0 σ H locs cells slots ls hD hl hf
    unfold f_X6_group_B37 at hf
    obtain ⟨e1, e2⟩ := ret_eq hf
    rw [hQ, ← e1, ← e2]
    exact hw_iret S hlk hret rfl hD dX6_group_37
  have hl : lv_has ls 2 [(0, va_rf (some a0)), (1, .int (p1))] := hl
  unfold g_X6_group at hf
  refine hw_aload_n (r := (some a0)) hx hb dX6_group_0 rfl (lv_at hl 0 rfl) ?_
  refine lv_iload_n hx hb dX6_group_1 rfl (lv_at hl 1 rfl) ?_
  obtain ⟨b3, hv, hf⟩ := ob_s hf
  obtain ⟨e9, hk9⟩ := oK_of hv
  cases e9
  obtain ⟨r1, s2, hv, hf⟩ := ob_p hf
  refine hw_V (b := a0) (ci := 7) (T := TX6) (N := 23) (As := [.int (p1)]) (rest := []) S hKn hRm hD (c_X6_isEntry l D G base E hv) (mo_X6_isEntry hv) hk9 rfl (by decide) gX6_group_X6_isEntry rfl 1 (by decide +kernel) ⟨by rw [hfr]; decide, by rw [hlo]; decide⟩ rfl hl.1 (Nat.le_trans cs_0 (by decide)) rfl dX6_group_2 (fun H locs cells slots hD => ?_)
  refine W.eq (g2 := F0 m 5 ls [.int (r1)]) rfl ?_
  refine lv_if_ne (tgt := 10) hx hb dX6_group_5 (by decide) (fun hc => ?_) (fun hc => ?_)
  · rw [if_neg hc] at hf
    refine hw_aload_n (r := (some a0)) hx hb dX6_group_10 rfl (lv_at hl 0 rfl) ?_
    obtain ⟨x4, hv, hf⟩ := ob_s hf
    refine hw_gi (C := RX6) (T := TX6) (N := 23) (ref := "SolidGroupsModel") S hKn hD hv rfl (by decide) (by decide) rfl inX6 wd0 (fun _ h9 => h9) dX6_group_11 ?_
    refine lv_if_eq (tgt := 35) hx hb dX6_group_14 (by decide) (fun hc => ?_) (fun hc => ?_)
    · rw [if_pos hc] at hf
      refine lv_bipush (v := (-2)) hx hb dX6_group_35 (by decide) ?_
      exact hB37 (-2 : Int32) _ _ _ _ _ _ hD (lv_sub hl [] rfl) hf
    · rw [if_neg hc] at hf
      refine hw_aload_n (r := (some a0)) hx hb dX6_group_17 rfl (lv_at hl 0 rfl) ?_
      obtain ⟨x5, hv, hf⟩ := ob_s hf
      refine hw_gr (C := RX6) (T := TX6) (N := 23) (ref := "SolidGroupsModel") S hKn hD hv rfl (by decide) (by decide) rfl inX6 wd1 (fun _ h9 => h9) dX6_group_18 ?_
      refine hw_aload_n (r := (some a0)) hx hb dX6_group_21 rfl (lv_at hl 0 rfl) ?_
      refine hw_aload_n (r := (some a0)) hx hb dX6_group_22 rfl (lv_at hl 0 rfl) ?_
      obtain ⟨x6, hv, hf⟩ := ob_s hf
      refine hw_gr (C := RX6) (T := TX6) (N := 23) (ref := "SolidGroupsModel") S hKn hD hv rfl (by decide) (by decide) rfl inX6 wd2 (fun _ h9 => h9) dX6_group_23 ?_
      refine lv_iload_n hx hb dX6_group_26 rfl (lv_at hl 1 rfl) ?_
      obtain ⟨x7, hv, hf⟩ := ob_s hf
      refine hw_al S hKn hD hv dX6_group_27 ?_
      obtain ⟨b10, hv, hf⟩ := ob_s hf
      obtain ⟨e9, hk9⟩ := oK_of hv
      cases e9
      obtain ⟨r8, s9, hv, hf⟩ := ob_p hf
      refine hw_V (b := a0) (ci := 7) (T := TX6) (N := 23) (As := [.int (x7)]) (rest := [va_rf (x5)]) S hKn hRm hD (c_X6_placeInOrder l D G base E hv) (mo_X6_placeInOrder hv) hk9 rfl (by decide) gX6_group_X6_placeInOrder rfl 1 (by decide +kernel) ⟨by rw [hfr]; decide, by rw [hlo]; decide⟩ rfl hl.1 (Nat.le_trans (cs_A cs_0) (by decide)) rfl dX6_group_28 (fun H locs cells slots hD => ?_)
      refine W.eq (g2 := F0 m 31 ls [.int (r8), va_rf (x5)]) rfl ?_
      obtain ⟨x11, hv, hf⟩ := ob_s hf
      refine hw_al S hKn hD hv dX6_group_31 ?_
      refine lv_goto (tgt := 37) hx hb dX6_group_32 (by decide) ?_
      exact hB37 x11 _ _ _ _ _ _ hD (lv_sub hl [] rfl) hf
  · rw [if_pos hc] at hf
    refine lv_iconst (v := (-1)) hx hb dX6_group_8 (by decide) ?_
    obtain ⟨e1, e2⟩ := ret_eq hf
    rw [hQ, ← e1, ← e2]
    exact hw_iret S hlk hret rfl hD dX6_group_9
set_option maxHeartbeats 4000000 in
set_option maxRecDepth 100000 in
theorem c_X6_placeOf (l : Launch) (D : va_G) (G : GC) (base : Nat) (E : PE) {a0 : Nat} {p1 : Int32} {σ0 τ : PS} {rv : Int32} (hF : f_X6_placeOf E (some a0) p1 σ0 = some (rv, τ)) : Ct l D G base E yX6_placeOf wsX6_placeOf 1 22 ([.ref a0, .int (p1)] : List Value) σ0 (some (.int rv)) τ := by
  obtain ⟨hf, hmo⟩ := oM_of hF
  refine Ct.of (own := RX6) [1, 1] (by decide) rfl rfl hmo (ct_R (ct_I ct_0)) (by decide) ?_
  intro p e s m below meth c R Q ls H locs cells slots S hKn hRm hfr hlo hlk hret hnm hQ hD hl
  have hx := S.1
  have hb := S.2.1
  have hts := S.2.2.2.2
  have inX6 : ∀ w ∈ u_ws RX6 TX6 23, w ∈ wsX6_placeOf := by decide +kernel
  have wd0 := hts (.fieldLink RX6 19 "SolidGroupsModel" "twins" "[I") (by decide +kernel)
  have wd1 := hts (.fieldLink RX6 25 "SolidGroupsModel" "groupAt" "[I") (by decide +kernel)
  have wd2 := hts (.fieldLink RX6 13 "SolidGroupsModel" "sizes" "[I") (by decide +kernel)
  have wd3 := hts (.fieldLink RX6 22 "SolidGroupsModel" "order" "[I") (by decide +kernel)
  have hB55 : ∀ (k16 : Option Nat → Int32 → Int32 → Int32 → PS → Option (Int32 × PS)) (hk16 : ∀ (z0 : Option Nat) (z2 : Int32) (z3 : Int32) (z4 : Int32) (σ : PS) (H : Heap) (locs : List Loc) (cells slots : Nat) (ls : Array Slot), Dy D G base E s.heap σ0 σ H locs cells slots → lv_has ls 5 [(0, va_rf (z0)), (2, .int (z2)), (3, .int (z3)), (4, .int (z4))] → k16 z0 z2 z3 z4 σ = some (rv, τ) → W p l e R s m ([.ref a0, .int (p1)] : List Value).toArray below meth c H locs cells slots Q (F0 m 16 ls [])), ∀ (v0 : Option Nat) (v2 : Int32) (v4 : Int32) (w0 : Int32) (w1 : Int32) (σ : PS) (H : Heap) (locs : List Loc) (cells slots : Nat) (ls : Array Slot), Dy D G base E s.heap σ0 σ H locs cells slots → lv_has ls 5 [(0, va_rf (v0)), (2, .int (v2)), (4, .int (v4))] → f_X6_placeOf_B55 E k16 v0 v2 v4 w0 w1 σ = some (rv, τ) → W p l e R s m ([.ref a0, .int (p1)] : List Value).toArray below meth c H locs cells slots Q (F0 m 55 ls [.int (w1), .int (w0)]) := by
    intro k16 hk16 v0 v2 v4 w0 w1 σ H locs cells slots ls hD hl hf
    unfold f_X6_placeOf_B55 at hf
    refine lv_iadd hx hb dX6_placeOf_55 ?_
    refine hs_istore_n (i := 3) (lv' := [(3, .int (w0 + w1)), (0, va_rf (v0)), (2, .int (v2)), (4, .int (v4))]) hx hb dX6_placeOf_56 rfl hl (by decide) (st_okR (st_okI (st_okI st_ok0))) rfl (fun ls hl => ?_)
    refine hs_iinc (i := 4) (k := 3) (v := v4 + 1) (lv' := [(4, .int (v4 + 1)), (3, .int (w0 + w1)), (0, va_rf (v0)), (2, .int (v2))]) hx hb dX6_placeOf_57 hl rfl (congrArg (fun z => v4 + z) (by decide)) (by decide) (st_okI (st_okR (st_okI (st_okI st_ok0)))) rfl (fun ls hl => ?_)
    refine lv_goto (tgt := 16) hx hb dX6_placeOf_60 (by decide) ?_
    exact hk16 v0 v2 (w0 + w1) (v4 + 1) _ _ _ _ _ _ hD (lv_sub hl [2, 3, 1, 0] rfl) hf
  have hL16 : ∀ (n : Nat), ∀ (v0 : Option Nat) (v2 : Int32) (v3 : Int32) (v4 : Int32) (σ : PS) (H : Heap) (locs : List Loc) (cells slots : Nat) (ls : Array Slot), Dy D G base E s.heap σ0 σ H locs cells slots → lv_has ls 5 [(0, va_rf (v0)), (2, .int (v2)), (3, .int (v3)), (4, .int (v4))] → f_X6_placeOf_L16 E n v0 v2 v3 v4 σ = some (rv, τ) → W p l e R s m ([.ref a0, .int (p1)] : List Value).toArray below meth c H locs cells slots Q (F0 m 16 ls []) := by
    intro n
    induction n with
    | zero =>
      intro v0 v2 v3 v4 σ H locs cells slots ls hD hl hf
      rw [f_X6_placeOf_L16] at hf
      cases hf
    | succ n ih =>
      intro v0 v2 v3 v4 σ H locs cells slots ls hD hl hf
      rw [f_X6_placeOf_L16] at hf
      refine lv_iload hx hb dX6_placeOf_16 (lv_at hl 3 rfl) ?_
      refine lv_iload_n hx hb dX6_placeOf_18 rfl (lv_at hl 1 rfl) ?_
      refine lv_icmp_ge (tgt := 63) hx hb dX6_placeOf_19 (by decide) (fun hc => ?_) (fun hc => ?_)
      · rw [if_pos hc] at hf
        refine lv_iload_n hx hb dX6_placeOf_63 rfl (lv_at hl 2 rfl) ?_
        obtain ⟨e1, e2⟩ := ret_eq hf
        rw [hQ, ← e1, ← e2]
        exact hw_iret S hlk hret rfl hD dX6_placeOf_64
      · rw [if_neg hc] at hf
        refine lv_iload_n hx hb dX6_placeOf_22 rfl (lv_at hl 2 rfl) ?_
        refine hw_aload_n (r := v0) hx hb dX6_placeOf_23 rfl (lv_at hl 0 rfl) ?_
        obtain ⟨x6, hv, hf⟩ := ob_s hf
        refine hw_gr (C := RX6) (T := TX6) (N := 23) (ref := "SolidGroupsModel") S hKn hD hv rfl (by decide) (by decide) rfl inX6 wd1 (fun _ h9 => h9) dX6_placeOf_24 ?_
        refine lv_iload hx hb dX6_placeOf_27 (lv_at hl 3 rfl) ?_
        obtain ⟨x7, hv, hf⟩ := ob_s hf
        refine hw_al S hKn hD hv dX6_placeOf_29 ?_
        refine hw_aload_n (r := v0) hx hb dX6_placeOf_30 rfl (lv_at hl 0 rfl) ?_
        obtain ⟨x8, hv, hf⟩ := ob_s hf
        refine hw_gr (C := RX6) (T := TX6) (N := 23) (ref := "SolidGroupsModel") S hKn hD hv rfl (by decide) (by decide) rfl inX6 wd1 (fun _ h9 => h9) dX6_placeOf_31 ?_
        refine lv_iload_n hx hb dX6_placeOf_34 rfl (lv_at hl 1 rfl) ?_
        obtain ⟨x9, hv, hf⟩ := ob_s hf
        refine hw_al S hKn hD hv dX6_placeOf_35 ?_
        refine lv_icmp_ne (tgt := 54) hx hb dX6_placeOf_36 (by decide) (fun hc => ?_) (fun hc => ?_)
        · rw [if_neg hc] at hf
          refine lv_iconst (v := (0)) hx hb dX6_placeOf_54 (by decide) ?_
          exact hB55 _ ih v0 v2 v4 v3 (0 : Int32) _ _ _ _ _ _ hD (lv_sub hl [0, 1, 3] rfl) hf
        · rw [if_pos hc] at hf
          refine hw_aload_n (r := v0) hx hb dX6_placeOf_39 rfl (lv_at hl 0 rfl) ?_
          obtain ⟨x10, hv, hf⟩ := ob_s hf
          refine hw_gr (C := RX6) (T := TX6) (N := 23) (ref := "SolidGroupsModel") S hKn hD hv rfl (by decide) (by decide) rfl inX6 wd2 (fun _ h9 => h9) dX6_placeOf_40 ?_
          refine hw_aload_n (r := v0) hx hb dX6_placeOf_43 rfl (lv_at hl 0 rfl) ?_
          obtain ⟨x11, hv, hf⟩ := ob_s hf
          refine hw_gr (C := RX6) (T := TX6) (N := 23) (ref := "SolidGroupsModel") S hKn hD hv rfl (by decide) (by decide) rfl inX6 wd3 (fun _ h9 => h9) dX6_placeOf_44 ?_
          refine lv_iload hx hb dX6_placeOf_47 (lv_at hl 3 rfl) ?_
          obtain ⟨x12, hv, hf⟩ := ob_s hf
          refine hw_al S hKn hD hv dX6_placeOf_49 ?_
          obtain ⟨x13, hv, hf⟩ := ob_s hf
          refine hw_al S hKn hD hv dX6_placeOf_50 ?_
          refine lv_goto (tgt := 55) hx hb dX6_placeOf_51 (by decide) ?_
          exact hB55 _ ih v0 v2 v4 v3 x13 _ _ _ _ _ _ hD (lv_sub hl [0, 1, 3] rfl) hf
  have hl : lv_has ls 5 [(0, va_rf (some a0)), (1, .int (p1))] := hl
  unfold g_X6_placeOf at hf
  refine hw_aload_n (r := (some a0)) hx hb dX6_placeOf_0 rfl (lv_at hl 0 rfl) ?_
  refine hw_aload_n (r := (some a0)) hx hb dX6_placeOf_1 rfl (lv_at hl 0 rfl) ?_
  obtain ⟨x1, hv, hf⟩ := ob_s hf
  refine hw_gr (C := RX6) (T := TX6) (N := 23) (ref := "SolidGroupsModel") S hKn hD hv rfl (by decide) (by decide) rfl inX6 wd0 (fun _ h9 => h9) dX6_placeOf_2 ?_
  refine lv_iload_n hx hb dX6_placeOf_5 rfl (lv_at hl 1 rfl) ?_
  obtain ⟨x2, hv, hf⟩ := ob_s hf
  refine hw_al S hKn hD hv dX6_placeOf_6 ?_
  obtain ⟨b5, hv, hf⟩ := ob_s hf
  obtain ⟨e9, hk9⟩ := oK_of hv
  cases e9
  obtain ⟨r3, s4, hv, hf⟩ := ob_p hf
  refine hw_V (b := a0) (ci := 7) (T := TX6) (N := 23) (As := [.int (x2)]) (rest := []) S hKn hRm hD (c_X6_placeInOrder l D G base E hv) (mo_X6_placeInOrder hv) hk9 rfl (by decide) gX6_placeOf_X6_placeInOrder rfl 1 (by decide +kernel) ⟨by rw [hfr]; decide, by rw [hlo]; decide⟩ rfl hl.1 (Nat.le_trans cs_0 (by decide)) rfl dX6_placeOf_7 (fun H locs cells slots hD => ?_)
  refine W.eq (g2 := F0 m 10 ls [.int (r3)]) rfl ?_
  refine hs_istore_n (i := 2) (lv' := [(2, .int (r3)), (0, va_rf ((some a0))), (1, .int (p1))]) hx hb dX6_placeOf_10 rfl hl (by decide) (st_okR (st_okI st_ok0)) rfl (fun ls hl => ?_)
  refine lv_iconst (v := (0)) hx hb dX6_placeOf_11 (by decide) ?_
  refine hs_istore_n (i := 3) (lv' := [(3, .int ((0 : Int32))), (2, .int (r3)), (0, va_rf ((some a0))), (1, .int (p1))]) hx hb dX6_placeOf_12 rfl hl (by decide) (st_okI (st_okR (st_okI st_ok0))) rfl (fun ls hl => ?_)
  refine lv_iconst (v := (0)) hx hb dX6_placeOf_13 (by decide) ?_
  refine hs_istore (i := 4) (lv' := [(4, .int ((0 : Int32))), (3, .int ((0 : Int32))), (2, .int (r3)), (0, va_rf ((some a0))), (1, .int (p1))]) hx hb dX6_placeOf_14 hl (by decide) (st_okI (st_okI (st_okR (st_okI st_ok0)))) rfl (fun ls hl => ?_)
  exact hL16 _ (some a0) r3 (0 : Int32) (0 : Int32) _ _ _ _ _ _ hD (lv_sub hl [3, 2, 1, 0] rfl) hf
set_option maxHeartbeats 4000000 in
set_option maxRecDepth 100000 in
theorem c_X6_place (l : Launch) (D : va_G) (G : GC) (base : Nat) (E : PE) {a0 : Nat} {p1 : Int32} {σ0 τ : PS} {rv : Int32} (hF : f_X6_place E (some a0) p1 σ0 = some (rv, τ)) : Ct l D G base E yX6_place wsX6_place 2 46 ([.ref a0, .int (p1)] : List Value) σ0 (some (.int rv)) τ := by
  obtain ⟨hf, hmo⟩ := oM_of hF
  refine Ct.of (own := RX6) [1, 1] (by decide) rfl rfl hmo (ct_R (ct_I ct_0)) (by decide) ?_
  intro p e s m below meth c R Q ls H locs cells slots S hKn hRm hfr hlo hlk hret hnm hQ hD hl
  have hx := S.1
  have hb := S.2.1
  have hts := S.2.2.2.2
  have inX6 : ∀ w ∈ u_ws RX6 TX6 23, w ∈ wsX6_place := by decide +kernel
  have wd0 := hts (.fieldLink RX6 64 "SolidGroupsModel" "isPacked" "Z") (by decide +kernel)
  have hB27 : ∀ (w0 : Int32) (σ : PS) (H : Heap) (locs : List Loc) (cells slots : Nat) (ls : Array Slot), Dy D G base E s.heap σ0 σ H locs cells slots → lv_has ls 2 [] → f_X6_place_B27 E w0 σ = some (rv, τ) → W p l e R s m ([.ref a0, .int (p1)] : List Value).toArray below meth c H locs cells slots Q (F0 m 27 ls [.int (w0)]) := by
    intro w0 σ H locs cells slots ls hD hl hf
    unfold f_X6_place_B27 at hf
    obtain ⟨e1, e2⟩ := ret_eq hf
    rw [hQ, ← e1, ← e2]
    exact hw_iret S hlk hret rfl hD dX6_place_27
  have hl : lv_has ls 2 [(0, va_rf (some a0)), (1, .int (p1))] := hl
  unfold g_X6_place at hf
  refine hw_aload_n (r := (some a0)) hx hb dX6_place_0 rfl (lv_at hl 0 rfl) ?_
  refine lv_iload_n hx hb dX6_place_1 rfl (lv_at hl 1 rfl) ?_
  obtain ⟨b3, hv, hf⟩ := ob_s hf
  obtain ⟨e9, hk9⟩ := oK_of hv
  cases e9
  obtain ⟨r1, s2, hv, hf⟩ := ob_p hf
  refine hw_V (b := a0) (ci := 7) (T := TX6) (N := 23) (As := [.int (p1)]) (rest := []) S hKn hRm hD (c_X6_isEntry l D G base E hv) (mo_X6_isEntry hv) hk9 rfl (by decide) gX6_place_X6_isEntry rfl 1 (by decide +kernel) ⟨by rw [hfr]; decide, by rw [hlo]; decide⟩ rfl hl.1 (Nat.le_trans cs_0 (by decide)) rfl dX6_place_2 (fun H locs cells slots hD => ?_)
  refine W.eq (g2 := F0 m 5 ls [.int (r1)]) rfl ?_
  refine lv_if_ne (tgt := 10) hx hb dX6_place_5 (by decide) (fun hc => ?_) (fun hc => ?_)
  · rw [if_neg hc] at hf
    refine hw_aload_n (r := (some a0)) hx hb dX6_place_10 rfl (lv_at hl 0 rfl) ?_
    obtain ⟨x4, hv, hf⟩ := ob_s hf
    refine hw_gi (C := RX6) (T := TX6) (N := 23) (ref := "SolidGroupsModel") S hKn hD hv rfl (by decide) (by decide) rfl inX6 wd0 (fun _ h9 => h9) dX6_place_11 ?_
    refine lv_if_eq (tgt := 25) hx hb dX6_place_14 (by decide) (fun hc => ?_) (fun hc => ?_)
    · rw [if_pos hc] at hf
      refine lv_bipush (v := (-2)) hx hb dX6_place_25 (by decide) ?_
      exact hB27 (-2 : Int32) _ _ _ _ _ _ hD (lv_sub hl [] rfl) hf
    · rw [if_neg hc] at hf
      refine hw_aload_n (r := (some a0)) hx hb dX6_place_17 rfl (lv_at hl 0 rfl) ?_
      refine lv_iload_n hx hb dX6_place_18 rfl (lv_at hl 1 rfl) ?_
      obtain ⟨b7, hv, hf⟩ := ob_s hf
      obtain ⟨e9, hk9⟩ := oK_of hv
      cases e9
      obtain ⟨r5, s6, hv, hf⟩ := ob_p hf
      refine hw_V (b := a0) (ci := 7) (T := TX6) (N := 23) (As := [.int (p1)]) (rest := []) S hKn hRm hD (c_X6_placeOf l D G base E hv) (mo_X6_placeOf hv) hk9 rfl (by decide) gX6_place_X6_placeOf rfl 1 (by decide +kernel) ⟨by rw [hfr]; decide, by rw [hlo]; decide⟩ rfl hl.1 (Nat.le_trans cs_0 (by decide)) rfl dX6_place_19 (fun H locs cells slots hD => ?_)
      refine W.eq (g2 := F0 m 22 ls [.int (r5)]) rfl ?_
      refine lv_goto (tgt := 27) hx hb dX6_place_22 (by decide) ?_
      exact hB27 r5 _ _ _ _ _ _ hD (lv_sub hl [] rfl) hf
  · rw [if_pos hc] at hf
    refine lv_iconst (v := (-1)) hx hb dX6_place_8 (by decide) ?_
    obtain ⟨e1, e2⟩ := ret_eq hf
    rw [hQ, ← e1, ← e2]
    exact hw_iret S hlk hret rfl hD dX6_place_9
set_option maxHeartbeats 4000000 in
set_option maxRecDepth 100000 in
theorem c_X6_access (l : Launch) (D : va_G) (G : GC) (base : Nat) (E : PE) {a0 : Nat} {p1 : Int32} {σ0 τ : PS} {rv : Int32} (hF : f_X6_access E (some a0) p1 σ0 = some (rv, τ)) : Ct l D G base E yX6_access wsX6_access 3 64 ([.ref a0, .int (p1)] : List Value) σ0 (some (.int rv)) τ := by
  obtain ⟨hf, hmo⟩ := oM_of hF
  refine Ct.of (own := RX6) [1, 1] (by decide) rfl rfl hmo (ct_R (ct_I ct_0)) (by decide) ?_
  intro p e s m below meth c R Q ls H locs cells slots S hKn hRm hfr hlo hlk hret hnm hQ hD hl
  have hx := S.1
  have hb := S.2.1
  have hts := S.2.2.2.2
  have inX6 : ∀ w ∈ u_ws RX6 TX6 23, w ∈ wsX6_access := by decide +kernel
  have wd0 := hts (.fieldLink RX6 64 "SolidGroupsModel" "isPacked" "Z") (by decide +kernel)
  have wd1 := hts (.fieldLink RX6 13 "SolidGroupsModel" "sizes" "[I") (by decide +kernel)
  have wd2 := hts (.fieldLink RX6 38 "SolidGroupsModel" "tokens" "[I") (by decide +kernel)
  have hL58 : ∀ (n : Nat), ∀ (v0 : Option Nat) (v2 : Int32) (v3 : Int32) (v4 : Int32) (v5 : Int32) (σ : PS) (H : Heap) (locs : List Loc) (cells slots : Nat) (ls : Array Slot), Dy D G base E s.heap σ0 σ H locs cells slots → lv_has ls 6 [(0, va_rf (v0)), (2, .int (v2)), (3, .int (v3)), (4, .int (v4)), (5, .int (v5))] → f_X6_access_L58 E n v0 v2 v3 v4 v5 σ = some (rv, τ) → W p l e R s m ([.ref a0, .int (p1)] : List Value).toArray below meth c H locs cells slots Q (F0 m 58 ls []) := by
    intro n
    induction n with
    | zero =>
      intro v0 v2 v3 v4 v5 σ H locs cells slots ls hD hl hf
      rw [f_X6_access_L58] at hf
      cases hf
    | succ n ih =>
      intro v0 v2 v3 v4 v5 σ H locs cells slots ls hD hl hf
      rw [f_X6_access_L58] at hf
      refine lv_iload hx hb dX6_access_58 (lv_at hl 4 rfl) ?_
      refine lv_iload_n hx hb dX6_access_60 rfl (lv_at hl 2 rfl) ?_
      refine lv_icmp_ge (tgt := 92) hx hb dX6_access_61 (by decide) (fun hc => ?_) (fun hc => ?_)
      · rw [if_pos hc] at hf
        refine lv_iload hx hb dX6_access_92 (lv_at hl 3 rfl) ?_
        obtain ⟨e1, e2⟩ := ret_eq hf
        rw [hQ, ← e1, ← e2]
        exact hw_iret S hlk hret rfl hD dX6_access_94
      · rw [if_neg hc] at hf
        refine lv_iload hx hb dX6_access_64 (lv_at hl 4 rfl) ?_
        refine hw_aload_n (r := v0) hx hb dX6_access_66 rfl (lv_at hl 0 rfl) ?_
        obtain ⟨x15, hv, hf⟩ := ob_s hf
        refine hw_gr (C := RX6) (T := TX6) (N := 23) (ref := "SolidGroupsModel") S hKn hD hv rfl (by decide) (by decide) rfl inX6 wd2 (fun _ h9 => h9) dX6_access_67 ?_
        refine lv_sipush (v := (5400)) hx hb dX6_access_70 (by decide) ?_
        refine lv_iload_n hx hb dX6_access_73 rfl (lv_at hl 1 rfl) ?_
        refine lv_imul hx hb dX6_access_74 ?_
        refine lv_iconst (v := (3)) hx hb dX6_access_75 (by decide) ?_
        refine lv_iload hx hb dX6_access_76 (lv_at hl 3 rfl) ?_
        refine lv_imul hx hb dX6_access_78 ?_
        refine lv_iadd hx hb dX6_access_79 ?_
        refine lv_iconst (v := (2)) hx hb dX6_access_80 (by decide) ?_
        refine lv_iadd hx hb dX6_access_81 ?_
        obtain ⟨x16, hv, hf⟩ := ob_s hf
        refine hw_al S hKn hD hv dX6_access_82 ?_
        refine lv_iadd hx hb dX6_access_83 ?_
        refine hs_istore (i := 5) (lv' := [(5, .int (v5 + x16)), (0, va_rf (v0)), (2, .int (v2)), (3, .int (v3)), (4, .int (v4))]) hx hb dX6_access_84 hl (by decide) (st_okR (st_okI (st_okI (st_okI (st_okI st_ok0))))) rfl (fun ls hl => ?_)
        refine hs_iinc (i := 4) (k := 4) (v := v4 + 1) (lv' := [(4, .int (v4 + 1)), (5, .int (v5 + x16)), (0, va_rf (v0)), (2, .int (v2)), (3, .int (v3))]) hx hb dX6_access_86 hl rfl (congrArg (fun z => v4 + z) (by decide)) (by decide) (st_okI (st_okR (st_okI (st_okI (st_okI st_ok0))))) rfl (fun ls hl => ?_)
        refine lv_goto (tgt := 58) hx hb dX6_access_89 (by decide) ?_
        exact ih v0 v2 v3 (v4 + 1) (v5 + x16) _ _ _ _ _ _ hD (lv_sub hl [2, 3, 4, 0, 1] rfl) hf
  have hB51 : ∀ (v0 : Option Nat) (v2 : Int32) (w0 : Int32) (σ : PS) (H : Heap) (locs : List Loc) (cells slots : Nat) (ls : Array Slot), Dy D G base E s.heap σ0 σ H locs cells slots → lv_has ls 6 [(0, va_rf (v0)), (2, .int (v2))] → f_X6_access_B51 E v0 v2 w0 σ = some (rv, τ) → W p l e R s m ([.ref a0, .int (p1)] : List Value).toArray below meth c H locs cells slots Q (F0 m 51 ls [.int (w0)]) := by
    intro v0 v2 w0 σ H locs cells slots ls hD hl hf
    unfold f_X6_access_B51 at hf
    refine hs_istore_n (i := 3) (lv' := [(3, .int (w0)), (0, va_rf (v0)), (2, .int (v2))]) hx hb dX6_access_51 rfl hl (by decide) (st_okR (st_okI st_ok0)) rfl (fun ls hl => ?_)
    refine lv_iconst (v := (0)) hx hb dX6_access_52 (by decide) ?_
    refine hs_istore (i := 4) (lv' := [(4, .int ((0 : Int32))), (3, .int (w0)), (0, va_rf (v0)), (2, .int (v2))]) hx hb dX6_access_53 hl (by decide) (st_okI (st_okR (st_okI st_ok0))) rfl (fun ls hl => ?_)
    refine lv_iconst (v := (0)) hx hb dX6_access_55 (by decide) ?_
    refine hs_istore (i := 5) (lv' := [(5, .int ((0 : Int32))), (4, .int ((0 : Int32))), (3, .int (w0)), (0, va_rf (v0)), (2, .int (v2))]) hx hb dX6_access_56 hl (by decide) (st_okI (st_okI (st_okR (st_okI st_ok0)))) rfl (fun ls hl => ?_)
    exact hL58 _ v0 v2 w0 (0 : Int32) (0 : Int32) _ _ _ _ _ _ hD (lv_sub hl [3, 4, 2, 1, 0] rfl) hf
  have hl : lv_has ls 6 [(0, va_rf (some a0)), (1, .int (p1))] := hl
  unfold g_X6_access at hf
  refine hw_aload_n (r := (some a0)) hx hb dX6_access_0 rfl (lv_at hl 0 rfl) ?_
  refine lv_iload_n hx hb dX6_access_1 rfl (lv_at hl 1 rfl) ?_
  obtain ⟨b3, hv, hf⟩ := ob_s hf
  obtain ⟨e9, hk9⟩ := oK_of hv
  cases e9
  obtain ⟨r1, s2, hv, hf⟩ := ob_p hf
  refine hw_V (b := a0) (ci := 7) (T := TX6) (N := 23) (As := [.int (p1)]) (rest := []) S hKn hRm hD (c_X6_isEntry l D G base E hv) (mo_X6_isEntry hv) hk9 rfl (by decide) gX6_access_X6_isEntry rfl 1 (by decide +kernel) ⟨by rw [hfr]; decide, by rw [hlo]; decide⟩ rfl hl.1 (Nat.le_trans cs_0 (by decide)) rfl dX6_access_2 (fun H locs cells slots hD => ?_)
  refine W.eq (g2 := F0 m 5 ls [.int (r1)]) rfl ?_
  refine lv_if_ne (tgt := 10) hx hb dX6_access_5 (by decide) (fun hc => ?_) (fun hc => ?_)
  · rw [if_neg hc] at hf
    refine hw_aload_n (r := (some a0)) hx hb dX6_access_10 rfl (lv_at hl 0 rfl) ?_
    obtain ⟨x4, hv, hf⟩ := ob_s hf
    refine hw_gi (C := RX6) (T := TX6) (N := 23) (ref := "SolidGroupsModel") S hKn hD hv rfl (by decide) (by decide) rfl inX6 wd0 (fun _ h9 => h9) dX6_access_11 ?_
    refine lv_if_ne (tgt := 20) hx hb dX6_access_14 (by decide) (fun hc => ?_) (fun hc => ?_)
    · rw [if_neg hc] at hf
      refine hw_aload_n (r := (some a0)) hx hb dX6_access_20 rfl (lv_at hl 0 rfl) ?_
      refine lv_iload_n hx hb dX6_access_21 rfl (lv_at hl 1 rfl) ?_
      obtain ⟨b7, hv, hf⟩ := ob_s hf
      obtain ⟨e9, hk9⟩ := oK_of hv
      cases e9
      obtain ⟨r5, s6, hv, hf⟩ := ob_p hf
      refine hw_V (b := a0) (ci := 7) (T := TX6) (N := 23) (As := [.int (p1)]) (rest := []) S hKn hRm hD (c_X6_group l D G base E hv) (mo_X6_group hv) hk9 rfl (by decide) gX6_access_X6_group rfl 1 (by decide +kernel) ⟨by rw [hfr]; decide, by rw [hlo]; decide⟩ rfl hl.1 (Nat.le_trans cs_0 (by decide)) rfl dX6_access_22 (fun H locs cells slots hD => ?_)
      refine W.eq (g2 := F0 m 25 ls [.int (r5)]) rfl ?_
      refine hs_istore_n (i := 2) (lv' := [(2, .int (r5)), (0, va_rf ((some a0))), (1, .int (p1))]) hx hb dX6_access_25 rfl hl (by decide) (st_okR (st_okI st_ok0)) rfl (fun ls hl => ?_)
      refine hw_aload_n (r := (some a0)) hx hb dX6_access_26 rfl (lv_at hl 1 rfl) ?_
      obtain ⟨x8, hv, hf⟩ := ob_s hf
      refine hw_gr (C := RX6) (T := TX6) (N := 23) (ref := "SolidGroupsModel") S hKn hD hv rfl (by decide) (by decide) rfl inX6 wd1 (fun _ h9 => h9) dX6_access_27 ?_
      refine lv_iload_n hx hb dX6_access_30 rfl (lv_at hl 2 rfl) ?_
      obtain ⟨x9, hv, hf⟩ := ob_s hf
      refine hw_al S hKn hD hv dX6_access_31 ?_
      refine lv_if_ne (tgt := 39) hx hb dX6_access_32 (by decide) (fun hc => ?_) (fun hc => ?_)
      · rw [if_neg hc] at hf
        refine hw_aload_n (r := (some a0)) hx hb dX6_access_39 rfl (lv_at hl 1 rfl) ?_
        refine lv_iload_n hx hb dX6_access_40 rfl (lv_at hl 2 rfl) ?_
        obtain ⟨b12, hv, hf⟩ := ob_s hf
        obtain ⟨e9, hk9⟩ := oK_of hv
        cases e9
        obtain ⟨r10, s11, hv, hf⟩ := ob_p hf
        refine hw_V (b := a0) (ci := 7) (T := TX6) (N := 23) (As := [.int (p1)]) (rest := []) S hKn hRm hD (c_X6_placeOf l D G base E hv) (mo_X6_placeOf hv) hk9 rfl (by decide) gX6_access_X6_placeOf rfl 1 (by decide +kernel) ⟨by rw [hfr]; decide, by rw [hlo]; decide⟩ rfl hl.1 (Nat.le_trans cs_0 (by decide)) rfl dX6_access_41 (fun H locs cells slots hD => ?_)
        refine W.eq (g2 := F0 m 44 ls [.int (r10)]) rfl ?_
        refine hw_aload_n (r := (some a0)) hx hb dX6_access_44 rfl (lv_at hl 1 rfl) ?_
        obtain ⟨x13, hv, hf⟩ := ob_s hf
        refine hw_gr (C := RX6) (T := TX6) (N := 23) (ref := "SolidGroupsModel") S hKn hD hv rfl (by decide) (by decide) rfl inX6 wd1 (fun _ h9 => h9) dX6_access_45 ?_
        refine lv_iload_n hx hb dX6_access_48 rfl (lv_at hl 2 rfl) ?_
        obtain ⟨x14, hv, hf⟩ := ob_s hf
        refine hw_al S hKn hD hv dX6_access_49 ?_
        refine lv_iadd hx hb dX6_access_50 ?_
        exact hB51 (some a0) r5 (r10 + x14) _ _ _ _ _ _ hD (lv_sub hl [1, 0] rfl) hf
      · rw [if_pos hc] at hf
        refine lv_iconst (v := (0)) hx hb dX6_access_35 (by decide) ?_
        refine lv_goto (tgt := 51) hx hb dX6_access_36 (by decide) ?_
        exact hB51 (some a0) r5 (0 : Int32) _ _ _ _ _ _ hD (lv_sub hl [1, 0] rfl) hf
    · rw [if_pos hc] at hf
      refine lv_bipush (v := (-2)) hx hb dX6_access_17 (by decide) ?_
      obtain ⟨e1, e2⟩ := ret_eq hf
      rw [hQ, ← e1, ← e2]
      exact hw_iret S hlk hret rfl hD dX6_access_19
  · rw [if_pos hc] at hf
    refine lv_iconst (v := (-1)) hx hb dX6_access_8 (by decide) ?_
    obtain ⟨e1, e2⟩ := ret_eq hf
    rw [hQ, ← e1, ← e2]
    exact hw_iret S hlk hret rfl hD dX6_access_9
set_option maxHeartbeats 4000000 in
set_option maxRecDepth 100000 in
theorem c_X6_open (l : Launch) (D : va_G) (G : GC) (base : Nat) (E : PE) {a0 : Nat} {p1 : Int32} {p2 : Int32} {σ0 τ : PS} {rv : Int32} (hF : f_X6_open E (some a0) p1 p2 σ0 = some (rv, τ)) : Ct l D G base E yX6_open wsX6_open 3 64 ([.ref a0, .int (p1), .int (p2)] : List Value) σ0 (some (.int rv)) τ := by
  obtain ⟨hf, hmo⟩ := oM_of hF
  refine Ct.of (own := RX6) [1, 1, 1] (by decide) rfl rfl hmo (ct_R (ct_I (ct_I ct_0))) (by decide) ?_
  intro p e s m below meth c R Q ls H locs cells slots S hKn hRm hfr hlo hlk hret hnm hQ hD hl
  have hx := S.1
  have hb := S.2.1
  have hts := S.2.2.2.2
  have inX6 : ∀ w ∈ u_ws RX6 TX6 23, w ∈ wsX6_open := by decide +kernel
  have wd0 := hts (.fieldLink RX6 13 "SolidGroupsModel" "sizes" "[I") (by decide +kernel)
  have wd1 := hts (.fieldLink RX6 64 "SolidGroupsModel" "isPacked" "Z") (by decide +kernel)
  have wd2 := hts (.fieldLink RX6 34 "SolidGroupsModel" "tokenMany" "[I") (by decide +kernel)
  have wd3 := hts (.fieldLink RX6 53 "SolidGroupsModel" "all" "[I") (by decide +kernel)
  have wd4 := hts (.fieldLink RX6 38 "SolidGroupsModel" "tokens" "[I") (by decide +kernel)
  have hB24 : ∀ (σ : PS) (H : Heap) (locs : List Loc) (cells slots : Nat) (ls : Array Slot), Dy D G base E s.heap σ0 σ H locs cells slots → lv_has ls 8 [] → f_X6_open_B24 E σ = some (rv, τ) → W p l e R s m ([.ref a0, .int (p1), .int (p2)] : List Value).toArray below meth c H locs cells slots Q (F0 m 24 ls []) := by
    intro σ H locs cells slots ls hD hl hf
    unfold f_X6_open_B24 at hf
    refine lv_iconst (v := (-1)) hx hb dX6_open_24 (by decide) ?_
    obtain ⟨e1, e2⟩ := ret_eq hf
    rw [hQ, ← e1, ← e2]
    exact hw_iret S hlk hret rfl hD dX6_open_25
  have hB131 : ∀ (k48 : Option Nat → Int32 → Int32 → Int32 → Int32 → Int32 → PS → Option (Int32 × PS)) (hk48 : ∀ (z0 : Option Nat) (z1 : Int32) (z2 : Int32) (z3 : Int32) (z4 : Int32) (z5 : Int32) (σ : PS) (H : Heap) (locs : List Loc) (cells slots : Nat) (ls : Array Slot), Dy D G base E s.heap σ0 σ H locs cells slots → lv_has ls 8 [(0, va_rf (z0)), (1, .int (z1)), (2, .int (z2)), (3, .int (z3)), (4, .int (z4)), (5, .int (z5))] → k48 z0 z1 z2 z3 z4 z5 σ = some (rv, τ) → W p l e R s m ([.ref a0, .int (p1), .int (p2)] : List Value).toArray below meth c H locs cells slots Q (F0 m 48 ls [])) (k74 : Option Nat → Int32 → Int32 → Int32 → Int32 → Int32 → Int32 → Int32 → PS → Option (Int32 × PS)) (hk74 : ∀ (z0 : Option Nat) (z1 : Int32) (z2 : Int32) (z3 : Int32) (z4 : Int32) (z5 : Int32) (z6 : Int32) (z7 : Int32) (σ : PS) (H : Heap) (locs : List Loc) (cells slots : Nat) (ls : Array Slot), Dy D G base E s.heap σ0 σ H locs cells slots → lv_has ls 8 [(0, va_rf (z0)), (1, .int (z1)), (2, .int (z2)), (3, .int (z3)), (4, .int (z4)), (5, .int (z5)), (6, .int (z6)), (7, .int (z7))] → k74 z0 z1 z2 z3 z4 z5 z6 z7 σ = some (rv, τ) → W p l e R s m ([.ref a0, .int (p1), .int (p2)] : List Value).toArray below meth c H locs cells slots Q (F0 m 74 ls [])), ∀ (v0 : Option Nat) (v1 : Int32) (v2 : Int32) (v3 : Int32) (v4 : Int32) (v5 : Int32) (v6 : Int32) (v7 : Int32) (w0 : Option Nat) (w1 : Int32) (w2 : Int32) (σ : PS) (H : Heap) (locs : List Loc) (cells slots : Nat) (ls : Array Slot), Dy D G base E s.heap σ0 σ H locs cells slots → lv_has ls 8 [(0, va_rf (v0)), (1, .int (v1)), (2, .int (v2)), (3, .int (v3)), (4, .int (v4)), (5, .int (v5)), (6, .int (v6)), (7, .int (v7))] → f_X6_open_B131 E k48 k74 v0 v1 v2 v3 v4 v5 v6 v7 w0 w1 w2 σ = some (rv, τ) → W p l e R s m ([.ref a0, .int (p1), .int (p2)] : List Value).toArray below meth c H locs cells slots Q (F0 m 131 ls [.int (w2), .int (w1), va_rf (w0)]) := by
    intro k48 hk48 k74 hk74 v0 v1 v2 v3 v4 v5 v6 v7 w0 w1 w2 σ H locs cells slots ls hD hl hf
    unfold f_X6_open_B131 at hf
    obtain ⟨s30, hv, hf⟩ := ob_s hf
    refine hw_as S hKn hD hv dX6_open_131 (fun H locs hD => ?_)
    refine hs_iinc (i := 4) (k := 4) (v := v4 + 1) (lv' := [(4, .int (v4 + 1)), (0, va_rf (v0)), (1, .int (v1)), (2, .int (v2)), (3, .int (v3)), (5, .int (v5)), (6, .int (v6)), (7, .int (v7))]) hx hb dX6_open_132 hl rfl (congrArg (fun z => v4 + z) (by decide)) (by decide) (st_okR (st_okI (st_okI (st_okI (st_okI (st_okI (st_okI (st_okI st_ok0)))))))) rfl (fun ls hl => ?_)
    refine hs_iinc (i := 7) (k := 7) (v := v7 + 1) (lv' := [(7, .int (v7 + 1)), (4, .int (v4 + 1)), (0, va_rf (v0)), (1, .int (v1)), (2, .int (v2)), (3, .int (v3)), (5, .int (v5)), (6, .int (v6))]) hx hb dX6_open_135 hl rfl (congrArg (fun z => v7 + z) (by decide)) (by decide) (st_okI (st_okR (st_okI (st_okI (st_okI (st_okI (st_okI (st_okI st_ok0)))))))) rfl (fun ls hl => ?_)
    refine lv_goto (tgt := 74) hx hb dX6_open_138 (by decide) ?_
    exact hk74 v0 v1 v2 v3 (v4 + 1) v5 v6 (v7 + 1) _ _ _ _ _ _ hD (lv_sub hl [2, 3, 4, 5, 1, 6, 7, 0] rfl) hf
  have hL74 : ∀ (k48 : Option Nat → Int32 → Int32 → Int32 → Int32 → Int32 → PS → Option (Int32 × PS)) (hk48 : ∀ (z0 : Option Nat) (z1 : Int32) (z2 : Int32) (z3 : Int32) (z4 : Int32) (z5 : Int32) (σ : PS) (H : Heap) (locs : List Loc) (cells slots : Nat) (ls : Array Slot), Dy D G base E s.heap σ0 σ H locs cells slots → lv_has ls 8 [(0, va_rf (z0)), (1, .int (z1)), (2, .int (z2)), (3, .int (z3)), (4, .int (z4)), (5, .int (z5))] → k48 z0 z1 z2 z3 z4 z5 σ = some (rv, τ) → W p l e R s m ([.ref a0, .int (p1), .int (p2)] : List Value).toArray below meth c H locs cells slots Q (F0 m 48 ls [])) (n : Nat), ∀ (v0 : Option Nat) (v1 : Int32) (v2 : Int32) (v3 : Int32) (v4 : Int32) (v5 : Int32) (v6 : Int32) (v7 : Int32) (σ : PS) (H : Heap) (locs : List Loc) (cells slots : Nat) (ls : Array Slot), Dy D G base E s.heap σ0 σ H locs cells slots → lv_has ls 8 [(0, va_rf (v0)), (1, .int (v1)), (2, .int (v2)), (3, .int (v3)), (4, .int (v4)), (5, .int (v5)), (6, .int (v6)), (7, .int (v7))] → f_X6_open_L74 E k48 n v0 v1 v2 v3 v4 v5 v6 v7 σ = some (rv, τ) → W p l e R s m ([.ref a0, .int (p1), .int (p2)] : List Value).toArray below meth c H locs cells slots Q (F0 m 74 ls []) := by
    intro k48 hk48 n
    induction n with
    | zero =>
      intro v0 v1 v2 v3 v4 v5 v6 v7 σ H locs cells slots ls hD hl hf
      rw [f_X6_open_L74] at hf
      cases hf
    | succ n ih =>
      intro v0 v1 v2 v3 v4 v5 v6 v7 σ H locs cells slots ls hD hl hf
      rw [f_X6_open_L74] at hf
      refine lv_iload hx hb dX6_open_74 (lv_at hl 7 rfl) ?_
      refine hw_aload_n (r := v0) hx hb dX6_open_76 rfl (lv_at hl 0 rfl) ?_
      obtain ⟨x19, hv, hf⟩ := ob_s hf
      refine hw_gr (C := RX6) (T := TX6) (N := 23) (ref := "SolidGroupsModel") S hKn hD hv rfl (by decide) (by decide) rfl inX6 wd4 (fun _ h9 => h9) dX6_open_77 ?_
      refine lv_iload hx hb dX6_open_80 (lv_at hl 6 rfl) ?_
      refine lv_iconst (v := (2)) hx hb dX6_open_82 (by decide) ?_
      refine lv_iadd hx hb dX6_open_83 ?_
      obtain ⟨x20, hv, hf⟩ := ob_s hf
      refine hw_al S hKn hD hv dX6_open_84 ?_
      refine lv_icmp_ge (tgt := 141) hx hb dX6_open_85 (by decide) (fun hc => ?_) (fun hc => ?_)
      · rw [if_pos hc] at hf
        refine hs_iinc (i := 5) (k := 5) (v := v5 + 1) (lv' := [(5, .int (v5 + 1)), (0, va_rf (v0)), (1, .int (v1)), (2, .int (v2)), (3, .int (v3)), (4, .int (v4)), (6, .int (v6)), (7, .int (v7))]) hx hb dX6_open_141 hl rfl (congrArg (fun z => v5 + z) (by decide)) (by decide) (st_okR (st_okI (st_okI (st_okI (st_okI (st_okI (st_okI (st_okI st_ok0)))))))) rfl (fun ls hl => ?_)
        refine lv_goto (tgt := 48) hx hb dX6_open_144 (by decide) ?_
        exact hk48 v0 v1 v2 v3 v4 (v5 + 1) _ _ _ _ _ _ hD (lv_sub hl [1, 2, 3, 4, 5, 0] rfl) hf
      · rw [if_neg hc] at hf
        refine hw_aload_n (r := v0) hx hb dX6_open_88 rfl (lv_at hl 0 rfl) ?_
        obtain ⟨x21, hv, hf⟩ := ob_s hf
        refine hw_gr (C := RX6) (T := TX6) (N := 23) (ref := "SolidGroupsModel") S hKn hD hv rfl (by decide) (by decide) rfl inX6 wd3 (fun _ h9 => h9) dX6_open_89 ?_
        refine lv_iload hx hb dX6_open_92 (lv_at hl 4 rfl) ?_
        refine hw_aload_n (r := v0) hx hb dX6_open_94 rfl (lv_at hl 0 rfl) ?_
        obtain ⟨x22, hv, hf⟩ := ob_s hf
        refine hw_gr (C := RX6) (T := TX6) (N := 23) (ref := "SolidGroupsModel") S hKn hD hv rfl (by decide) (by decide) rfl inX6 wd4 (fun _ h9 => h9) dX6_open_95 ?_
        refine lv_iload hx hb dX6_open_98 (lv_at hl 6 rfl) ?_
        obtain ⟨x23, hv, hf⟩ := ob_s hf
        refine hw_al S hKn hD hv dX6_open_100 ?_
        refine lv_if_lt (tgt := 114) hx hb dX6_open_101 (by decide) (fun hc => ?_) (fun hc => ?_)
        · rw [if_pos hc] at hf
          refine hw_aload_n (r := v0) hx hb dX6_open_114 rfl (lv_at hl 0 rfl) ?_
          obtain ⟨x24, hv, hf⟩ := ob_s hf
          refine hw_gr (C := RX6) (T := TX6) (N := 23) (ref := "SolidGroupsModel") S hKn hD hv rfl (by decide) (by decide) rfl inX6 wd3 (fun _ h9 => h9) dX6_open_115 ?_
          refine lv_iload hx hb dX6_open_118 (lv_at hl 4 rfl) ?_
          refine hw_aload_n (r := v0) hx hb dX6_open_120 rfl (lv_at hl 0 rfl) ?_
          obtain ⟨x25, hv, hf⟩ := ob_s hf
          refine hw_gr (C := RX6) (T := TX6) (N := 23) (ref := "SolidGroupsModel") S hKn hD hv rfl (by decide) (by decide) rfl inX6 wd4 (fun _ h9 => h9) dX6_open_121 ?_
          refine lv_iload hx hb dX6_open_124 (lv_at hl 6 rfl) ?_
          refine lv_iconst (v := (1)) hx hb dX6_open_126 (by decide) ?_
          refine lv_iadd hx hb dX6_open_127 ?_
          obtain ⟨x26, hv, hf⟩ := ob_s hf
          refine hw_al S hKn hD hv dX6_open_128 ?_
          refine lv_isub hx hb dX6_open_129 ?_
          obtain ⟨x27, hv, hf⟩ := ob_s hf
          refine hw_al S hKn hD hv dX6_open_130 ?_
          exact hB131 _ hk48 _ ih v0 v1 v2 v3 v4 v5 v6 v7 x21 v4 x27 _ _ _ _ _ _ hD (lv_sub hl [0, 1, 2, 3, 4, 5, 6, 7] rfl) hf
        · rw [if_neg hc] at hf
          refine hw_aload_n (r := v0) hx hb dX6_open_104 rfl (lv_at hl 0 rfl) ?_
          obtain ⟨x28, hv, hf⟩ := ob_s hf
          refine hw_gr (C := RX6) (T := TX6) (N := 23) (ref := "SolidGroupsModel") S hKn hD hv rfl (by decide) (by decide) rfl inX6 wd4 (fun _ h9 => h9) dX6_open_105 ?_
          refine lv_iload hx hb dX6_open_108 (lv_at hl 6 rfl) ?_
          obtain ⟨x29, hv, hf⟩ := ob_s hf
          refine hw_al S hKn hD hv dX6_open_110 ?_
          refine lv_goto (tgt := 131) hx hb dX6_open_111 (by decide) ?_
          exact hB131 _ hk48 _ ih v0 v1 v2 v3 v4 v5 v6 v7 x21 v4 x29 _ _ _ _ _ _ hD (lv_sub hl [0, 1, 2, 3, 4, 5, 6, 7] rfl) hf
  have hL48 : ∀ (n : Nat), ∀ (v0 : Option Nat) (v1 : Int32) (v2 : Int32) (v3 : Int32) (v4 : Int32) (v5 : Int32) (σ : PS) (H : Heap) (locs : List Loc) (cells slots : Nat) (ls : Array Slot), Dy D G base E s.heap σ0 σ H locs cells slots → lv_has ls 8 [(0, va_rf (v0)), (1, .int (v1)), (2, .int (v2)), (3, .int (v3)), (4, .int (v4)), (5, .int (v5))] → f_X6_open_L48 E n v0 v1 v2 v3 v4 v5 σ = some (rv, τ) → W p l e R s m ([.ref a0, .int (p1), .int (p2)] : List Value).toArray below meth c H locs cells slots Q (F0 m 48 ls []) := by
    intro n
    induction n with
    | zero =>
      intro v0 v1 v2 v3 v4 v5 σ H locs cells slots ls hD hl hf
      rw [f_X6_open_L48] at hf
      cases hf
    | succ n ih =>
      intro v0 v1 v2 v3 v4 v5 σ H locs cells slots ls hD hl hf
      rw [f_X6_open_L48] at hf
      refine lv_iload hx hb dX6_open_48 (lv_at hl 5 rfl) ?_
      refine hw_aload_n (r := v0) hx hb dX6_open_50 rfl (lv_at hl 0 rfl) ?_
      obtain ⟨x12, hv, hf⟩ := ob_s hf
      refine hw_gr (C := RX6) (T := TX6) (N := 23) (ref := "SolidGroupsModel") S hKn hD hv rfl (by decide) (by decide) rfl inX6 wd2 (fun _ h9 => h9) dX6_open_51 ?_
      refine lv_iload_n hx hb dX6_open_54 rfl (lv_at hl 3 rfl) ?_
      obtain ⟨x13, hv, hf⟩ := ob_s hf
      refine hw_al S hKn hD hv dX6_open_55 ?_
      refine lv_icmp_ge (tgt := 147) hx hb dX6_open_56 (by decide) (fun hc => ?_) (fun hc => ?_)
      · rw [if_pos hc] at hf
        refine hw_aload_n (r := v0) hx hb dX6_open_147 rfl (lv_at hl 0 rfl) ?_
        obtain ⟨x14, hv, hf⟩ := ob_s hf
        refine hw_gr (C := RX6) (T := TX6) (N := 23) (ref := "SolidGroupsModel") S hKn hD hv rfl (by decide) (by decide) rfl inX6 wd3 (fun _ h9 => h9) dX6_open_148 ?_
        refine hw_aload_n (r := v0) hx hb dX6_open_151 rfl (lv_at hl 0 rfl) ?_
        refine lv_iload_n hx hb dX6_open_152 rfl (lv_at hl 1 rfl) ?_
        obtain ⟨b17, hv, hf⟩ := ob_s hf
        obtain ⟨e9, hk9⟩ := oK_of hv
        cases e9
        obtain ⟨r15, s16, hv, hf⟩ := ob_p hf
        refine hw_V (b := b17) (ci := 7) (T := TX6) (N := 23) (As := [.int (v1)]) (rest := [va_rf (x14)]) S hKn hRm hD (c_X6_placeOf l D G base E hv) (mo_X6_placeOf hv) hk9 rfl (by decide) gX6_open_X6_placeOf rfl 1 (by decide +kernel) ⟨by rw [hfr]; decide, by rw [hlo]; decide⟩ rfl hl.1 (Nat.le_trans (cs_A cs_0) (by decide)) rfl dX6_open_153 (fun H locs cells slots hD => ?_)
        refine W.eq (g2 := F0 m 156 ls [.int (r15), va_rf (x14)]) rfl ?_
        refine lv_iload_n hx hb dX6_open_156 rfl (lv_at hl 2 rfl) ?_
        refine lv_iadd hx hb dX6_open_157 ?_
        obtain ⟨x18, hv, hf⟩ := ob_s hf
        refine hw_al S hKn hD hv dX6_open_158 ?_
        obtain ⟨e1, e2⟩ := ret_eq hf
        rw [hQ, ← e1, ← e2]
        exact hw_iret S hlk hret rfl hD dX6_open_159
      · rw [if_neg hc] at hf
        refine lv_sipush (v := (5400)) hx hb dX6_open_59 (by decide) ?_
        refine lv_iload_n hx hb dX6_open_62 rfl (lv_at hl 3 rfl) ?_
        refine lv_imul hx hb dX6_open_63 ?_
        refine lv_iconst (v := (3)) hx hb dX6_open_64 (by decide) ?_
        refine lv_iload hx hb dX6_open_65 (lv_at hl 5 rfl) ?_
        refine lv_imul hx hb dX6_open_67 ?_
        refine lv_iadd hx hb dX6_open_68 ?_
        refine hs_istore (i := 6) (lv' := [(6, .int (((5400 : Int32) * v3) + ((3 : Int32) * v5))), (0, va_rf (v0)), (1, .int (v1)), (2, .int (v2)), (3, .int (v3)), (4, .int (v4)), (5, .int (v5))]) hx hb dX6_open_69 hl (by decide) (st_okR (st_okI (st_okI (st_okI (st_okI (st_okI st_ok0)))))) rfl (fun ls hl => ?_)
        refine lv_iconst (v := (0)) hx hb dX6_open_71 (by decide) ?_
        refine hs_istore (i := 7) (lv' := [(7, .int ((0 : Int32))), (6, .int (((5400 : Int32) * v3) + ((3 : Int32) * v5))), (0, va_rf (v0)), (1, .int (v1)), (2, .int (v2)), (3, .int (v3)), (4, .int (v4)), (5, .int (v5))]) hx hb dX6_open_72 hl (by decide) (st_okI (st_okR (st_okI (st_okI (st_okI (st_okI (st_okI st_ok0))))))) rfl (fun ls hl => ?_)
        exact hL74 _ ih _ v0 v1 v2 v3 v4 v5 (((5400 : Int32) * v3) + ((3 : Int32) * v5)) (0 : Int32) _ _ _ _ _ _ hD (lv_sub hl [2, 3, 4, 5, 6, 7, 1, 0] rfl) hf
  have hl : lv_has ls 8 [(0, va_rf (some a0)), (1, .int (p1)), (2, .int (p2))] := hl
  unfold g_X6_open at hf
  refine hw_aload_n (r := (some a0)) hx hb dX6_open_0 rfl (lv_at hl 0 rfl) ?_
  refine lv_iload_n hx hb dX6_open_1 rfl (lv_at hl 1 rfl) ?_
  obtain ⟨b3, hv, hf⟩ := ob_s hf
  obtain ⟨e9, hk9⟩ := oK_of hv
  cases e9
  obtain ⟨r1, s2, hv, hf⟩ := ob_p hf
  refine hw_V (b := a0) (ci := 7) (T := TX6) (N := 23) (As := [.int (p1)]) (rest := []) S hKn hRm hD (c_X6_isEntry l D G base E hv) (mo_X6_isEntry hv) hk9 rfl (by decide) gX6_open_X6_isEntry rfl 1 (by decide +kernel) ⟨by rw [hfr]; decide, by rw [hlo]; decide⟩ rfl hl.1 (Nat.le_trans cs_0 (by decide)) rfl dX6_open_2 (fun H locs cells slots hD => ?_)
  refine W.eq (g2 := F0 m 5 ls [.int (r1)]) rfl ?_
  refine lv_if_eq (tgt := 24) hx hb dX6_open_5 (by decide) (fun hc => ?_) (fun hc => ?_)
  · rw [if_pos hc] at hf
    exact hB24 _ _ _ _ _ _ hD (lv_sub hl [] rfl) hf
  · rw [if_neg hc] at hf
    refine lv_iload_n hx hb dX6_open_8 rfl (lv_at hl 2 rfl) ?_
    refine lv_iconst (v := (0)) hx hb dX6_open_9 (by decide) ?_
    refine hw_aload_n (r := (some a0)) hx hb dX6_open_10 rfl (lv_at hl 0 rfl) ?_
    obtain ⟨x4, hv, hf⟩ := ob_s hf
    refine hw_gr (C := RX6) (T := TX6) (N := 23) (ref := "SolidGroupsModel") S hKn hD hv rfl (by decide) (by decide) rfl inX6 wd0 (fun _ h9 => h9) dX6_open_11 ?_
    refine lv_iload_n hx hb dX6_open_14 rfl (lv_at hl 1 rfl) ?_
    obtain ⟨x5, hv, hf⟩ := ob_s hf
    refine hw_al S hKn hD hv dX6_open_15 ?_
    refine lv_iconst (v := (1)) hx hb dX6_open_16 (by decide) ?_
    refine lv_isub hx hb dX6_open_17 ?_
    obtain ⟨r6, s7, hv, hf⟩ := ob_p hf
    refine hw_S (As := [.int (p2), .int ((0 : Int32)), .int (x5 - (1 : Int32))]) (rest := []) S hKn hRm hD (c_X6_isIn l D G base E hv) (mo_X6_isIn hv) gX6_open_X6_isIn rfl 3 (by decide +kernel) ⟨by rw [hfr]; decide, by rw [hlo]; decide⟩ rfl hl.1 (Nat.le_trans cs_0 (by decide)) rfl dX6_open_18 (fun H locs cells slots hD => ?_)
    refine W.eq (g2 := F0 m 21 ls [.int (r6)]) rfl ?_
    refine lv_if_ne (tgt := 26) hx hb dX6_open_21 (by decide) (fun hc => ?_) (fun hc => ?_)
    · rw [if_neg hc] at hf
      refine hw_aload_n (r := (some a0)) hx hb dX6_open_26 rfl (lv_at hl 0 rfl) ?_
      obtain ⟨x8, hv, hf⟩ := ob_s hf
      refine hw_gi (C := RX6) (T := TX6) (N := 23) (ref := "SolidGroupsModel") S hKn hD hv rfl (by decide) (by decide) rfl inX6 wd1 (fun _ h9 => h9) dX6_open_27 ?_
      refine lv_if_ne (tgt := 36) hx hb dX6_open_30 (by decide) (fun hc => ?_) (fun hc => ?_)
      · rw [if_neg hc] at hf
        refine hw_aload_n (r := (some a0)) hx hb dX6_open_36 rfl (lv_at hl 0 rfl) ?_
        refine lv_iload_n hx hb dX6_open_37 rfl (lv_at hl 1 rfl) ?_
        obtain ⟨b11, hv, hf⟩ := ob_s hf
        obtain ⟨e9, hk9⟩ := oK_of hv
        cases e9
        obtain ⟨r9, s10, hv, hf⟩ := ob_p hf
        refine hw_V (b := a0) (ci := 7) (T := TX6) (N := 23) (As := [.int (p1)]) (rest := []) S hKn hRm hD (c_X6_group l D G base E hv) (mo_X6_group hv) hk9 rfl (by decide) gX6_open_X6_group rfl 1 (by decide +kernel) ⟨by rw [hfr]; decide, by rw [hlo]; decide⟩ rfl hl.1 (Nat.le_trans cs_0 (by decide)) rfl dX6_open_38 (fun H locs cells slots hD => ?_)
        refine W.eq (g2 := F0 m 41 ls [.int (r9)]) rfl ?_
        refine hs_istore_n (i := 3) (lv' := [(3, .int (r9)), (0, va_rf ((some a0))), (1, .int (p1)), (2, .int (p2))]) hx hb dX6_open_41 rfl hl (by decide) (st_okR (st_okI (st_okI st_ok0))) rfl (fun ls hl => ?_)
        refine lv_iconst (v := (0)) hx hb dX6_open_42 (by decide) ?_
        refine hs_istore (i := 4) (lv' := [(4, .int ((0 : Int32))), (3, .int (r9)), (0, va_rf ((some a0))), (1, .int (p1)), (2, .int (p2))]) hx hb dX6_open_43 hl (by decide) (st_okI (st_okR (st_okI (st_okI st_ok0)))) rfl (fun ls hl => ?_)
        refine lv_iconst (v := (0)) hx hb dX6_open_45 (by decide) ?_
        refine hs_istore (i := 5) (lv' := [(5, .int ((0 : Int32))), (4, .int ((0 : Int32))), (3, .int (r9)), (0, va_rf ((some a0))), (1, .int (p1)), (2, .int (p2))]) hx hb dX6_open_46 hl (by decide) (st_okI (st_okI (st_okR (st_okI (st_okI st_ok0))))) rfl (fun ls hl => ?_)
        exact hL48 _ (some a0) p1 p2 r9 (0 : Int32) (0 : Int32) _ _ _ _ _ _ hD (lv_sub hl [3, 4, 5, 2, 1, 0] rfl) hf
      · rw [if_pos hc] at hf
        refine lv_bipush (v := (-2)) hx hb dX6_open_33 (by decide) ?_
        obtain ⟨e1, e2⟩ := ret_eq hf
        rw [hQ, ← e1, ← e2]
        exact hw_iret S hlk hret rfl hD dX6_open_35
    · rw [if_pos hc] at hf
      exact hB24 _ _ _ _ _ _ hD (lv_sub hl [] rfl) hf
set_option maxHeartbeats 4000000 in
set_option maxRecDepth 100000 in
theorem c_X6_sizeOf (l : Launch) (D : va_G) (G : GC) (base : Nat) (E : PE) {a0 : Nat} {p1 : Int32} {σ0 τ : PS} {rv : Int32} (hF : f_X6_sizeOf E (some a0) p1 σ0 = some (rv, τ)) : Ct l D G base E yX6_sizeOf wsX6_sizeOf 0 0 ([.ref a0, .int (p1)] : List Value) σ0 (some (.int rv)) τ := by
  obtain ⟨hf, hmo⟩ := oM_of hF
  refine Ct.of (own := RX6) [1, 1] (by decide) rfl rfl hmo (ct_R (ct_I ct_0)) (by decide) ?_
  intro p e s m below meth c R Q ls H locs cells slots S hKn hRm hfr hlo hlk hret hnm hQ hD hl
  have hx := S.1
  have hb := S.2.1
  have hts := S.2.2.2.2
  have inX6 : ∀ w ∈ u_ws RX6 TX6 23, w ∈ wsX6_sizeOf := by decide +kernel
  have wd0 := hts (.fieldLink RX6 34 "SolidGroupsModel" "tokenMany" "[I") (by decide +kernel)
  have wd1 := hts (.fieldLink RX6 38 "SolidGroupsModel" "tokens" "[I") (by decide +kernel)
  have hB37 : ∀ (k4 : Option Nat → Int32 → Int32 → Int32 → PS → Option (Int32 × PS)) (hk4 : ∀ (z0 : Option Nat) (z1 : Int32) (z2 : Int32) (z3 : Int32) (σ : PS) (H : Heap) (locs : List Loc) (cells slots : Nat) (ls : Array Slot), Dy D G base E s.heap σ0 σ H locs cells slots → lv_has ls 4 [(0, va_rf (z0)), (1, .int (z1)), (2, .int (z2)), (3, .int (z3))] → k4 z0 z1 z2 z3 σ = some (rv, τ) → W p l e R s m ([.ref a0, .int (p1)] : List Value).toArray below meth c H locs cells slots Q (F0 m 4 ls [])), ∀ (v0 : Option Nat) (v1 : Int32) (v3 : Int32) (w0 : Int32) (w1 : Int32) (σ : PS) (H : Heap) (locs : List Loc) (cells slots : Nat) (ls : Array Slot), Dy D G base E s.heap σ0 σ H locs cells slots → lv_has ls 4 [(0, va_rf (v0)), (1, .int (v1)), (3, .int (v3))] → f_X6_sizeOf_B37 E k4 v0 v1 v3 w0 w1 σ = some (rv, τ) → W p l e R s m ([.ref a0, .int (p1)] : List Value).toArray below meth c H locs cells slots Q (F0 m 37 ls [.int (w1), .int (w0)]) := by
    intro k4 hk4 v0 v1 v3 w0 w1 σ H locs cells slots ls hD hl hf
    unfold f_X6_sizeOf_B37 at hf
    refine lv_iadd hx hb dX6_sizeOf_37 ?_
    refine hs_istore_n (i := 2) (lv' := [(2, .int (w0 + w1)), (0, va_rf (v0)), (1, .int (v1)), (3, .int (v3))]) hx hb dX6_sizeOf_38 rfl hl (by decide) (st_okR (st_okI (st_okI st_ok0))) rfl (fun ls hl => ?_)
    refine hs_iinc (i := 3) (k := 3) (v := v3 + 1) (lv' := [(3, .int (v3 + 1)), (2, .int (w0 + w1)), (0, va_rf (v0)), (1, .int (v1))]) hx hb dX6_sizeOf_39 hl rfl (congrArg (fun z => v3 + z) (by decide)) (by decide) (st_okI (st_okR (st_okI (st_okI st_ok0)))) rfl (fun ls hl => ?_)
    refine lv_goto (tgt := 4) hx hb dX6_sizeOf_42 (by decide) ?_
    exact hk4 v0 v1 (w0 + w1) (v3 + 1) _ _ _ _ _ _ hD (lv_sub hl [2, 3, 1, 0] rfl) hf
  have hL4 : ∀ (n : Nat), ∀ (v0 : Option Nat) (v1 : Int32) (v2 : Int32) (v3 : Int32) (σ : PS) (H : Heap) (locs : List Loc) (cells slots : Nat) (ls : Array Slot), Dy D G base E s.heap σ0 σ H locs cells slots → lv_has ls 4 [(0, va_rf (v0)), (1, .int (v1)), (2, .int (v2)), (3, .int (v3))] → f_X6_sizeOf_L4 E n v0 v1 v2 v3 σ = some (rv, τ) → W p l e R s m ([.ref a0, .int (p1)] : List Value).toArray below meth c H locs cells slots Q (F0 m 4 ls []) := by
    intro n
    induction n with
    | zero =>
      intro v0 v1 v2 v3 σ H locs cells slots ls hD hl hf
      rw [f_X6_sizeOf_L4] at hf
      cases hf
    | succ n ih =>
      intro v0 v1 v2 v3 σ H locs cells slots ls hD hl hf
      rw [f_X6_sizeOf_L4] at hf
      refine lv_iload_n hx hb dX6_sizeOf_4 rfl (lv_at hl 3 rfl) ?_
      refine hw_aload_n (r := v0) hx hb dX6_sizeOf_5 rfl (lv_at hl 0 rfl) ?_
      obtain ⟨x1, hv, hf⟩ := ob_s hf
      refine hw_gr (C := RX6) (T := TX6) (N := 23) (ref := "SolidGroupsModel") S hKn hD hv rfl (by decide) (by decide) rfl inX6 wd0 (fun _ h9 => h9) dX6_sizeOf_6 ?_
      refine lv_iload_n hx hb dX6_sizeOf_9 rfl (lv_at hl 1 rfl) ?_
      obtain ⟨x2, hv, hf⟩ := ob_s hf
      refine hw_al S hKn hD hv dX6_sizeOf_10 ?_
      refine lv_icmp_ge (tgt := 45) hx hb dX6_sizeOf_11 (by decide) (fun hc => ?_) (fun hc => ?_)
      · rw [if_pos hc] at hf
        refine lv_iload_n hx hb dX6_sizeOf_45 rfl (lv_at hl 2 rfl) ?_
        obtain ⟨e1, e2⟩ := ret_eq hf
        rw [hQ, ← e1, ← e2]
        exact hw_iret S hlk hret rfl hD dX6_sizeOf_46
      · rw [if_neg hc] at hf
        refine lv_iload_n hx hb dX6_sizeOf_14 rfl (lv_at hl 2 rfl) ?_
        refine hw_aload_n (r := v0) hx hb dX6_sizeOf_15 rfl (lv_at hl 0 rfl) ?_
        obtain ⟨x3, hv, hf⟩ := ob_s hf
        refine hw_gr (C := RX6) (T := TX6) (N := 23) (ref := "SolidGroupsModel") S hKn hD hv rfl (by decide) (by decide) rfl inX6 wd1 (fun _ h9 => h9) dX6_sizeOf_16 ?_
        refine lv_sipush (v := (5400)) hx hb dX6_sizeOf_19 (by decide) ?_
        refine lv_iload_n hx hb dX6_sizeOf_22 rfl (lv_at hl 1 rfl) ?_
        refine lv_imul hx hb dX6_sizeOf_23 ?_
        refine lv_iconst (v := (3)) hx hb dX6_sizeOf_24 (by decide) ?_
        refine lv_iload_n hx hb dX6_sizeOf_25 rfl (lv_at hl 3 rfl) ?_
        refine lv_imul hx hb dX6_sizeOf_26 ?_
        refine lv_iadd hx hb dX6_sizeOf_27 ?_
        obtain ⟨x4, hv, hf⟩ := ob_s hf
        refine hw_al S hKn hD hv dX6_sizeOf_28 ?_
        refine lv_if_ge (tgt := 36) hx hb dX6_sizeOf_29 (by decide) (fun hc => ?_) (fun hc => ?_)
        · rw [if_pos hc] at hf
          refine lv_iconst (v := (1)) hx hb dX6_sizeOf_36 (by decide) ?_
          exact hB37 _ ih v0 v1 v3 v2 (1 : Int32) _ _ _ _ _ _ hD (lv_sub hl [0, 1, 3] rfl) hf
        · rw [if_neg hc] at hf
          refine lv_iconst (v := (3)) hx hb dX6_sizeOf_32 (by decide) ?_
          refine lv_goto (tgt := 37) hx hb dX6_sizeOf_33 (by decide) ?_
          exact hB37 _ ih v0 v1 v3 v2 (3 : Int32) _ _ _ _ _ _ hD (lv_sub hl [0, 1, 3] rfl) hf
  have hl : lv_has ls 4 [(0, va_rf (some a0)), (1, .int (p1))] := hl
  unfold g_X6_sizeOf at hf
  refine lv_iconst (v := (0)) hx hb dX6_sizeOf_0 (by decide) ?_
  refine hs_istore_n (i := 2) (lv' := [(2, .int ((0 : Int32))), (0, va_rf ((some a0))), (1, .int (p1))]) hx hb dX6_sizeOf_1 rfl hl (by decide) (st_okR (st_okI st_ok0)) rfl (fun ls hl => ?_)
  refine lv_iconst (v := (0)) hx hb dX6_sizeOf_2 (by decide) ?_
  refine hs_istore_n (i := 3) (lv' := [(3, .int ((0 : Int32))), (2, .int ((0 : Int32))), (0, va_rf ((some a0))), (1, .int (p1))]) hx hb dX6_sizeOf_3 rfl hl (by decide) (st_okI (st_okR (st_okI st_ok0))) rfl (fun ls hl => ?_)
  exact hL4 _ (some a0) p1 (0 : Int32) (0 : Int32) _ _ _ _ _ _ hD (lv_sub hl [2, 3, 1, 0] rfl) hf
set_option maxHeartbeats 4000000 in
set_option maxRecDepth 100000 in
theorem c_X6_of (l : Launch) (D : va_G) (G : GC) (base : Nat) (E : PE) {a0 : Nat} {p1 : Int32} {p2 : Int32} {σ0 τ : PS} {rv : Int32} (hF : f_X6_of E (some a0) p1 p2 σ0 = some (rv, τ)) : Ct l D G base E yX6_of wsX6_of 1 23 ([.ref a0, .int (p1), .int (p2)] : List Value) σ0 (some (.int rv)) τ := by
  obtain ⟨hf, hmo⟩ := oM_of hF
  refine Ct.of (own := RX6) [1, 1, 1] (by decide) rfl rfl hmo (ct_R (ct_I (ct_I ct_0))) (by decide) ?_
  intro p e s m below meth c R Q ls H locs cells slots S hKn hRm hfr hlo hlk hret hnm hQ hD hl
  have hx := S.1
  have hb := S.2.1
  have hts := S.2.2.2.2
  have inX6 : ∀ w ∈ u_ws RX6 TX6 23, w ∈ wsX6_of := by decide +kernel
  have wd0 := hts (.fieldLink RX6 64 "SolidGroupsModel" "isPacked" "Z") (by decide +kernel)
  have wd1 := hts (.fieldLink RX6 107 "SolidGroupsModel" "groups" "I") (by decide +kernel)
  have wd2 := hts (.fieldLink RX6 104 "SolidGroupsModel" "kept" "I") (by decide +kernel)
  have wd3 := hts (.fieldLink RX6 28 "SolidGroupsModel" "groupKind" "[I") (by decide +kernel)
  have wd4 := hts (.fieldLink RX6 34 "SolidGroupsModel" "tokenMany" "[I") (by decide +kernel)
  have wd5 := hts (.fieldLink RX6 31 "SolidGroupsModel" "anew" "[I") (by decide +kernel)
  have wd6 := hts (.fieldLink RX6 25 "SolidGroupsModel" "groupAt" "[I") (by decide +kernel)
  have hB57 : ∀ (k31 : Option Nat → Int32 → Int32 → Int32 → Int32 → PS → Option (Int32 × PS)) (hk31 : ∀ (z0 : Option Nat) (z1 : Int32) (z2 : Int32) (z3 : Int32) (z4 : Int32) (σ : PS) (H : Heap) (locs : List Loc) (cells slots : Nat) (ls : Array Slot), Dy D G base E s.heap σ0 σ H locs cells slots → lv_has ls 5 [(0, va_rf (z0)), (1, .int (z1)), (2, .int (z2)), (3, .int (z3)), (4, .int (z4))] → k31 z0 z1 z2 z3 z4 σ = some (rv, τ) → W p l e R s m ([.ref a0, .int (p1), .int (p2)] : List Value).toArray below meth c H locs cells slots Q (F0 m 31 ls [])), ∀ (v0 : Option Nat) (v1 : Int32) (v2 : Int32) (v4 : Int32) (w0 : Int32) (w1 : Int32) (σ : PS) (H : Heap) (locs : List Loc) (cells slots : Nat) (ls : Array Slot), Dy D G base E s.heap σ0 σ H locs cells slots → lv_has ls 5 [(0, va_rf (v0)), (1, .int (v1)), (2, .int (v2)), (4, .int (v4))] → f_X6_of_B57 E k31 v0 v1 v2 v4 w0 w1 σ = some (rv, τ) → W p l e R s m ([.ref a0, .int (p1), .int (p2)] : List Value).toArray below meth c H locs cells slots Q (F0 m 57 ls [.int (w1), .int (w0)]) := by
    intro k31 hk31 v0 v1 v2 v4 w0 w1 σ H locs cells slots ls hD hl hf
    unfold f_X6_of_B57 at hf
    refine lv_iadd hx hb dX6_of_57 ?_
    refine hs_istore_n (i := 3) (lv' := [(3, .int (w0 + w1)), (0, va_rf (v0)), (1, .int (v1)), (2, .int (v2)), (4, .int (v4))]) hx hb dX6_of_58 rfl hl (by decide) (st_okR (st_okI (st_okI (st_okI st_ok0)))) rfl (fun ls hl => ?_)
    refine hs_iinc (i := 4) (k := 4) (v := v4 + 1) (lv' := [(4, .int (v4 + 1)), (3, .int (w0 + w1)), (0, va_rf (v0)), (1, .int (v1)), (2, .int (v2))]) hx hb dX6_of_59 hl rfl (congrArg (fun z => v4 + z) (by decide)) (by decide) (st_okI (st_okR (st_okI (st_okI (st_okI st_ok0))))) rfl (fun ls hl => ?_)
    refine lv_goto (tgt := 31) hx hb dX6_of_62 (by decide) ?_
    exact hk31 v0 v1 v2 (w0 + w1) (v4 + 1) _ _ _ _ _ _ hD (lv_sub hl [2, 3, 4, 1, 0] rfl) hf
  have hL31 : ∀ (n : Nat), ∀ (v0 : Option Nat) (v1 : Int32) (v2 : Int32) (v3 : Int32) (v4 : Int32) (σ : PS) (H : Heap) (locs : List Loc) (cells slots : Nat) (ls : Array Slot), Dy D G base E s.heap σ0 σ H locs cells slots → lv_has ls 5 [(0, va_rf (v0)), (1, .int (v1)), (2, .int (v2)), (3, .int (v3)), (4, .int (v4))] → f_X6_of_L31 E n v0 v1 v2 v3 v4 σ = some (rv, τ) → W p l e R s m ([.ref a0, .int (p1), .int (p2)] : List Value).toArray below meth c H locs cells slots Q (F0 m 31 ls []) := by
    intro n
    induction n with
    | zero =>
      intro v0 v1 v2 v3 v4 σ H locs cells slots ls hD hl hf
      rw [f_X6_of_L31] at hf
      cases hf
    | succ n ih =>
      intro v0 v1 v2 v3 v4 σ H locs cells slots ls hD hl hf
      rw [f_X6_of_L31] at hf
      refine lv_iload hx hb dX6_of_31 (lv_at hl 4 rfl) ?_
      refine hw_aload_n (r := v0) hx hb dX6_of_33 rfl (lv_at hl 0 rfl) ?_
      obtain ⟨x5, hv, hf⟩ := ob_s hf
      refine hw_gi (C := RX6) (T := TX6) (N := 23) (ref := "SolidGroupsModel") S hKn hD hv rfl (by decide) (by decide) rfl inX6 wd2 (fun _ h9 => h9) dX6_of_34 ?_
      refine lv_icmp_ge (tgt := 65) hx hb dX6_of_37 (by decide) (fun hc => ?_) (fun hc => ?_)
      · rw [if_pos hc] at hf
        refine lv_iload_n hx hb dX6_of_65 rfl (lv_at hl 2 rfl) ?_
        by_cases hc0 : v2 = (0 : Int32)
        · rw [if_pos hc0] at hf
          refine lv_tableIn (off := 38) (tgt := 104) hx hb dX6_of_66 (by rw [hc0]; decide) (by rw [hc0]; decide) (by rw [hc0]; rfl) (by decide) ?_
          refine hw_aload_n (r := v0) hx hb dX6_of_104 rfl (lv_at hl 0 rfl) ?_
          obtain ⟨x6, hv, hf⟩ := ob_s hf
          refine hw_gr (C := RX6) (T := TX6) (N := 23) (ref := "SolidGroupsModel") S hKn hD hv rfl (by decide) (by decide) rfl inX6 wd3 (fun _ h9 => h9) dX6_of_105 ?_
          refine lv_iload_n hx hb dX6_of_108 rfl (lv_at hl 1 rfl) ?_
          obtain ⟨x7, hv, hf⟩ := ob_s hf
          refine hw_al S hKn hD hv dX6_of_109 ?_
          obtain ⟨e1, e2⟩ := ret_eq hf
          rw [hQ, ← e1, ← e2]
          exact hw_iret S hlk hret rfl hD dX6_of_110
        rw [if_neg hc0] at hf
        by_cases hc1 : v2 = (1 : Int32)
        · rw [if_pos hc1] at hf
          refine lv_tableIn (off := 45) (tgt := 111) hx hb dX6_of_66 (by rw [hc1]; decide) (by rw [hc1]; decide) (by rw [hc1]; rfl) (by decide) ?_
          refine lv_iload_n hx hb dX6_of_111 rfl (lv_at hl 3 rfl) ?_
          obtain ⟨e1, e2⟩ := ret_eq hf
          rw [hQ, ← e1, ← e2]
          exact hw_iret S hlk hret rfl hD dX6_of_112
        rw [if_neg hc1] at hf
        by_cases hc2 : v2 = (2 : Int32)
        · rw [if_pos hc2] at hf
          refine lv_tableIn (off := 47) (tgt := 113) hx hb dX6_of_66 (by rw [hc2]; decide) (by rw [hc2]; decide) (by rw [hc2]; rfl) (by decide) ?_
          refine hw_aload_n (r := v0) hx hb dX6_of_113 rfl (lv_at hl 0 rfl) ?_
          refine lv_iload_n hx hb dX6_of_114 rfl (lv_at hl 1 rfl) ?_
          obtain ⟨b10, hv, hf⟩ := ob_s hf
          obtain ⟨e9, hk9⟩ := oK_of hv
          cases e9
          obtain ⟨r8, s9, hv, hf⟩ := ob_p hf
          refine hw_V (b := b10) (ci := 7) (T := TX6) (N := 23) (As := [.int (v1)]) (rest := []) S hKn hRm hD (c_X6_groupBytes l D G base E hv) (mo_X6_groupBytes hv) hk9 rfl (by decide) gX6_of_X6_groupBytes rfl 1 (by decide +kernel) ⟨by rw [hfr]; decide, by rw [hlo]; decide⟩ rfl hl.1 (Nat.le_trans cs_0 (by decide)) rfl dX6_of_115 (fun H locs cells slots hD => ?_)
          refine W.eq (g2 := F0 m 118 ls [.int (r8)]) rfl ?_
          obtain ⟨e1, e2⟩ := ret_eq hf
          rw [hQ, ← e1, ← e2]
          exact hw_iret S hlk hret rfl hD dX6_of_118
        rw [if_neg hc2] at hf
        by_cases hc3 : v2 = (3 : Int32)
        · rw [if_pos hc3] at hf
          refine lv_tableIn (off := 53) (tgt := 119) hx hb dX6_of_66 (by rw [hc3]; decide) (by rw [hc3]; decide) (by rw [hc3]; rfl) (by decide) ?_
          refine hw_aload_n (r := v0) hx hb dX6_of_119 rfl (lv_at hl 0 rfl) ?_
          obtain ⟨x11, hv, hf⟩ := ob_s hf
          refine hw_gr (C := RX6) (T := TX6) (N := 23) (ref := "SolidGroupsModel") S hKn hD hv rfl (by decide) (by decide) rfl inX6 wd4 (fun _ h9 => h9) dX6_of_120 ?_
          refine lv_iload_n hx hb dX6_of_123 rfl (lv_at hl 1 rfl) ?_
          obtain ⟨x12, hv, hf⟩ := ob_s hf
          refine hw_al S hKn hD hv dX6_of_124 ?_
          obtain ⟨e1, e2⟩ := ret_eq hf
          rw [hQ, ← e1, ← e2]
          exact hw_iret S hlk hret rfl hD dX6_of_125
        rw [if_neg hc3] at hf
        by_cases hc4 : v2 = (4 : Int32)
        · rw [if_pos hc4] at hf
          refine lv_tableIn (off := 60) (tgt := 126) hx hb dX6_of_66 (by rw [hc4]; decide) (by rw [hc4]; decide) (by rw [hc4]; rfl) (by decide) ?_
          refine hw_aload_n (r := v0) hx hb dX6_of_126 rfl (lv_at hl 0 rfl) ?_
          refine lv_iload_n hx hb dX6_of_127 rfl (lv_at hl 1 rfl) ?_
          obtain ⟨b15, hv, hf⟩ := ob_s hf
          obtain ⟨e9, hk9⟩ := oK_of hv
          cases e9
          obtain ⟨r13, s14, hv, hf⟩ := ob_p hf
          refine hw_V (b := b15) (ci := 7) (T := TX6) (N := 23) (As := [.int (v1)]) (rest := []) S hKn hRm hD (c_X6_sizeOf l D G base E hv) (mo_X6_sizeOf hv) hk9 rfl (by decide) gX6_of_X6_sizeOf rfl 1 (by decide +kernel) ⟨by rw [hfr]; decide, by rw [hlo]; decide⟩ rfl hl.1 (Nat.le_trans cs_0 (by decide)) rfl dX6_of_128 (fun H locs cells slots hD => ?_)
          refine W.eq (g2 := F0 m 131 ls [.int (r13)]) rfl ?_
          obtain ⟨e1, e2⟩ := ret_eq hf
          rw [hQ, ← e1, ← e2]
          exact hw_iret S hlk hret rfl hD dX6_of_131
        rw [if_neg hc4] at hf
        by_cases hc5 : v2 = (5 : Int32)
        · rw [if_pos hc5] at hf
          refine lv_tableIn (off := 66) (tgt := 132) hx hb dX6_of_66 (by rw [hc5]; decide) (by rw [hc5]; decide) (by rw [hc5]; rfl) (by decide) ?_
          refine hw_aload_n (r := v0) hx hb dX6_of_132 rfl (lv_at hl 0 rfl) ?_
          obtain ⟨x16, hv, hf⟩ := ob_s hf
          refine hw_gr (C := RX6) (T := TX6) (N := 23) (ref := "SolidGroupsModel") S hKn hD hv rfl (by decide) (by decide) rfl inX6 wd5 (fun _ h9 => h9) dX6_of_133 ?_
          refine lv_iload_n hx hb dX6_of_136 rfl (lv_at hl 1 rfl) ?_
          obtain ⟨x17, hv, hf⟩ := ob_s hf
          refine hw_al S hKn hD hv dX6_of_137 ?_
          obtain ⟨e1, e2⟩ := ret_eq hf
          rw [hQ, ← e1, ← e2]
          exact hw_iret S hlk hret rfl hD dX6_of_138
        rw [if_neg hc5] at hf
        have hto := tb_out (x := v2) (n := 5) (by decide) (fun k hk => by
          have hk9 : k = 0 ∨ k = 1 ∨ k = 2 ∨ k = 3 ∨ k = 4 ∨ k = 5 := by omega
          rcases hk9 with rfl | rfl | rfl | rfl | rfl | rfl
          · exact hc0
          · exact hc1
          · exact hc2
          · exact hc3
          · exact hc4
          · exact hc5)
        refine lv_tableOut (tgt := 139) hx hb dX6_of_66 hto (by decide) ?_
        refine lv_iconst (v := (-1)) hx hb dX6_of_139 (by decide) ?_
        obtain ⟨e1, e2⟩ := ret_eq hf
        rw [hQ, ← e1, ← e2]
        exact hw_iret S hlk hret rfl hD dX6_of_140
      · rw [if_neg hc] at hf
        refine lv_iload_n hx hb dX6_of_40 rfl (lv_at hl 3 rfl) ?_
        refine hw_aload_n (r := v0) hx hb dX6_of_41 rfl (lv_at hl 0 rfl) ?_
        obtain ⟨x18, hv, hf⟩ := ob_s hf
        refine hw_gr (C := RX6) (T := TX6) (N := 23) (ref := "SolidGroupsModel") S hKn hD hv rfl (by decide) (by decide) rfl inX6 wd6 (fun _ h9 => h9) dX6_of_42 ?_
        refine lv_iload hx hb dX6_of_45 (lv_at hl 4 rfl) ?_
        obtain ⟨x19, hv, hf⟩ := ob_s hf
        refine hw_al S hKn hD hv dX6_of_47 ?_
        refine lv_iload_n hx hb dX6_of_48 rfl (lv_at hl 1 rfl) ?_
        refine lv_icmp_ne (tgt := 56) hx hb dX6_of_49 (by decide) (fun hc => ?_) (fun hc => ?_)
        · rw [if_neg hc] at hf
          refine lv_iconst (v := (0)) hx hb dX6_of_56 (by decide) ?_
          exact hB57 _ ih v0 v1 v2 v4 v3 (0 : Int32) _ _ _ _ _ _ hD (lv_sub hl [0, 1, 2, 4] rfl) hf
        · rw [if_pos hc] at hf
          refine lv_iconst (v := (1)) hx hb dX6_of_52 (by decide) ?_
          refine lv_goto (tgt := 57) hx hb dX6_of_53 (by decide) ?_
          exact hB57 _ ih v0 v1 v2 v4 v3 (1 : Int32) _ _ _ _ _ _ hD (lv_sub hl [0, 1, 2, 4] rfl) hf
  have hl : lv_has ls 5 [(0, va_rf (some a0)), (1, .int (p1)), (2, .int (p2))] := hl
  unfold g_X6_of at hf
  refine hw_aload_n (r := (some a0)) hx hb dX6_of_0 rfl (lv_at hl 0 rfl) ?_
  obtain ⟨x1, hv, hf⟩ := ob_s hf
  refine hw_gi (C := RX6) (T := TX6) (N := 23) (ref := "SolidGroupsModel") S hKn hD hv rfl (by decide) (by decide) rfl inX6 wd0 (fun _ h9 => h9) dX6_of_1 ?_
  refine lv_if_ne (tgt := 10) hx hb dX6_of_4 (by decide) (fun hc => ?_) (fun hc => ?_)
  · rw [if_neg hc] at hf
    refine lv_iload_n hx hb dX6_of_10 rfl (lv_at hl 1 rfl) ?_
    refine lv_iconst (v := (0)) hx hb dX6_of_11 (by decide) ?_
    refine hw_aload_n (r := (some a0)) hx hb dX6_of_12 rfl (lv_at hl 0 rfl) ?_
    obtain ⟨x2, hv, hf⟩ := ob_s hf
    refine hw_gi (C := RX6) (T := TX6) (N := 23) (ref := "SolidGroupsModel") S hKn hD hv rfl (by decide) (by decide) rfl inX6 wd1 (fun _ h9 => h9) dX6_of_13 ?_
    refine lv_iconst (v := (1)) hx hb dX6_of_16 (by decide) ?_
    refine lv_isub hx hb dX6_of_17 ?_
    obtain ⟨r3, s4, hv, hf⟩ := ob_p hf
    refine hw_S (As := [.int (p1), .int ((0 : Int32)), .int (x2 - (1 : Int32))]) (rest := []) S hKn hRm hD (c_X6_isIn l D G base E hv) (mo_X6_isIn hv) gX6_of_X6_isIn rfl 3 (by decide +kernel) ⟨by rw [hfr]; decide, by rw [hlo]; decide⟩ rfl hl.1 (Nat.le_trans cs_0 (by decide)) rfl dX6_of_18 (fun H locs cells slots hD => ?_)
    refine W.eq (g2 := F0 m 21 ls [.int (r3)]) rfl ?_
    refine lv_if_ne (tgt := 26) hx hb dX6_of_21 (by decide) (fun hc => ?_) (fun hc => ?_)
    · rw [if_neg hc] at hf
      refine lv_iconst (v := (0)) hx hb dX6_of_26 (by decide) ?_
      refine hs_istore_n (i := 3) (lv' := [(3, .int ((0 : Int32))), (0, va_rf ((some a0))), (1, .int (p1)), (2, .int (p2))]) hx hb dX6_of_27 rfl hl (by decide) (st_okR (st_okI (st_okI st_ok0))) rfl (fun ls hl => ?_)
      refine lv_iconst (v := (0)) hx hb dX6_of_28 (by decide) ?_
      refine hs_istore (i := 4) (lv' := [(4, .int ((0 : Int32))), (3, .int ((0 : Int32))), (0, va_rf ((some a0))), (1, .int (p1)), (2, .int (p2))]) hx hb dX6_of_29 hl (by decide) (st_okI (st_okR (st_okI (st_okI st_ok0)))) rfl (fun ls hl => ?_)
      exact hL31 _ (some a0) p1 p2 (0 : Int32) (0 : Int32) _ _ _ _ _ _ hD (lv_sub hl [2, 3, 4, 1, 0] rfl) hf
    · rw [if_pos hc] at hf
      refine lv_iconst (v := (-1)) hx hb dX6_of_24 (by decide) ?_
      obtain ⟨e1, e2⟩ := ret_eq hf
      rw [hQ, ← e1, ← e2]
      exact hw_iret S hlk hret rfl hD dX6_of_25
  · rw [if_pos hc] at hf
    refine lv_bipush (v := (-2)) hx hb dX6_of_7 (by decide) ?_
    obtain ⟨e1, e2⟩ := ret_eq hf
    rw [hQ, ← e1, ← e2]
    exact hw_iret S hlk hret rfl hD dX6_of_9
set_option maxHeartbeats 4000000 in
set_option maxRecDepth 100000 in
theorem c_X6_token (l : Launch) (D : va_G) (G : GC) (base : Nat) (E : PE) {a0 : Nat} {p1 : Int32} {p2 : Int32} {p3 : Int32} {σ0 τ : PS} {rv : Int32} (hF : f_X6_token E (some a0) p1 p2 p3 σ0 = some (rv, τ)) : Ct l D G base E yX6_token wsX6_token 1 22 ([.ref a0, .int (p1), .int (p2), .int (p3)] : List Value) σ0 (some (.int rv)) τ := by
  obtain ⟨hf, hmo⟩ := oM_of hF
  refine Ct.of (own := RX6) [1, 1, 1, 1] (by decide) rfl rfl hmo (ct_R (ct_I (ct_I (ct_I ct_0)))) (by decide) ?_
  intro p e s m below meth c R Q ls H locs cells slots S hKn hRm hfr hlo hlk hret hnm hQ hD hl
  have hx := S.1
  have hb := S.2.1
  have hts := S.2.2.2.2
  have inX6 : ∀ w ∈ u_ws RX6 TX6 23, w ∈ wsX6_token := by decide +kernel
  have wd0 := hts (.fieldLink RX6 64 "SolidGroupsModel" "isPacked" "Z") (by decide +kernel)
  have wd1 := hts (.fieldLink RX6 107 "SolidGroupsModel" "groups" "I") (by decide +kernel)
  have wd2 := hts (.fieldLink RX6 34 "SolidGroupsModel" "tokenMany" "[I") (by decide +kernel)
  have wd3 := hts (.fieldLink RX6 38 "SolidGroupsModel" "tokens" "[I") (by decide +kernel)
  have hB69 : ∀ (w0 : Int32) (σ : PS) (H : Heap) (locs : List Loc) (cells slots : Nat) (ls : Array Slot), Dy D G base E s.heap σ0 σ H locs cells slots → lv_has ls 4 [] → f_X6_token_B69 E w0 σ = some (rv, τ) → W p l e R s m ([.ref a0, .int (p1), .int (p2), .int (p3)] : List Value).toArray below meth c H locs cells slots Q (F0 m 69 ls [.int (w0)]) := by
    intro w0 σ H locs cells slots ls hD hl hf
    unfold f_X6_token_B69 at hf
    obtain ⟨e1, e2⟩ := ret_eq hf
    rw [hQ, ← e1, ← e2]
    exact hw_iret S hlk hret rfl hD dX6_token_69
  have hB68 : ∀ (σ : PS) (H : Heap) (locs : List Loc) (cells slots : Nat) (ls : Array Slot), Dy D G base E s.heap σ0 σ H locs cells slots → lv_has ls 4 [] → f_X6_token_B68 E σ = some (rv, τ) → W p l e R s m ([.ref a0, .int (p1), .int (p2), .int (p3)] : List Value).toArray below meth c H locs cells slots Q (F0 m 68 ls []) := by
    intro σ H locs cells slots ls hD hl hf
    unfold f_X6_token_B68 at hf
    refine lv_iconst (v := (-1)) hx hb dX6_token_68 (by decide) ?_
    exact hB69 (-1 : Int32) _ _ _ _ _ _ hD (lv_sub hl [] rfl) hf
  have hl : lv_has ls 4 [(0, va_rf (some a0)), (1, .int (p1)), (2, .int (p2)), (3, .int (p3))] := hl
  unfold g_X6_token at hf
  refine hw_aload_n (r := (some a0)) hx hb dX6_token_0 rfl (lv_at hl 0 rfl) ?_
  obtain ⟨x1, hv, hf⟩ := ob_s hf
  refine hw_gi (C := RX6) (T := TX6) (N := 23) (ref := "SolidGroupsModel") S hKn hD hv rfl (by decide) (by decide) rfl inX6 wd0 (fun _ h9 => h9) dX6_token_1 ?_
  refine lv_if_ne (tgt := 10) hx hb dX6_token_4 (by decide) (fun hc => ?_) (fun hc => ?_)
  · rw [if_neg hc] at hf
    refine lv_iload_n hx hb dX6_token_10 rfl (lv_at hl 1 rfl) ?_
    refine lv_iconst (v := (0)) hx hb dX6_token_11 (by decide) ?_
    refine hw_aload_n (r := (some a0)) hx hb dX6_token_12 rfl (lv_at hl 0 rfl) ?_
    obtain ⟨x2, hv, hf⟩ := ob_s hf
    refine hw_gi (C := RX6) (T := TX6) (N := 23) (ref := "SolidGroupsModel") S hKn hD hv rfl (by decide) (by decide) rfl inX6 wd1 (fun _ h9 => h9) dX6_token_13 ?_
    refine lv_iconst (v := (1)) hx hb dX6_token_16 (by decide) ?_
    refine lv_isub hx hb dX6_token_17 ?_
    obtain ⟨r3, s4, hv, hf⟩ := ob_p hf
    refine hw_S (As := [.int (p1), .int ((0 : Int32)), .int (x2 - (1 : Int32))]) (rest := []) S hKn hRm hD (c_X6_isIn l D G base E hv) (mo_X6_isIn hv) gX6_token_X6_isIn rfl 3 (by decide +kernel) ⟨by rw [hfr]; decide, by rw [hlo]; decide⟩ rfl hl.1 (Nat.le_trans cs_0 (by decide)) rfl dX6_token_18 (fun H locs cells slots hD => ?_)
    refine W.eq (g2 := F0 m 21 ls [.int (r3)]) rfl ?_
    refine lv_if_eq (tgt := 68) hx hb dX6_token_21 (by decide) (fun hc => ?_) (fun hc => ?_)
    · rw [if_pos hc] at hf
      exact hB68 _ _ _ _ _ _ hD (lv_sub hl [] rfl) hf
    · rw [if_neg hc] at hf
      refine lv_iload_n hx hb dX6_token_24 rfl (lv_at hl 2 rfl) ?_
      refine lv_iconst (v := (0)) hx hb dX6_token_25 (by decide) ?_
      refine hw_aload_n (r := (some a0)) hx hb dX6_token_26 rfl (lv_at hl 0 rfl) ?_
      obtain ⟨x5, hv, hf⟩ := ob_s hf
      refine hw_gr (C := RX6) (T := TX6) (N := 23) (ref := "SolidGroupsModel") S hKn hD hv rfl (by decide) (by decide) rfl inX6 wd2 (fun _ h9 => h9) dX6_token_27 ?_
      refine lv_iload_n hx hb dX6_token_30 rfl (lv_at hl 1 rfl) ?_
      obtain ⟨x6, hv, hf⟩ := ob_s hf
      refine hw_al S hKn hD hv dX6_token_31 ?_
      refine lv_iconst (v := (1)) hx hb dX6_token_32 (by decide) ?_
      refine lv_isub hx hb dX6_token_33 ?_
      obtain ⟨r7, s8, hv, hf⟩ := ob_p hf
      refine hw_S (As := [.int (p2), .int ((0 : Int32)), .int (x6 - (1 : Int32))]) (rest := []) S hKn hRm hD (c_X6_isIn l D G base E hv) (mo_X6_isIn hv) gX6_token_X6_isIn rfl 3 (by decide +kernel) ⟨by rw [hfr]; decide, by rw [hlo]; decide⟩ rfl hl.1 (Nat.le_trans cs_0 (by decide)) rfl dX6_token_34 (fun H locs cells slots hD => ?_)
      refine W.eq (g2 := F0 m 37 ls [.int (r7)]) rfl ?_
      refine lv_if_eq (tgt := 68) hx hb dX6_token_37 (by decide) (fun hc => ?_) (fun hc => ?_)
      · rw [if_pos hc] at hf
        exact hB68 _ _ _ _ _ _ hD (lv_sub hl [] rfl) hf
      · rw [if_neg hc] at hf
        refine lv_iload_n hx hb dX6_token_40 rfl (lv_at hl 3 rfl) ?_
        refine lv_iconst (v := (0)) hx hb dX6_token_41 (by decide) ?_
        refine lv_iconst (v := (2)) hx hb dX6_token_42 (by decide) ?_
        obtain ⟨r9, s10, hv, hf⟩ := ob_p hf
        refine hw_S (As := [.int (p3), .int ((0 : Int32)), .int ((2 : Int32))]) (rest := []) S hKn hRm hD (c_X6_isIn l D G base E hv) (mo_X6_isIn hv) gX6_token_X6_isIn rfl 3 (by decide +kernel) ⟨by rw [hfr]; decide, by rw [hlo]; decide⟩ rfl hl.1 (Nat.le_trans cs_0 (by decide)) rfl dX6_token_43 (fun H locs cells slots hD => ?_)
        refine W.eq (g2 := F0 m 46 ls [.int (r9)]) rfl ?_
        refine lv_if_eq (tgt := 68) hx hb dX6_token_46 (by decide) (fun hc => ?_) (fun hc => ?_)
        · rw [if_pos hc] at hf
          exact hB68 _ _ _ _ _ _ hD (lv_sub hl [] rfl) hf
        · rw [if_neg hc] at hf
          refine hw_aload_n (r := (some a0)) hx hb dX6_token_49 rfl (lv_at hl 0 rfl) ?_
          obtain ⟨x11, hv, hf⟩ := ob_s hf
          refine hw_gr (C := RX6) (T := TX6) (N := 23) (ref := "SolidGroupsModel") S hKn hD hv rfl (by decide) (by decide) rfl inX6 wd3 (fun _ h9 => h9) dX6_token_50 ?_
          refine lv_sipush (v := (5400)) hx hb dX6_token_53 (by decide) ?_
          refine lv_iload_n hx hb dX6_token_56 rfl (lv_at hl 1 rfl) ?_
          refine lv_imul hx hb dX6_token_57 ?_
          refine lv_iconst (v := (3)) hx hb dX6_token_58 (by decide) ?_
          refine lv_iload_n hx hb dX6_token_59 rfl (lv_at hl 2 rfl) ?_
          refine lv_imul hx hb dX6_token_60 ?_
          refine lv_iadd hx hb dX6_token_61 ?_
          refine lv_iload_n hx hb dX6_token_62 rfl (lv_at hl 3 rfl) ?_
          refine lv_iadd hx hb dX6_token_63 ?_
          obtain ⟨x12, hv, hf⟩ := ob_s hf
          refine hw_al S hKn hD hv dX6_token_64 ?_
          refine lv_goto (tgt := 69) hx hb dX6_token_65 (by decide) ?_
          exact hB69 x12 _ _ _ _ _ _ hD (lv_sub hl [] rfl) hf
  · rw [if_pos hc] at hf
    refine lv_bipush (v := (-2)) hx hb dX6_token_7 (by decide) ?_
    obtain ⟨e1, e2⟩ := ret_eq hf
    rw [hQ, ← e1, ← e2]
    exact hw_iret S hlk hret rfl hD dX6_token_9
set_option maxHeartbeats 4000000 in
set_option maxRecDepth 100000 in
theorem c_X6_sum (l : Launch) (D : va_G) (G : GC) (base : Nat) (E : PE) {a0 : Nat} {p1 : Int32} {σ0 τ : PS} {rv : Int32} (hF : f_X6_sum E (some a0) p1 σ0 = some (rv, τ)) : Ct l D G base E yX6_sum wsX6_sum 2 48 ([.ref a0, .int (p1)] : List Value) σ0 (some (.int rv)) τ := by
  obtain ⟨hf, hmo⟩ := oM_of hF
  refine Ct.of (own := RX6) [1, 1] (by decide) rfl rfl hmo (ct_R (ct_I ct_0)) (by decide) ?_
  intro p e s m below meth c R Q ls H locs cells slots S hKn hRm hfr hlo hlk hret hnm hQ hD hl
  have hx := S.1
  have hb := S.2.1
  have hts := S.2.2.2.2
  have inX6 : ∀ w ∈ u_ws RX6 TX6 23, w ∈ wsX6_sum := by decide +kernel
  have wd0 := hts (.fieldLink RX6 64 "SolidGroupsModel" "isPacked" "Z") (by decide +kernel)
  have wd1 := hts (.fieldLink RX6 104 "SolidGroupsModel" "kept" "I") (by decide +kernel)
  have wd2 := hts (.fieldLink RX6 7 "SolidGroupsModel" "kinds" "[I") (by decide +kernel)
  have wd3 := hts (.fieldLink RX6 22 "SolidGroupsModel" "order" "[I") (by decide +kernel)
  have hB87 : ∀ (k29 : Option Nat → Int32 → Int32 → Int32 → Int32 → PS → Option (Int32 × PS)) (hk29 : ∀ (z0 : Option Nat) (z1 : Int32) (z2 : Int32) (z3 : Int32) (z4 : Int32) (σ : PS) (H : Heap) (locs : List Loc) (cells slots : Nat) (ls : Array Slot), Dy D G base E s.heap σ0 σ H locs cells slots → lv_has ls 5 [(0, va_rf (z0)), (1, .int (z1)), (2, .int (z2)), (3, .int (z3)), (4, .int (z4))] → k29 z0 z1 z2 z3 z4 σ = some (rv, τ) → W p l e R s m ([.ref a0, .int (p1)] : List Value).toArray below meth c H locs cells slots Q (F0 m 29 ls [])), ∀ (v0 : Option Nat) (v1 : Int32) (v2 : Int32) (v3 : Int32) (v4 : Int32) (σ : PS) (H : Heap) (locs : List Loc) (cells slots : Nat) (ls : Array Slot), Dy D G base E s.heap σ0 σ H locs cells slots → lv_has ls 5 [(0, va_rf (v0)), (1, .int (v1)), (2, .int (v2)), (3, .int (v3)), (4, .int (v4))] → f_X6_sum_B87 E k29 v0 v1 v2 v3 v4 σ = some (rv, τ) → W p l e R s m ([.ref a0, .int (p1)] : List Value).toArray below meth c H locs cells slots Q (F0 m 87 ls []) := by
    intro k29 hk29 v0 v1 v2 v3 v4 σ H locs cells slots ls hD hl hf
    unfold f_X6_sum_B87 at hf
    refine hs_iinc (i := 4) (k := 4) (v := v4 + 1) (lv' := [(4, .int (v4 + 1)), (0, va_rf (v0)), (1, .int (v1)), (2, .int (v2)), (3, .int (v3))]) hx hb dX6_sum_87 hl rfl (congrArg (fun z => v4 + z) (by decide)) (by decide) (st_okR (st_okI (st_okI (st_okI (st_okI st_ok0))))) rfl (fun ls hl => ?_)
    refine lv_goto (tgt := 29) hx hb dX6_sum_90 (by decide) ?_
    exact hk29 v0 v1 v2 v3 (v4 + 1) _ _ _ _ _ _ hD (lv_sub hl [1, 2, 3, 4, 0] rfl) hf
  have hB77 : ∀ (k29 : Option Nat → Int32 → Int32 → Int32 → Int32 → PS → Option (Int32 × PS)) (hk29 : ∀ (z0 : Option Nat) (z1 : Int32) (z2 : Int32) (z3 : Int32) (z4 : Int32) (σ : PS) (H : Heap) (locs : List Loc) (cells slots : Nat) (ls : Array Slot), Dy D G base E s.heap σ0 σ H locs cells slots → lv_has ls 5 [(0, va_rf (z0)), (1, .int (z1)), (2, .int (z2)), (3, .int (z3)), (4, .int (z4))] → k29 z0 z1 z2 z3 z4 σ = some (rv, τ) → W p l e R s m ([.ref a0, .int (p1)] : List Value).toArray below meth c H locs cells slots Q (F0 m 29 ls [])), ∀ (v0 : Option Nat) (v1 : Int32) (v4 : Int32) (w0 : Int32) (w1 : Int32) (σ : PS) (H : Heap) (locs : List Loc) (cells slots : Nat) (ls : Array Slot), Dy D G base E s.heap σ0 σ H locs cells slots → lv_has ls 5 [(0, va_rf (v0)), (1, .int (v1)), (4, .int (v4))] → f_X6_sum_B77 E k29 v0 v1 v4 w0 w1 σ = some (rv, τ) → W p l e R s m ([.ref a0, .int (p1)] : List Value).toArray below meth c H locs cells slots Q (F0 m 77 ls [.int (w1), .int (w0)]) := by
    intro k29 hk29 v0 v1 v4 w0 w1 σ H locs cells slots ls hD hl hf
    unfold f_X6_sum_B77 at hf
    refine lv_iadd hx hb dX6_sum_77 ?_
    refine hs_istore_n (i := 2) (lv' := [(2, .int (w0 + w1)), (0, va_rf (v0)), (1, .int (v1)), (4, .int (v4))]) hx hb dX6_sum_78 rfl hl (by decide) (st_okR (st_okI (st_okI st_ok0))) rfl (fun ls hl => ?_)
    refine hw_aload_n (r := v0) hx hb dX6_sum_79 rfl (lv_at hl 1 rfl) ?_
    obtain ⟨x14, hv, hf⟩ := ob_s hf
    refine hw_gr (C := RX6) (T := TX6) (N := 23) (ref := "SolidGroupsModel") S hKn hD hv rfl (by decide) (by decide) rfl inX6 wd3 (fun _ h9 => h9) dX6_sum_80 ?_
    refine lv_iload hx hb dX6_sum_83 (lv_at hl 3 rfl) ?_
    obtain ⟨x15, hv, hf⟩ := ob_s hf
    refine hw_al S hKn hD hv dX6_sum_85 ?_
    refine hs_istore_n (i := 3) (lv' := [(3, .int (x15)), (2, .int (w0 + w1)), (0, va_rf (v0)), (1, .int (v1)), (4, .int (v4))]) hx hb dX6_sum_86 rfl hl (by decide) (st_okI (st_okR (st_okI (st_okI st_ok0)))) rfl (fun ls hl => ?_)
    exact hB87 _ hk29 v0 v1 (w0 + w1) x15 v4 _ _ _ _ _ _ hD (lv_sub hl [2, 3, 1, 0, 4] rfl) hf
  have hL29 : ∀ (n : Nat), ∀ (v0 : Option Nat) (v1 : Int32) (v2 : Int32) (v3 : Int32) (v4 : Int32) (σ : PS) (H : Heap) (locs : List Loc) (cells slots : Nat) (ls : Array Slot), Dy D G base E s.heap σ0 σ H locs cells slots → lv_has ls 5 [(0, va_rf (v0)), (1, .int (v1)), (2, .int (v2)), (3, .int (v3)), (4, .int (v4))] → f_X6_sum_L29 E n v0 v1 v2 v3 v4 σ = some (rv, τ) → W p l e R s m ([.ref a0, .int (p1)] : List Value).toArray below meth c H locs cells slots Q (F0 m 29 ls []) := by
    intro n
    induction n with
    | zero =>
      intro v0 v1 v2 v3 v4 σ H locs cells slots ls hD hl hf
      rw [f_X6_sum_L29] at hf
      cases hf
    | succ n ih =>
      intro v0 v1 v2 v3 v4 σ H locs cells slots ls hD hl hf
      rw [f_X6_sum_L29] at hf
      refine lv_iload hx hb dX6_sum_29 (lv_at hl 4 rfl) ?_
      refine hw_aload_n (r := v0) hx hb dX6_sum_31 rfl (lv_at hl 0 rfl) ?_
      obtain ⟨x4, hv, hf⟩ := ob_s hf
      refine hw_gi (C := RX6) (T := TX6) (N := 23) (ref := "SolidGroupsModel") S hKn hD hv rfl (by decide) (by decide) rfl inX6 wd1 (fun _ h9 => h9) dX6_sum_32 ?_
      refine lv_icmp_ge (tgt := 93) hx hb dX6_sum_35 (by decide) (fun hc => ?_) (fun hc => ?_)
      · rw [if_pos hc] at hf
        refine lv_iload_n hx hb dX6_sum_93 rfl (lv_at hl 2 rfl) ?_
        obtain ⟨e1, e2⟩ := ret_eq hf
        rw [hQ, ← e1, ← e2]
        exact hw_iret S hlk hret rfl hD dX6_sum_94
      · rw [if_neg hc] at hf
        refine hw_aload_n (r := v0) hx hb dX6_sum_38 rfl (lv_at hl 0 rfl) ?_
        obtain ⟨x5, hv, hf⟩ := ob_s hf
        refine hw_gr (C := RX6) (T := TX6) (N := 23) (ref := "SolidGroupsModel") S hKn hD hv rfl (by decide) (by decide) rfl inX6 wd2 (fun _ h9 => h9) dX6_sum_39 ?_
        refine hw_aload_n (r := v0) hx hb dX6_sum_42 rfl (lv_at hl 0 rfl) ?_
        obtain ⟨x6, hv, hf⟩ := ob_s hf
        refine hw_gr (C := RX6) (T := TX6) (N := 23) (ref := "SolidGroupsModel") S hKn hD hv rfl (by decide) (by decide) rfl inX6 wd3 (fun _ h9 => h9) dX6_sum_43 ?_
        refine lv_iload hx hb dX6_sum_46 (lv_at hl 4 rfl) ?_
        obtain ⟨x7, hv, hf⟩ := ob_s hf
        refine hw_al S hKn hD hv dX6_sum_48 ?_
        obtain ⟨x8, hv, hf⟩ := ob_s hf
        refine hw_al S hKn hD hv dX6_sum_49 ?_
        refine lv_iload_n hx hb dX6_sum_50 rfl (lv_at hl 1 rfl) ?_
        refine lv_icmp_ne (tgt := 87) hx hb dX6_sum_51 (by decide) (fun hc => ?_) (fun hc => ?_)
        · rw [if_neg hc] at hf
          exact hB87 _ ih v0 v1 v2 v3 v4 _ _ _ _ _ _ hD (lv_sub hl [0, 1, 2, 3, 4] rfl) hf
        · rw [if_pos hc] at hf
          refine lv_iload_n hx hb dX6_sum_54 rfl (lv_at hl 2 rfl) ?_
          refine lv_iload_n hx hb dX6_sum_55 rfl (lv_at hl 3 rfl) ?_
          refine lv_bipush (v := (-2)) hx hb dX6_sum_56 (by decide) ?_
          refine lv_icmp_ne (tgt := 65) hx hb dX6_sum_58 (by decide) (fun hc => ?_) (fun hc => ?_)
          · rw [if_neg hc] at hf
            refine hw_aload_n (r := v0) hx hb dX6_sum_65 rfl (lv_at hl 0 rfl) ?_
            refine lv_iload_n hx hb dX6_sum_66 rfl (lv_at hl 3 rfl) ?_
            refine hw_aload_n (r := v0) hx hb dX6_sum_67 rfl (lv_at hl 0 rfl) ?_
            obtain ⟨x9, hv, hf⟩ := ob_s hf
            refine hw_gr (C := RX6) (T := TX6) (N := 23) (ref := "SolidGroupsModel") S hKn hD hv rfl (by decide) (by decide) rfl inX6 wd3 (fun _ h9 => h9) dX6_sum_68 ?_
            refine lv_iload hx hb dX6_sum_71 (lv_at hl 4 rfl) ?_
            obtain ⟨x10, hv, hf⟩ := ob_s hf
            refine hw_al S hKn hD hv dX6_sum_73 ?_
            obtain ⟨b13, hv, hf⟩ := ob_s hf
            obtain ⟨e9, hk9⟩ := oK_of hv
            cases e9
            obtain ⟨r11, s12, hv, hf⟩ := ob_p hf
            refine hw_V (b := b13) (ci := 7) (T := TX6) (N := 23) (As := [.int (v3), .int (x10)]) (rest := [.int (v2)]) S hKn hRm hD (c_X6_distanceOf l D G base E hv) (mo_X6_distanceOf hv) hk9 rfl (by decide) gX6_sum_X6_distanceOf rfl 2 (by decide +kernel) ⟨by rw [hfr]; decide, by rw [hlo]; decide⟩ rfl hl.1 (Nat.le_trans (cs_I cs_0) (by decide)) rfl dX6_sum_74 (fun H locs cells slots hD => ?_)
            refine W.eq (g2 := F0 m 77 ls [.int (r11), .int (v2)]) rfl ?_
            exact hB77 _ ih (some b13) v1 v4 v2 r11 _ _ _ _ _ _ hD (lv_sub hl [0, 1, 4] rfl) hf
          · rw [if_pos hc] at hf
            refine lv_iconst (v := (0)) hx hb dX6_sum_61 (by decide) ?_
            refine lv_goto (tgt := 77) hx hb dX6_sum_62 (by decide) ?_
            exact hB77 _ ih v0 v1 v4 v2 (0 : Int32) _ _ _ _ _ _ hD (lv_sub hl [0, 1, 4] rfl) hf
  have hl : lv_has ls 5 [(0, va_rf (some a0)), (1, .int (p1))] := hl
  unfold g_X6_sum at hf
  refine lv_iload_n hx hb dX6_sum_0 rfl (lv_at hl 1 rfl) ?_
  refine lv_iconst (v := (0)) hx hb dX6_sum_1 (by decide) ?_
  refine lv_iconst (v := (5)) hx hb dX6_sum_2 (by decide) ?_
  obtain ⟨r1, s2, hv, hf⟩ := ob_p hf
  refine hw_S (As := [.int (p1), .int ((0 : Int32)), .int ((5 : Int32))]) (rest := []) S hKn hRm hD (c_X6_isIn l D G base E hv) (mo_X6_isIn hv) gX6_sum_X6_isIn rfl 3 (by decide +kernel) ⟨by rw [hfr]; decide, by rw [hlo]; decide⟩ rfl hl.1 (Nat.le_trans cs_0 (by decide)) rfl dX6_sum_3 (fun H locs cells slots hD => ?_)
  refine W.eq (g2 := F0 m 6 ls [.int (r1)]) rfl ?_
  refine lv_if_ne (tgt := 11) hx hb dX6_sum_6 (by decide) (fun hc => ?_) (fun hc => ?_)
  · rw [if_neg hc] at hf
    refine hw_aload_n (r := (some a0)) hx hb dX6_sum_11 rfl (lv_at hl 0 rfl) ?_
    obtain ⟨x3, hv, hf⟩ := ob_s hf
    refine hw_gi (C := RX6) (T := TX6) (N := 23) (ref := "SolidGroupsModel") S hKn hD hv rfl (by decide) (by decide) rfl inX6 wd0 (fun _ h9 => h9) dX6_sum_12 ?_
    refine lv_if_ne (tgt := 21) hx hb dX6_sum_15 (by decide) (fun hc => ?_) (fun hc => ?_)
    · rw [if_neg hc] at hf
      refine lv_iconst (v := (0)) hx hb dX6_sum_21 (by decide) ?_
      refine hs_istore_n (i := 2) (lv' := [(2, .int ((0 : Int32))), (0, va_rf ((some a0))), (1, .int (p1))]) hx hb dX6_sum_22 rfl hl (by decide) (st_okR (st_okI st_ok0)) rfl (fun ls hl => ?_)
      refine lv_bipush (v := (-2)) hx hb dX6_sum_23 (by decide) ?_
      refine hs_istore_n (i := 3) (lv' := [(3, .int ((-2 : Int32))), (2, .int ((0 : Int32))), (0, va_rf ((some a0))), (1, .int (p1))]) hx hb dX6_sum_25 rfl hl (by decide) (st_okI (st_okR (st_okI st_ok0))) rfl (fun ls hl => ?_)
      refine lv_iconst (v := (0)) hx hb dX6_sum_26 (by decide) ?_
      refine hs_istore (i := 4) (lv' := [(4, .int ((0 : Int32))), (3, .int ((-2 : Int32))), (2, .int ((0 : Int32))), (0, va_rf ((some a0))), (1, .int (p1))]) hx hb dX6_sum_27 hl (by decide) (st_okI (st_okI (st_okR (st_okI st_ok0)))) rfl (fun ls hl => ?_)
      exact hL29 _ (some a0) p1 (0 : Int32) (-2 : Int32) (0 : Int32) _ _ _ _ _ _ hD (lv_sub hl [3, 4, 2, 1, 0] rfl) hf
    · rw [if_pos hc] at hf
      refine lv_bipush (v := (-2)) hx hb dX6_sum_18 (by decide) ?_
      obtain ⟨e1, e2⟩ := ret_eq hf
      rw [hQ, ← e1, ← e2]
      exact hw_iret S hlk hret rfl hD dX6_sum_20
  · rw [if_pos hc] at hf
    refine lv_iconst (v := (-1)) hx hb dX6_sum_9 (by decide) ?_
    obtain ⟨e1, e2⟩ := ret_eq hf
    rw [hQ, ← e1, ← e2]
    exact hw_iret S hlk hret rfl hD dX6_sum_10
