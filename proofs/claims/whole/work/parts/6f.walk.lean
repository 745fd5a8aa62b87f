set_option maxHeartbeats 4000000 in
set_option maxRecDepth 100000 in
theorem c_X5_twin (l : Launch) (D : va_G) (G : GC) (base : Nat) (E : PE) {a0 : Nat} {p1 : Int32} {σ0 τ : PS} {rv : Int32} (hF : f_X5_twin E (some a0) p1 σ0 = some (rv, τ)) : Ct l D G base E yX5_twin wsX5_twin 3 64 ([.ref a0, .int (p1)] : List Value) σ0 (some (.int rv)) τ := by
  obtain ⟨hf, hmo⟩ := oM_of hF
  refine Ct.of (own := RX5) [1, 1] (by decide) rfl rfl hmo (ct_R (ct_I ct_0)) (by decide) ?_
  intro p e s m below meth c R Q ls H locs cells slots S hKn hRm hfr hlo hlk hret hnm hQ hD hl
  have hx := S.1
  have hb := S.2.1
  have hts := S.2.2.2.2
  have inX5 : ∀ w ∈ u_ws RX5 TX5 8, w ∈ wsX5_twin := by decide +kernel
  have inX1 : ∀ w ∈ u_ws RX1 TX1 6, w ∈ wsX5_twin := by decide +kernel
  have wd0 := hts (.fieldLink RX5 39 "SolidGroups" "packed" "Z") (by decide +kernel)
  have wd1 := hts (.fieldLink RX5 10 "SolidGroups" "entries" "Ljava/util/ArrayList;") (by decide +kernel)
  have wd2 := hts (.classLink RX5 55 "SolidGroups$Entry") (by decide +kernel)
  have wd3 := hts (.fieldLink RX5 139 "SolidGroups$Entry" "twinOf" "I") (by decide +kernel)
  have hl : lv_has ls 2 [(0, va_rf (some a0)), (1, .int (p1))] := hl
  unfold g_X5_twin at hf
  refine hw_aload_n (r := (some a0)) hx hb dX5_twin_0 rfl (lv_at hl 0 rfl) ?_
  refine lv_iload_n hx hb dX5_twin_1 rfl (lv_at hl 1 rfl) ?_
  obtain ⟨b3, hv, hf⟩ := ob_s hf
  obtain ⟨e9, hk9⟩ := oK_of hv
  cases e9
  obtain ⟨r1, s2, hv, hf⟩ := ob_p hf
  refine hw_V (b := a0) (ci := 6) (T := TX5) (N := 8) (As := [.int (p1)]) (rest := []) S hKn hRm hD (c_X5_isEntry l D G base E hv) (mo_X5_isEntry hv) hk9 rfl (by decide) gX5_twin_X5_isEntry rfl 1 (by decide +kernel) ⟨by rw [hfr]; decide, by rw [hlo]; decide⟩ rfl hl.1 (Nat.le_trans cs_0 (by decide)) rfl dX5_twin_2 (fun H locs cells slots hD => ?_)
  refine W.eq (g2 := F0 m 5 ls [.int (r1)]) rfl ?_
  refine lv_if_ne (tgt := 10) hx hb dX5_twin_5 (by decide) (fun hc => ?_) (fun hc => ?_)
  · rw [if_neg hc] at hf
    refine hw_aload_n (r := (some a0)) hx hb dX5_twin_10 rfl (lv_at hl 0 rfl) ?_
    obtain ⟨x4, hv, hf⟩ := ob_s hf
    refine hw_gi (C := RX5) (T := TX5) (N := 8) (ref := "SolidGroups") S hKn hD hv rfl (by decide) (by decide) rfl inX5 wd0 (fun _ h9 => h9) dX5_twin_11 ?_
    refine lv_if_ne (tgt := 20) hx hb dX5_twin_14 (by decide) (fun hc => ?_) (fun hc => ?_)
    · rw [if_neg hc] at hf
      refine hw_aload_n (r := (some a0)) hx hb dX5_twin_20 rfl (lv_at hl 0 rfl) ?_
      obtain ⟨x5, hv, hf⟩ := ob_s hf
      refine hw_gr (C := RX5) (T := TX5) (N := 8) (ref := "SolidGroups") S hKn hD hv rfl (by decide) (by decide) rfl inX5 wd1 (fun _ h9 => h9) dX5_twin_21 ?_
      refine lv_iload_n hx hb dX5_twin_24 rfl (lv_at hl 1 rfl) ?_
      obtain ⟨b8, hv, hf⟩ := ob_s hf
      obtain ⟨e9, hk9⟩ := oK_of hv
      cases e9
      obtain ⟨r6, s7, hv, hf⟩ := ob_p hf
      refine hw_V (b := b8) (ci := 0) (T := TJx4a65c) (N := 3) (As := [.int (p1)]) (rest := []) S hKn hRm hD (c_Jx4a65c_get_915e3 l D G base E hv) (mo_Jx4a65c_get_915e3 hv) hk9 rfl (by decide) gX5_twin_Jx4a65c_get_915e3 rfl 1 (by decide +kernel) ⟨by rw [hfr]; decide, by rw [hlo]; decide⟩ rfl hl.1 (Nat.le_trans cs_0 (by decide)) rfl dX5_twin_25 (fun H locs cells slots hD => ?_)
      refine W.eq (g2 := F0 m 28 ls [va_rf (r6)]) rfl ?_
      obtain ⟨u9, hv, hf⟩ := ob_s hf
      refine hw_ca (C := RX1) (T := TX1) (N := 6) S hKn hD hv rfl (by decide) wd2 dX5_twin_28 ?_
      obtain ⟨x10, hv, hf⟩ := ob_s hf
      refine hw_gi (C := RX1) (T := TX1) (N := 6) (ref := "SolidGroups$Entry") S hKn hD hv rfl (by decide) (by decide) rfl inX1 wd3 (fun _ h9 => h9) dX5_twin_31 ?_
      obtain ⟨e1, e2⟩ := ret_eq hf
      rw [hQ, ← e1, ← e2]
      exact hw_iret S hlk hret rfl hD dX5_twin_34
    · rw [if_pos hc] at hf
      refine lv_bipush (v := (-2)) hx hb dX5_twin_17 (by decide) ?_
      obtain ⟨e1, e2⟩ := ret_eq hf
      rw [hQ, ← e1, ← e2]
      exact hw_iret S hlk hret rfl hD dX5_twin_19
  · rw [if_pos hc] at hf
    refine lv_iconst (v := (-1)) hx hb dX5_twin_8 (by decide) ?_
    obtain ⟨e1, e2⟩ := ret_eq hf
    rw [hQ, ← e1, ← e2]
    exact hw_iret S hlk hret rfl hD dX5_twin_9
set_option maxHeartbeats 4000000 in
set_option maxRecDepth 100000 in
theorem c_X5_group (l : Launch) (D : va_G) (G : GC) (base : Nat) (E : PE) {a0 : Nat} {p1 : Int32} {σ0 τ : PS} {rv : Int32} (hF : f_X5_group E (some a0) p1 σ0 = some (rv, τ)) : Ct l D G base E yX5_group wsX5_group 5 108 ([.ref a0, .int (p1)] : List Value) σ0 (some (.int rv)) τ := by
  obtain ⟨hf, hmo⟩ := oM_of hF
  refine Ct.of (own := RX5) [1, 1] (by decide) rfl rfl hmo (ct_R (ct_I ct_0)) (by decide) ?_
  intro p e s m below meth c R Q ls H locs cells slots S hKn hRm hfr hlo hlk hret hnm hQ hD hl
  have hx := S.1
  have hb := S.2.1
  have hts := S.2.2.2.2
  have inX5 : ∀ w ∈ u_ws RX5 TX5 8, w ∈ wsX5_group := by decide +kernel
  have inX1 : ∀ w ∈ u_ws RX1 TX1 6, w ∈ wsX5_group := by decide +kernel
  have wd0 := hts (.fieldLink RX5 39 "SolidGroups" "packed" "Z") (by decide +kernel)
  have wd1 := hts (.fieldLink RX5 10 "SolidGroups" "entries" "Ljava/util/ArrayList;") (by decide +kernel)
  have wd2 := hts (.classLink RX5 55 "SolidGroups$Entry") (by decide +kernel)
  have wd3 := hts (.fieldLink RX5 139 "SolidGroups$Entry" "twinOf" "I") (by decide +kernel)
  have hl : lv_has ls 2 [(0, va_rf (some a0)), (1, .int (p1))] := hl
  unfold g_X5_group at hf
  refine hw_aload_n (r := (some a0)) hx hb dX5_group_0 rfl (lv_at hl 0 rfl) ?_
  refine lv_iload_n hx hb dX5_group_1 rfl (lv_at hl 1 rfl) ?_
  obtain ⟨b3, hv, hf⟩ := ob_s hf
  obtain ⟨e9, hk9⟩ := oK_of hv
  cases e9
  obtain ⟨r1, s2, hv, hf⟩ := ob_p hf
  refine hw_V (b := a0) (ci := 6) (T := TX5) (N := 8) (As := [.int (p1)]) (rest := []) S hKn hRm hD (c_X5_isEntry l D G base E hv) (mo_X5_isEntry hv) hk9 rfl (by decide) gX5_group_X5_isEntry rfl 1 (by decide +kernel) ⟨by rw [hfr]; decide, by rw [hlo]; decide⟩ rfl hl.1 (Nat.le_trans cs_0 (by decide)) rfl dX5_group_2 (fun H locs cells slots hD => ?_)
  refine W.eq (g2 := F0 m 5 ls [.int (r1)]) rfl ?_
  refine lv_if_ne (tgt := 10) hx hb dX5_group_5 (by decide) (fun hc => ?_) (fun hc => ?_)
  · rw [if_neg hc] at hf
    refine hw_aload_n (r := (some a0)) hx hb dX5_group_10 rfl (lv_at hl 0 rfl) ?_
    obtain ⟨x4, hv, hf⟩ := ob_s hf
    refine hw_gi (C := RX5) (T := TX5) (N := 8) (ref := "SolidGroups") S hKn hD hv rfl (by decide) (by decide) rfl inX5 wd0 (fun _ h9 => h9) dX5_group_11 ?_
    refine lv_if_ne (tgt := 20) hx hb dX5_group_14 (by decide) (fun hc => ?_) (fun hc => ?_)
    · rw [if_neg hc] at hf
      refine hw_aload_n (r := (some a0)) hx hb dX5_group_20 rfl (lv_at hl 0 rfl) ?_
      refine hw_aload_n (r := (some a0)) hx hb dX5_group_21 rfl (lv_at hl 0 rfl) ?_
      obtain ⟨x5, hv, hf⟩ := ob_s hf
      refine hw_gr (C := RX5) (T := TX5) (N := 8) (ref := "SolidGroups") S hKn hD hv rfl (by decide) (by decide) rfl inX5 wd1 (fun _ h9 => h9) dX5_group_22 ?_
      refine lv_iload_n hx hb dX5_group_25 rfl (lv_at hl 1 rfl) ?_
      obtain ⟨b8, hv, hf⟩ := ob_s hf
      obtain ⟨e9, hk9⟩ := oK_of hv
      cases e9
      obtain ⟨r6, s7, hv, hf⟩ := ob_p hf
      refine hw_V (b := b8) (ci := 0) (T := TJx4a65c) (N := 3) (As := [.int (p1)]) (rest := [va_rf ((some a0))]) S hKn hRm hD (c_Jx4a65c_get_915e3 l D G base E hv) (mo_Jx4a65c_get_915e3 hv) hk9 rfl (by decide) gX5_group_Jx4a65c_get_915e3 rfl 1 (by decide +kernel) ⟨by rw [hfr]; decide, by rw [hlo]; decide⟩ rfl hl.1 (Nat.le_trans (cs_A cs_0) (by decide)) rfl dX5_group_26 (fun H locs cells slots hD => ?_)
      refine W.eq (g2 := F0 m 29 ls [va_rf (r6), va_rf ((some a0))]) rfl ?_
      obtain ⟨u9, hv, hf⟩ := ob_s hf
      refine hw_ca (C := RX1) (T := TX1) (N := 6) S hKn hD hv rfl (by decide) wd2 dX5_group_29 ?_
      obtain ⟨x10, hv, hf⟩ := ob_s hf
      refine hw_gi (C := RX1) (T := TX1) (N := 6) (ref := "SolidGroups$Entry") S hKn hD hv rfl (by decide) (by decide) rfl inX1 wd3 (fun _ h9 => h9) dX5_group_32 ?_
      obtain ⟨b13, hv, hf⟩ := ob_s hf
      obtain ⟨e9, hk9⟩ := oK_of hv
      cases e9
      obtain ⟨r11, s12, hv, hf⟩ := ob_p hf
      refine hw_V (b := a0) (ci := 6) (T := TX5) (N := 8) (As := [.int (x10)]) (rest := []) S hKn hRm hD (c_X5_groupNumberOf l D G base E hv) (mo_X5_groupNumberOf hv) hk9 rfl (by decide) gX5_group_X5_groupNumberOf rfl 1 (by decide +kernel) ⟨by rw [hfr]; decide, by rw [hlo]; decide⟩ rfl hl.1 (Nat.le_trans cs_0 (by decide)) rfl dX5_group_35 (fun H locs cells slots hD => ?_)
      refine W.eq (g2 := F0 m 38 ls [.int (r11)]) rfl ?_
      obtain ⟨e1, e2⟩ := ret_eq hf
      rw [hQ, ← e1, ← e2]
      exact hw_iret S hlk hret rfl hD dX5_group_38
    · rw [if_pos hc] at hf
      refine lv_bipush (v := (-2)) hx hb dX5_group_17 (by decide) ?_
      obtain ⟨e1, e2⟩ := ret_eq hf
      rw [hQ, ← e1, ← e2]
      exact hw_iret S hlk hret rfl hD dX5_group_19
  · rw [if_pos hc] at hf
    refine lv_iconst (v := (-1)) hx hb dX5_group_8 (by decide) ?_
    obtain ⟨e1, e2⟩ := ret_eq hf
    rw [hQ, ← e1, ← e2]
    exact hw_iret S hlk hret rfl hD dX5_group_9
set_option maxHeartbeats 4000000 in
set_option maxRecDepth 100000 in
theorem c_X2_placeOf (l : Launch) (D : va_G) (G : GC) (base : Nat) (E : PE) {a0 : Nat} {p1 : Int32} {σ0 τ : PS} {rv : Int32} (hF : f_X2_placeOf E (some a0) p1 σ0 = some (rv, τ)) : Ct l D G base E yX2_placeOf wsX2_placeOf 4 87 ([.ref a0, .int (p1)] : List Value) σ0 (some (.int rv)) τ := by
  obtain ⟨hf, hmo⟩ := oM_of hF
  refine Ct.of (own := RX2) [1, 1] (by decide) rfl rfl hmo (ct_R (ct_I ct_0)) (by decide) ?_
  intro p e s m below meth c R Q ls H locs cells slots S hKn hRm hfr hlo hlk hret hnm hQ hD hl
  have hx := S.1
  have hb := S.2.1
  have hts := S.2.2.2.2
  have hl : lv_has ls 2 [(0, va_rf (some a0)), (1, .int (p1))] := hl
  unfold g_X2_placeOf at hf
  refine hw_aload_n (r := (some a0)) hx hb dX2_placeOf_0 rfl (lv_at hl 0 rfl) ?_
  refine hw_aload_n (r := (some a0)) hx hb dX2_placeOf_1 rfl (lv_at hl 0 rfl) ?_
  refine lv_iload_n hx hb dX2_placeOf_2 rfl (lv_at hl 1 rfl) ?_
  obtain ⟨b3, hv, hf⟩ := ob_s hf
  obtain ⟨e9, hk9⟩ := oK_of hv
  cases e9
  obtain ⟨r1, s2, hv, hf⟩ := ob_p hf
  refine hw_V (b := a0) (ci := 3) (T := TX2) (N := 4) (As := [.int (p1)]) (rest := [va_rf ((some a0))]) S hKn hRm hD (c_X2_indexOf l D G base E hv) (mo_X2_indexOf hv) hk9 rfl (by decide) gX2_placeOf_X2_indexOf rfl 1 (by decide +kernel) ⟨by rw [hfr]; decide, by rw [hlo]; decide⟩ rfl hl.1 (Nat.le_trans (cs_A cs_0) (by decide)) rfl dX2_placeOf_3 (fun H locs cells slots hD => ?_)
  refine W.eq (g2 := F0 m 6 ls [.int (r1), va_rf ((some a0))]) rfl ?_
  obtain ⟨b6, hv, hf⟩ := ob_s hf
  obtain ⟨e9, hk9⟩ := oK_of hv
  cases e9
  obtain ⟨r4, s5, hv, hf⟩ := ob_p hf
  refine hw_V (b := a0) (ci := 3) (T := TX2) (N := 4) (As := [.int (r1)]) (rest := []) S hKn hRm hD (c_X2_bytesBefore l D G base E hv) (mo_X2_bytesBefore hv) hk9 rfl (by decide) gX2_placeOf_X2_bytesBefore rfl 1 (by decide +kernel) ⟨by rw [hfr]; decide, by rw [hlo]; decide⟩ rfl hl.1 (Nat.le_trans cs_0 (by decide)) rfl dX2_placeOf_6 (fun H locs cells slots hD => ?_)
  refine W.eq (g2 := F0 m 9 ls [.int (r4)]) rfl ?_
  obtain ⟨e1, e2⟩ := ret_eq hf
  rw [hQ, ← e1, ← e2]
  exact hw_iret S hlk hret rfl hD dX2_placeOf_9
set_option maxHeartbeats 4000000 in
set_option maxRecDepth 100000 in
theorem c_X5_placeOf (l : Launch) (D : va_G) (G : GC) (base : Nat) (E : PE) {a0 : Nat} {p1 : Option Nat} {σ0 τ : PS} {rv : Int32} (hF : f_X5_placeOf E (some a0) p1 σ0 = some (rv, τ)) : Ct l D G base E yX5_placeOf wsX5_placeOf 5 108 ([.ref a0, va_rf (p1)] : List Value) σ0 (some (.int rv)) τ := by
  obtain ⟨hf, hmo⟩ := oM_of hF
  refine Ct.of (own := RX5) [1, 1] (by decide) rfl rfl hmo (ct_R (ct_A ct_0)) (by decide) ?_
  intro p e s m below meth c R Q ls H locs cells slots S hKn hRm hfr hlo hlk hret hnm hQ hD hl
  have hx := S.1
  have hb := S.2.1
  have hts := S.2.2.2.2
  have inX1 : ∀ w ∈ u_ws RX1 TX1 6, w ∈ wsX5_placeOf := by decide +kernel
  have inX5 : ∀ w ∈ u_ws RX5 TX5 8, w ∈ wsX5_placeOf := by decide +kernel
  have wd0 := hts (.fieldLink RX5 139 "SolidGroups$Entry" "twinOf" "I") (by decide +kernel)
  have wd1 := hts (.fieldLink RX5 16 "SolidGroups" "groups" "Ljava/util/ArrayList;") (by decide +kernel)
  have wd2 := hts (.classLink RX5 110 RX2) (by decide +kernel)
  have hB39 : ∀ (w0 : Int32) (σ : PS) (H : Heap) (locs : List Loc) (cells slots : Nat) (ls : Array Slot), Dy D G base E s.heap σ0 σ H locs cells slots → lv_has ls 3 [] → f_X5_placeOf_B39 E w0 σ = some (rv, τ) → W p l e R s m ([.ref a0, va_rf (p1)] : List Value).toArray below meth c H locs cells slots Q (F0 m 39 ls [.int (w0)]) := by
    intro w0 σ H locs cells slots ls hD hl hf
    unfold f_X5_placeOf_B39 at hf
    obtain ⟨e1, e2⟩ := ret_eq hf
    rw [hQ, ← e1, ← e2]
    exact hw_iret S hlk hret rfl hD dX5_placeOf_39
  have hl : lv_has ls 3 [(0, va_rf (some a0)), (1, va_rf (p1))] := hl
  unfold g_X5_placeOf at hf
  refine hw_aload_n (r := (some a0)) hx hb dX5_placeOf_0 rfl (lv_at hl 0 rfl) ?_
  refine hw_aload_n (r := p1) hx hb dX5_placeOf_1 rfl (lv_at hl 1 rfl) ?_
  obtain ⟨x1, hv, hf⟩ := ob_s hf
  refine hw_gi (C := RX1) (T := TX1) (N := 6) (ref := "SolidGroups$Entry") S hKn hD hv rfl (by decide) (by decide) rfl inX1 wd0 (fun _ h9 => h9) dX5_placeOf_2 ?_
  obtain ⟨b4, hv, hf⟩ := ob_s hf
  obtain ⟨e9, hk9⟩ := oK_of hv
  cases e9
  obtain ⟨r2, s3, hv, hf⟩ := ob_p hf
  refine hw_V (b := a0) (ci := 6) (T := TX5) (N := 8) (As := [.int (x1)]) (rest := []) S hKn hRm hD (c_X5_groupNumberOf l D G base E hv) (mo_X5_groupNumberOf hv) hk9 rfl (by decide) gX5_placeOf_X5_groupNumberOf rfl 1 (by decide +kernel) ⟨by rw [hfr]; decide, by rw [hlo]; decide⟩ rfl hl.1 (Nat.le_trans cs_0 (by decide)) rfl dX5_placeOf_5 (fun H locs cells slots hD => ?_)
  refine W.eq (g2 := F0 m 8 ls [.int (r2)]) rfl ?_
  refine hs_istore_n (i := 2) (lv' := [(2, .int (r2)), (0, va_rf ((some a0))), (1, va_rf (p1))]) hx hb dX5_placeOf_8 rfl hl (by decide) (st_okR (st_okR st_ok0)) rfl (fun ls hl => ?_)
  refine hw_aload_n (r := (some a0)) hx hb dX5_placeOf_9 rfl (lv_at hl 1 rfl) ?_
  refine lv_iload_n hx hb dX5_placeOf_10 rfl (lv_at hl 0 rfl) ?_
  obtain ⟨b7, hv, hf⟩ := ob_s hf
  obtain ⟨e9, hk9⟩ := oK_of hv
  cases e9
  obtain ⟨r5, s6, hv, hf⟩ := ob_p hf
  refine hw_V (b := a0) (ci := 6) (T := TX5) (N := 8) (As := [.int (r2)]) (rest := []) S hKn hRm hD (c_X5_isGroup l D G base E hv) (mo_X5_isGroup hv) hk9 rfl (by decide) gX5_placeOf_X5_isGroup rfl 1 (by decide +kernel) ⟨by rw [hfr]; decide, by rw [hlo]; decide⟩ rfl hl.1 (Nat.le_trans cs_0 (by decide)) rfl dX5_placeOf_11 (fun H locs cells slots hD => ?_)
  refine W.eq (g2 := F0 m 14 ls [.int (r5)]) rfl ?_
  refine lv_if_eq (tgt := 38) hx hb dX5_placeOf_14 (by decide) (fun hc => ?_) (fun hc => ?_)
  · rw [if_pos hc] at hf
    refine lv_iconst (v := (-1)) hx hb dX5_placeOf_38 (by decide) ?_
    exact hB39 (-1 : Int32) _ _ _ _ _ _ hD (lv_sub hl [] rfl) hf
  · rw [if_neg hc] at hf
    refine hw_aload_n (r := (some a0)) hx hb dX5_placeOf_17 rfl (lv_at hl 1 rfl) ?_
    obtain ⟨x8, hv, hf⟩ := ob_s hf
    refine hw_gr (C := RX5) (T := TX5) (N := 8) (ref := "SolidGroups") S hKn hD hv rfl (by decide) (by decide) rfl inX5 wd1 (fun _ h9 => h9) dX5_placeOf_18 ?_
    refine lv_iload_n hx hb dX5_placeOf_21 rfl (lv_at hl 0 rfl) ?_
    obtain ⟨b11, hv, hf⟩ := ob_s hf
    obtain ⟨e9, hk9⟩ := oK_of hv
    cases e9
    obtain ⟨r9, s10, hv, hf⟩ := ob_p hf
    refine hw_V (b := b11) (ci := 0) (T := TJx4a65c) (N := 3) (As := [.int (r2)]) (rest := []) S hKn hRm hD (c_Jx4a65c_get_915e3 l D G base E hv) (mo_Jx4a65c_get_915e3 hv) hk9 rfl (by decide) gX5_placeOf_Jx4a65c_get_915e3 rfl 1 (by decide +kernel) ⟨by rw [hfr]; decide, by rw [hlo]; decide⟩ rfl hl.1 (Nat.le_trans cs_0 (by decide)) rfl dX5_placeOf_22 (fun H locs cells slots hD => ?_)
    refine W.eq (g2 := F0 m 25 ls [va_rf (r9)]) rfl ?_
    obtain ⟨u12, hv, hf⟩ := ob_s hf
    refine hw_ca (C := RX2) (T := TX2) (N := 4) S hKn hD hv rfl (by decide) wd2 dX5_placeOf_25 ?_
    refine hw_aload_n (r := p1) hx hb dX5_placeOf_28 rfl (lv_at hl 2 rfl) ?_
    obtain ⟨x13, hv, hf⟩ := ob_s hf
    refine hw_gi (C := RX1) (T := TX1) (N := 6) (ref := "SolidGroups$Entry") S hKn hD hv rfl (by decide) (by decide) rfl inX1 wd0 (fun _ h9 => h9) dX5_placeOf_29 ?_
    obtain ⟨b16, hv, hf⟩ := ob_s hf
    obtain ⟨e9, hk9⟩ := oK_of hv
    cases e9
    obtain ⟨r14, s15, hv, hf⟩ := ob_p hf
    refine hw_V (b := b16) (ci := 3) (T := TX2) (N := 4) (As := [.int (x13)]) (rest := []) S hKn hRm hD (c_X2_placeOf l D G base E hv) (mo_X2_placeOf hv) hk9 rfl (by decide) gX5_placeOf_X2_placeOf rfl 1 (by decide +kernel) ⟨by rw [hfr]; decide, by rw [hlo]; decide⟩ rfl hl.1 (Nat.le_trans cs_0 (by decide)) rfl dX5_placeOf_32 (fun H locs cells slots hD => ?_)
    refine W.eq (g2 := F0 m 35 ls [.int (r14)]) rfl ?_
    refine lv_goto (tgt := 39) hx hb dX5_placeOf_35 (by decide) ?_
    exact hB39 r14 _ _ _ _ _ _ hD (lv_sub hl [] rfl) hf
set_option maxHeartbeats 4000000 in
set_option maxRecDepth 100000 in
theorem c_X5_place (l : Launch) (D : va_G) (G : GC) (base : Nat) (E : PE) {a0 : Nat} {p1 : Int32} {σ0 τ : PS} {rv : Int32} (hF : f_X5_place E (some a0) p1 σ0 = some (rv, τ)) : Ct l D G base E yX5_place wsX5_place 6 130 ([.ref a0, .int (p1)] : List Value) σ0 (some (.int rv)) τ := by
  obtain ⟨hf, hmo⟩ := oM_of hF
  refine Ct.of (own := RX5) [1, 1] (by decide) rfl rfl hmo (ct_R (ct_I ct_0)) (by decide) ?_
  intro p e s m below meth c R Q ls H locs cells slots S hKn hRm hfr hlo hlk hret hnm hQ hD hl
  have hx := S.1
  have hb := S.2.1
  have hts := S.2.2.2.2
  have inX5 : ∀ w ∈ u_ws RX5 TX5 8, w ∈ wsX5_place := by decide +kernel
  have wd0 := hts (.fieldLink RX5 39 "SolidGroups" "packed" "Z") (by decide +kernel)
  have wd1 := hts (.fieldLink RX5 10 "SolidGroups" "entries" "Ljava/util/ArrayList;") (by decide +kernel)
  have wd2 := hts (.classLink RX5 55 "SolidGroups$Entry") (by decide +kernel)
  have hl : lv_has ls 2 [(0, va_rf (some a0)), (1, .int (p1))] := hl
  unfold g_X5_place at hf
  refine hw_aload_n (r := (some a0)) hx hb dX5_place_0 rfl (lv_at hl 0 rfl) ?_
  refine lv_iload_n hx hb dX5_place_1 rfl (lv_at hl 1 rfl) ?_
  obtain ⟨b3, hv, hf⟩ := ob_s hf
  obtain ⟨e9, hk9⟩ := oK_of hv
  cases e9
  obtain ⟨r1, s2, hv, hf⟩ := ob_p hf
  refine hw_V (b := a0) (ci := 6) (T := TX5) (N := 8) (As := [.int (p1)]) (rest := []) S hKn hRm hD (c_X5_isEntry l D G base E hv) (mo_X5_isEntry hv) hk9 rfl (by decide) gX5_place_X5_isEntry rfl 1 (by decide +kernel) ⟨by rw [hfr]; decide, by rw [hlo]; decide⟩ rfl hl.1 (Nat.le_trans cs_0 (by decide)) rfl dX5_place_2 (fun H locs cells slots hD => ?_)
  refine W.eq (g2 := F0 m 5 ls [.int (r1)]) rfl ?_
  refine lv_if_ne (tgt := 10) hx hb dX5_place_5 (by decide) (fun hc => ?_) (fun hc => ?_)
  · rw [if_neg hc] at hf
    refine hw_aload_n (r := (some a0)) hx hb dX5_place_10 rfl (lv_at hl 0 rfl) ?_
    obtain ⟨x4, hv, hf⟩ := ob_s hf
    refine hw_gi (C := RX5) (T := TX5) (N := 8) (ref := "SolidGroups") S hKn hD hv rfl (by decide) (by decide) rfl inX5 wd0 (fun _ h9 => h9) dX5_place_11 ?_
    refine lv_if_ne (tgt := 20) hx hb dX5_place_14 (by decide) (fun hc => ?_) (fun hc => ?_)
    · rw [if_neg hc] at hf
      refine hw_aload_n (r := (some a0)) hx hb dX5_place_20 rfl (lv_at hl 0 rfl) ?_
      refine hw_aload_n (r := (some a0)) hx hb dX5_place_21 rfl (lv_at hl 0 rfl) ?_
      obtain ⟨x5, hv, hf⟩ := ob_s hf
      refine hw_gr (C := RX5) (T := TX5) (N := 8) (ref := "SolidGroups") S hKn hD hv rfl (by decide) (by decide) rfl inX5 wd1 (fun _ h9 => h9) dX5_place_22 ?_
      refine lv_iload_n hx hb dX5_place_25 rfl (lv_at hl 1 rfl) ?_
      obtain ⟨b8, hv, hf⟩ := ob_s hf
      obtain ⟨e9, hk9⟩ := oK_of hv
      cases e9
      obtain ⟨r6, s7, hv, hf⟩ := ob_p hf
      refine hw_V (b := b8) (ci := 0) (T := TJx4a65c) (N := 3) (As := [.int (p1)]) (rest := [va_rf ((some a0))]) S hKn hRm hD (c_Jx4a65c_get_915e3 l D G base E hv) (mo_Jx4a65c_get_915e3 hv) hk9 rfl (by decide) gX5_place_Jx4a65c_get_915e3 rfl 1 (by decide +kernel) ⟨by rw [hfr]; decide, by rw [hlo]; decide⟩ rfl hl.1 (Nat.le_trans (cs_A cs_0) (by decide)) rfl dX5_place_26 (fun H locs cells slots hD => ?_)
      refine W.eq (g2 := F0 m 29 ls [va_rf (r6), va_rf ((some a0))]) rfl ?_
      obtain ⟨u9, hv, hf⟩ := ob_s hf
      refine hw_ca (C := RX1) (T := TX1) (N := 6) S hKn hD hv rfl (by decide) wd2 dX5_place_29 ?_
      obtain ⟨b12, hv, hf⟩ := ob_s hf
      obtain ⟨e9, hk9⟩ := oK_of hv
      cases e9
      obtain ⟨r10, s11, hv, hf⟩ := ob_p hf
      refine hw_V (b := a0) (ci := 6) (T := TX5) (N := 8) (As := [va_rf (r6)]) (rest := []) S hKn hRm hD (c_X5_placeOf l D G base E hv) (mo_X5_placeOf hv) hk9 rfl (by decide) gX5_place_X5_placeOf rfl 1 (by decide +kernel) ⟨by rw [hfr]; decide, by rw [hlo]; decide⟩ rfl hl.1 (Nat.le_trans cs_0 (by decide)) rfl dX5_place_32 (fun H locs cells slots hD => ?_)
      refine W.eq (g2 := F0 m 35 ls [.int (r10)]) rfl ?_
      obtain ⟨e1, e2⟩ := ret_eq hf
      rw [hQ, ← e1, ← e2]
      exact hw_iret S hlk hret rfl hD dX5_place_35
    · rw [if_pos hc] at hf
      refine lv_bipush (v := (-2)) hx hb dX5_place_17 (by decide) ?_
      obtain ⟨e1, e2⟩ := ret_eq hf
      rw [hQ, ← e1, ← e2]
      exact hw_iret S hlk hret rfl hD dX5_place_19
  · rw [if_pos hc] at hf
    refine lv_iconst (v := (-1)) hx hb dX5_place_8 (by decide) ?_
    obtain ⟨e1, e2⟩ := ret_eq hf
    rw [hQ, ← e1, ← e2]
    exact hw_iret S hlk hret rfl hD dX5_place_9
set_option maxHeartbeats 4000000 in
set_option maxRecDepth 100000 in
theorem c_X4_tokensTill (l : Launch) (D : va_G) (G : GC) (base : Nat) (E : PE) {a0 : Nat} {p1 : Int32} {σ0 τ : PS} {rv : Int32} (hF : f_X4_tokensTill E (some a0) p1 σ0 = some (rv, τ)) : Ct l D G base E yX4_tokensTill wsX4_tokensTill 0 0 ([.ref a0, .int (p1)] : List Value) σ0 (some (.int rv)) τ := by
  obtain ⟨hf, hmo⟩ := oM_of hF
  refine Ct.of (own := RX4) [1, 1] (by decide) rfl rfl hmo (ct_R (ct_I ct_0)) (by decide) ?_
  intro p e s m below meth c R Q ls H locs cells slots S hKn hRm hfr hlo hlk hret hnm hQ hD hl
  have hx := S.1
  have hb := S.2.1
  have hts := S.2.2.2.2
  have inX4 : ∀ w ∈ u_ws RX4 TX4 5, w ∈ wsX4_tokensTill := by decide +kernel
  have wd0 := hts (.fieldLink RX4 21 "SolidGroups$TokenRow" "count" "I") (by decide +kernel)
  have wd1 := hts (.fieldLink RX4 18 "SolidGroups$TokenRow" "many" "[I") (by decide +kernel)
  have hL4 : ∀ (n : Nat), ∀ (v0 : Option Nat) (v1 : Int32) (v2 : Int32) (v3 : Int32) (σ : PS) (H : Heap) (locs : List Loc) (cells slots : Nat) (ls : Array Slot), Dy D G base E s.heap σ0 σ H locs cells slots → lv_has ls 4 [(0, va_rf (v0)), (1, .int (v1)), (2, .int (v2)), (3, .int (v3))] → f_X4_tokensTill_L4 E n v0 v1 v2 v3 σ = some (rv, τ) → W p l e R s m ([.ref a0, .int (p1)] : List Value).toArray below meth c H locs cells slots Q (F0 m 4 ls []) := by
    intro n
    induction n with
    | zero =>
      intro v0 v1 v2 v3 σ H locs cells slots ls hD hl hf
      rw [f_X4_tokensTill_L4] at hf
      cases hf
    | succ n ih =>
      intro v0 v1 v2 v3 σ H locs cells slots ls hD hl hf
      rw [f_X4_tokensTill_L4] at hf
      refine lv_iload_n hx hb dX4_tokensTill_4 rfl (lv_at hl 3 rfl) ?_
      refine hw_aload_n (r := v0) hx hb dX4_tokensTill_5 rfl (lv_at hl 0 rfl) ?_
      obtain ⟨x1, hv, hf⟩ := ob_s hf
      refine hw_gi (C := RX4) (T := TX4) (N := 5) (ref := "SolidGroups$TokenRow") S hKn hD hv rfl (by decide) (by decide) rfl inX4 wd0 (fun _ h9 => h9) dX4_tokensTill_6 ?_
      refine lv_icmp_ge (tgt := 34) hx hb dX4_tokensTill_9 (by decide) (fun hc => ?_) (fun hc => ?_)
      · rw [if_pos hc] at hf
        refine hw_aload_n (r := v0) hx hb dX4_tokensTill_34 rfl (lv_at hl 0 rfl) ?_
        obtain ⟨x2, hv, hf⟩ := ob_s hf
        refine hw_gi (C := RX4) (T := TX4) (N := 5) (ref := "SolidGroups$TokenRow") S hKn hD hv rfl (by decide) (by decide) rfl inX4 wd0 (fun _ h9 => h9) dX4_tokensTill_35 ?_
        obtain ⟨e1, e2⟩ := ret_eq hf
        rw [hQ, ← e1, ← e2]
        exact hw_iret S hlk hret rfl hD dX4_tokensTill_38
      · rw [if_neg hc] at hf
        refine lv_iload_n hx hb dX4_tokensTill_12 rfl (lv_at hl 2 rfl) ?_
        refine lv_iload_n hx hb dX4_tokensTill_13 rfl (lv_at hl 1 rfl) ?_
        refine lv_icmp_lt (tgt := 19) hx hb dX4_tokensTill_14 (by decide) (fun hc => ?_) (fun hc => ?_)
        · rw [if_pos hc] at hf
          refine lv_iload_n hx hb dX4_tokensTill_19 rfl (lv_at hl 2 rfl) ?_
          refine hw_aload_n (r := v0) hx hb dX4_tokensTill_20 rfl (lv_at hl 0 rfl) ?_
          obtain ⟨x3, hv, hf⟩ := ob_s hf
          refine hw_gr (C := RX4) (T := TX4) (N := 5) (ref := "SolidGroups$TokenRow") S hKn hD hv rfl (by decide) (by decide) rfl inX4 wd1 (fun _ h9 => h9) dX4_tokensTill_21 ?_
          refine lv_iload_n hx hb dX4_tokensTill_24 rfl (lv_at hl 3 rfl) ?_
          obtain ⟨x4, hv, hf⟩ := ob_s hf
          refine hw_al S hKn hD hv dX4_tokensTill_25 ?_
          refine lv_iadd hx hb dX4_tokensTill_26 ?_
          refine hs_istore_n (i := 2) (lv' := [(2, .int (v2 + x4)), (0, va_rf (v0)), (1, .int (v1)), (3, .int (v3))]) hx hb dX4_tokensTill_27 rfl hl (by decide) (st_okR (st_okI (st_okI (st_okI st_ok0)))) rfl (fun ls hl => ?_)
          refine hs_iinc (i := 3) (k := 3) (v := v3 + 1) (lv' := [(3, .int (v3 + 1)), (2, .int (v2 + x4)), (0, va_rf (v0)), (1, .int (v1))]) hx hb dX4_tokensTill_28 hl rfl (congrArg (fun z => v3 + z) (by decide)) (by decide) (st_okI (st_okR (st_okI (st_okI st_ok0)))) rfl (fun ls hl => ?_)
          refine lv_goto (tgt := 4) hx hb dX4_tokensTill_31 (by decide) ?_
          exact ih v0 v1 (v2 + x4) (v3 + 1) _ _ _ _ _ _ hD (lv_sub hl [2, 3, 1, 0] rfl) hf
        · rw [if_neg hc] at hf
          refine lv_iload_n hx hb dX4_tokensTill_17 rfl (lv_at hl 3 rfl) ?_
          obtain ⟨e1, e2⟩ := ret_eq hf
          rw [hQ, ← e1, ← e2]
          exact hw_iret S hlk hret rfl hD dX4_tokensTill_18
  have hl : lv_has ls 4 [(0, va_rf (some a0)), (1, .int (p1))] := hl
  unfold g_X4_tokensTill at hf
  refine lv_iconst (v := (0)) hx hb dX4_tokensTill_0 (by decide) ?_
  refine hs_istore_n (i := 2) (lv' := [(2, .int ((0 : Int32))), (0, va_rf ((some a0))), (1, .int (p1))]) hx hb dX4_tokensTill_1 rfl hl (by decide) (st_okR (st_okI st_ok0)) rfl (fun ls hl => ?_)
  refine lv_iconst (v := (0)) hx hb dX4_tokensTill_2 (by decide) ?_
  refine hs_istore_n (i := 3) (lv' := [(3, .int ((0 : Int32))), (2, .int ((0 : Int32))), (0, va_rf ((some a0))), (1, .int (p1))]) hx hb dX4_tokensTill_3 rfl hl (by decide) (st_okI (st_okR (st_okI st_ok0))) rfl (fun ls hl => ?_)
  exact hL4 _ (some a0) p1 (0 : Int32) (0 : Int32) _ _ _ _ _ _ hD (lv_sub hl [2, 3, 1, 0] rfl) hf
set_option maxHeartbeats 4000000 in
set_option maxRecDepth 100000 in
theorem c_X5_access (l : Launch) (D : va_G) (G : GC) (base : Nat) (E : PE) {a0 : Nat} {p1 : Int32} {σ0 τ : PS} {rv : Int32} (hF : f_X5_access E (some a0) p1 σ0 = some (rv, τ)) : Ct l D G base E yX5_access wsX5_access 6 130 ([.ref a0, .int (p1)] : List Value) σ0 (some (.int rv)) τ := by
  obtain ⟨hf, hmo⟩ := oM_of hF
  refine Ct.of (own := RX5) [1, 1] (by decide) rfl rfl hmo (ct_R (ct_I ct_0)) (by decide) ?_
  intro p e s m below meth c R Q ls H locs cells slots S hKn hRm hfr hlo hlk hret hnm hQ hD hl
  have hx := S.1
  have hb := S.2.1
  have hts := S.2.2.2.2
  have inX5 : ∀ w ∈ u_ws RX5 TX5 8, w ∈ wsX5_access := by decide +kernel
  have inX1 : ∀ w ∈ u_ws RX1 TX1 6, w ∈ wsX5_access := by decide +kernel
  have inX2 : ∀ w ∈ u_ws RX2 TX2 4, w ∈ wsX5_access := by decide +kernel
  have wd0 := hts (.fieldLink RX5 39 "SolidGroups" "packed" "Z") (by decide +kernel)
  have wd1 := hts (.fieldLink RX5 10 "SolidGroups" "entries" "Ljava/util/ArrayList;") (by decide +kernel)
  have wd2 := hts (.classLink RX5 55 "SolidGroups$Entry") (by decide +kernel)
  have wd3 := hts (.fieldLink RX5 139 "SolidGroups$Entry" "twinOf" "I") (by decide +kernel)
  have wd4 := hts (.fieldLink RX5 71 "SolidGroups$Entry" "length" "I") (by decide +kernel)
  have wd5 := hts (.fieldLink RX5 16 "SolidGroups" "groups" "Ljava/util/ArrayList;") (by decide +kernel)
  have wd6 := hts (.classLink RX5 110 RX2) (by decide +kernel)
  have wd7 := hts (.fieldLink RX5 153 "SolidGroups$Group" "row" "LSolidGroups$TokenRow;") (by decide +kernel)
  have hB56 : ∀ (σ : PS) (H : Heap) (locs : List Loc) (cells slots : Nat) (ls : Array Slot), Dy D G base E s.heap σ0 σ H locs cells slots → lv_has ls 4 [] → f_X5_access_B56 E σ = some (rv, τ) → W p l e R s m ([.ref a0, .int (p1)] : List Value).toArray below meth c H locs cells slots Q (F0 m 56 ls []) := by
    intro σ H locs cells slots ls hD hl hf
    unfold f_X5_access_B56 at hf
    refine lv_iconst (v := (0)) hx hb dX5_access_56 (by decide) ?_
    obtain ⟨e1, e2⟩ := ret_eq hf
    rw [hQ, ← e1, ← e2]
    exact hw_iret S hlk hret rfl hD dX5_access_57
  have hl : lv_has ls 4 [(0, va_rf (some a0)), (1, .int (p1))] := hl
  unfold g_X5_access at hf
  refine hw_aload_n (r := (some a0)) hx hb dX5_access_0 rfl (lv_at hl 0 rfl) ?_
  refine lv_iload_n hx hb dX5_access_1 rfl (lv_at hl 1 rfl) ?_
  obtain ⟨b3, hv, hf⟩ := ob_s hf
  obtain ⟨e9, hk9⟩ := oK_of hv
  cases e9
  obtain ⟨r1, s2, hv, hf⟩ := ob_p hf
  refine hw_V (b := a0) (ci := 6) (T := TX5) (N := 8) (As := [.int (p1)]) (rest := []) S hKn hRm hD (c_X5_isEntry l D G base E hv) (mo_X5_isEntry hv) hk9 rfl (by decide) gX5_access_X5_isEntry rfl 1 (by decide +kernel) ⟨by rw [hfr]; decide, by rw [hlo]; decide⟩ rfl hl.1 (Nat.le_trans cs_0 (by decide)) rfl dX5_access_2 (fun H locs cells slots hD => ?_)
  refine W.eq (g2 := F0 m 5 ls [.int (r1)]) rfl ?_
  refine lv_if_ne (tgt := 10) hx hb dX5_access_5 (by decide) (fun hc => ?_) (fun hc => ?_)
  · rw [if_neg hc] at hf
    refine hw_aload_n (r := (some a0)) hx hb dX5_access_10 rfl (lv_at hl 0 rfl) ?_
    obtain ⟨x4, hv, hf⟩ := ob_s hf
    refine hw_gi (C := RX5) (T := TX5) (N := 8) (ref := "SolidGroups") S hKn hD hv rfl (by decide) (by decide) rfl inX5 wd0 (fun _ h9 => h9) dX5_access_11 ?_
    refine lv_if_ne (tgt := 20) hx hb dX5_access_14 (by decide) (fun hc => ?_) (fun hc => ?_)
    · rw [if_neg hc] at hf
      refine hw_aload_n (r := (some a0)) hx hb dX5_access_20 rfl (lv_at hl 0 rfl) ?_
      obtain ⟨x5, hv, hf⟩ := ob_s hf
      refine hw_gr (C := RX5) (T := TX5) (N := 8) (ref := "SolidGroups") S hKn hD hv rfl (by decide) (by decide) rfl inX5 wd1 (fun _ h9 => h9) dX5_access_21 ?_
      refine lv_iload_n hx hb dX5_access_24 rfl (lv_at hl 1 rfl) ?_
      obtain ⟨b8, hv, hf⟩ := ob_s hf
      obtain ⟨e9, hk9⟩ := oK_of hv
      cases e9
      obtain ⟨r6, s7, hv, hf⟩ := ob_p hf
      refine hw_V (b := b8) (ci := 0) (T := TJx4a65c) (N := 3) (As := [.int (p1)]) (rest := []) S hKn hRm hD (c_Jx4a65c_get_915e3 l D G base E hv) (mo_Jx4a65c_get_915e3 hv) hk9 rfl (by decide) gX5_access_Jx4a65c_get_915e3 rfl 1 (by decide +kernel) ⟨by rw [hfr]; decide, by rw [hlo]; decide⟩ rfl hl.1 (Nat.le_trans cs_0 (by decide)) rfl dX5_access_25 (fun H locs cells slots hD => ?_)
      refine W.eq (g2 := F0 m 28 ls [va_rf (r6)]) rfl ?_
      obtain ⟨u9, hv, hf⟩ := ob_s hf
      refine hw_ca (C := RX1) (T := TX1) (N := 6) S hKn hD hv rfl (by decide) wd2 dX5_access_28 ?_
      refine hs_astore_n (i := 2) (lv' := [(2, va_rf (r6)), (0, va_rf ((some a0))), (1, .int (p1))]) hx hb dX5_access_31 rfl hl (by decide) (st_okR (st_okI st_ok0)) rfl (fun ls hl => ?_)
      refine hw_aload_n (r := (some a0)) hx hb dX5_access_32 rfl (lv_at hl 1 rfl) ?_
      refine hw_aload_n (r := r6) hx hb dX5_access_33 rfl (lv_at hl 0 rfl) ?_
      obtain ⟨x10, hv, hf⟩ := ob_s hf
      refine hw_gi (C := RX1) (T := TX1) (N := 6) (ref := "SolidGroups$Entry") S hKn hD hv rfl (by decide) (by decide) rfl inX1 wd3 (fun _ h9 => h9) dX5_access_34 ?_
      obtain ⟨b13, hv, hf⟩ := ob_s hf
      obtain ⟨e9, hk9⟩ := oK_of hv
      cases e9
      obtain ⟨r11, s12, hv, hf⟩ := ob_p hf
      refine hw_V (b := a0) (ci := 6) (T := TX5) (N := 8) (As := [.int (x10)]) (rest := []) S hKn hRm hD (c_X5_groupNumberOf l D G base E hv) (mo_X5_groupNumberOf hv) hk9 rfl (by decide) gX5_access_X5_groupNumberOf rfl 1 (by decide +kernel) ⟨by rw [hfr]; decide, by rw [hlo]; decide⟩ rfl hl.1 (Nat.le_trans cs_0 (by decide)) rfl dX5_access_37 (fun H locs cells slots hD => ?_)
      refine W.eq (g2 := F0 m 40 ls [.int (r11)]) rfl ?_
      refine hs_istore_n (i := 3) (lv' := [(3, .int (r11)), (2, va_rf (r6)), (0, va_rf ((some a0))), (1, .int (p1))]) hx hb dX5_access_40 rfl hl (by decide) (st_okR (st_okR (st_okI st_ok0))) rfl (fun ls hl => ?_)
      refine hw_aload_n (r := r6) hx hb dX5_access_41 rfl (lv_at hl 1 rfl) ?_
      obtain ⟨x14, hv, hf⟩ := ob_s hf
      refine hw_gi (C := RX1) (T := TX1) (N := 6) (ref := "SolidGroups$Entry") S hKn hD hv rfl (by decide) (by decide) rfl inX1 wd4 (fun _ h9 => h9) dX5_access_42 ?_
      refine lv_if_eq (tgt := 56) hx hb dX5_access_45 (by decide) (fun hc => ?_) (fun hc => ?_)
      · rw [if_pos hc] at hf
        exact hB56 _ _ _ _ _ _ hD (lv_sub hl [] rfl) hf
      · rw [if_neg hc] at hf
        refine hw_aload_n (r := (some a0)) hx hb dX5_access_48 rfl (lv_at hl 2 rfl) ?_
        refine lv_iload_n hx hb dX5_access_49 rfl (lv_at hl 0 rfl) ?_
        obtain ⟨b17, hv, hf⟩ := ob_s hf
        obtain ⟨e9, hk9⟩ := oK_of hv
        cases e9
        obtain ⟨r15, s16, hv, hf⟩ := ob_p hf
        refine hw_V (b := a0) (ci := 6) (T := TX5) (N := 8) (As := [.int (r11)]) (rest := []) S hKn hRm hD (c_X5_isGroup l D G base E hv) (mo_X5_isGroup hv) hk9 rfl (by decide) gX5_access_X5_isGroup rfl 1 (by decide +kernel) ⟨by rw [hfr]; decide, by rw [hlo]; decide⟩ rfl hl.1 (Nat.le_trans cs_0 (by decide)) rfl dX5_access_50 (fun H locs cells slots hD => ?_)
        refine W.eq (g2 := F0 m 53 ls [.int (r15)]) rfl ?_
        refine lv_if_ne (tgt := 58) hx hb dX5_access_53 (by decide) (fun hc => ?_) (fun hc => ?_)
        · rw [if_neg hc] at hf
          refine hw_aload_n (r := (some a0)) hx hb dX5_access_58 rfl (lv_at hl 2 rfl) ?_
          obtain ⟨x18, hv, hf⟩ := ob_s hf
          refine hw_gr (C := RX5) (T := TX5) (N := 8) (ref := "SolidGroups") S hKn hD hv rfl (by decide) (by decide) rfl inX5 wd5 (fun _ h9 => h9) dX5_access_59 ?_
          refine lv_iload_n hx hb dX5_access_62 rfl (lv_at hl 0 rfl) ?_
          obtain ⟨b21, hv, hf⟩ := ob_s hf
          obtain ⟨e9, hk9⟩ := oK_of hv
          cases e9
          obtain ⟨r19, s20, hv, hf⟩ := ob_p hf
          refine hw_V (b := b21) (ci := 0) (T := TJx4a65c) (N := 3) (As := [.int (r11)]) (rest := []) S hKn hRm hD (c_Jx4a65c_get_915e3 l D G base E hv) (mo_Jx4a65c_get_915e3 hv) hk9 rfl (by decide) gX5_access_Jx4a65c_get_915e3 rfl 1 (by decide +kernel) ⟨by rw [hfr]; decide, by rw [hlo]; decide⟩ rfl hl.1 (Nat.le_trans cs_0 (by decide)) rfl dX5_access_63 (fun H locs cells slots hD => ?_)
          refine W.eq (g2 := F0 m 66 ls [va_rf (r19)]) rfl ?_
          obtain ⟨u22, hv, hf⟩ := ob_s hf
          refine hw_ca (C := RX2) (T := TX2) (N := 4) S hKn hD hv rfl (by decide) wd6 dX5_access_66 ?_
          obtain ⟨x23, hv, hf⟩ := ob_s hf
          refine hw_gr (C := RX2) (T := TX2) (N := 4) (ref := "SolidGroups$Group") S hKn hD hv rfl (by decide) (by decide) rfl inX2 wd7 (fun _ h9 => h9) dX5_access_69 ?_
          refine hw_aload_n (r := (some a0)) hx hb dX5_access_72 rfl (lv_at hl 2 rfl) ?_
          refine hw_aload_n (r := r6) hx hb dX5_access_73 rfl (lv_at hl 1 rfl) ?_
          obtain ⟨b26, hv, hf⟩ := ob_s hf
          obtain ⟨e9, hk9⟩ := oK_of hv
          cases e9
          obtain ⟨r24, s25, hv, hf⟩ := ob_p hf
          refine hw_V (b := a0) (ci := 6) (T := TX5) (N := 8) (As := [va_rf (r6)]) (rest := [va_rf (x23)]) S hKn hRm hD (c_X5_placeOf l D G base E hv) (mo_X5_placeOf hv) hk9 rfl (by decide) gX5_access_X5_placeOf rfl 1 (by decide +kernel) ⟨by rw [hfr]; decide, by rw [hlo]; decide⟩ rfl hl.1 (Nat.le_trans (cs_A cs_0) (by decide)) rfl dX5_access_74 (fun H locs cells slots hD => ?_)
          refine W.eq (g2 := F0 m 77 ls [.int (r24), va_rf (x23)]) rfl ?_
          refine hw_aload_n (r := r6) hx hb dX5_access_77 rfl (lv_at hl 1 rfl) ?_
          obtain ⟨x27, hv, hf⟩ := ob_s hf
          refine hw_gi (C := RX1) (T := TX1) (N := 6) (ref := "SolidGroups$Entry") S hKn hD hv rfl (by decide) (by decide) rfl inX1 wd4 (fun _ h9 => h9) dX5_access_78 ?_
          refine lv_iadd hx hb dX5_access_81 ?_
          obtain ⟨b30, hv, hf⟩ := ob_s hf
          obtain ⟨e9, hk9⟩ := oK_of hv
          cases e9
          obtain ⟨r28, s29, hv, hf⟩ := ob_p hf
          refine hw_V (b := b30) (ci := 5) (T := TX4) (N := 5) (As := [.int (r24 + x27)]) (rest := []) S hKn hRm hD (c_X4_tokensTill l D G base E hv) (mo_X4_tokensTill hv) hk9 rfl (by decide) gX5_access_X4_tokensTill rfl 1 (by decide +kernel) ⟨by rw [hfr]; decide, by rw [hlo]; decide⟩ rfl hl.1 (Nat.le_trans cs_0 (by decide)) rfl dX5_access_82 (fun H locs cells slots hD => ?_)
          refine W.eq (g2 := F0 m 85 ls [.int (r28)]) rfl ?_
          obtain ⟨e1, e2⟩ := ret_eq hf
          rw [hQ, ← e1, ← e2]
          exact hw_iret S hlk hret rfl hD dX5_access_85
        · rw [if_pos hc] at hf
          exact hB56 _ _ _ _ _ _ hD (lv_sub hl [] rfl) hf
    · rw [if_pos hc] at hf
      refine lv_bipush (v := (-2)) hx hb dX5_access_17 (by decide) ?_
      obtain ⟨e1, e2⟩ := ret_eq hf
      rw [hQ, ← e1, ← e2]
      exact hw_iret S hlk hret rfl hD dX5_access_19
  · rw [if_pos hc] at hf
    refine lv_iconst (v := (-1)) hx hb dX5_access_8 (by decide) ?_
    obtain ⟨e1, e2⟩ := ret_eq hf
    rw [hQ, ← e1, ← e2]
    exact hw_iret S hlk hret rfl hD dX5_access_9
set_option maxHeartbeats 4000000 in
set_option maxRecDepth 100000 in
theorem c_X4_unpack (l : Launch) (D : va_G) (G : GC) (base : Nat) (E : PE) {a0 : Nat} {p1 : Int32} {σ0 τ : PS} {rv : Int32} (hF : f_X4_unpack E (some a0) p1 σ0 = some (rv, τ)) : Ct l D G base E yX4_unpack wsX4_unpack 1 23 ([.ref a0, .int (p1)] : List Value) σ0 (some (.int rv)) τ := by
  obtain ⟨hf, hmo⟩ := oM_of hF
  refine Ct.of (own := RX4) [1, 1] (by decide) rfl rfl hmo (ct_R (ct_I ct_0)) (by decide) ?_
  intro p e s m below meth c R Q ls H locs cells slots S hKn hRm hfr hlo hlk hret hnm hQ hD hl
  have hx := S.1
  have hb := S.2.1
  have hts := S.2.2.2.2
  have inX4 : ∀ w ∈ u_ws RX4 TX4 5, w ∈ wsX4_unpack := by decide +kernel
  have wd0 := hts (.fieldLink RX4 9 "SolidGroups$TokenRow" "value" "[I") (by decide +kernel)
  have wd1 := hts (.fieldLink RX4 15 "SolidGroups$TokenRow" "back" "[I") (by decide +kernel)
  have hB66 : ∀ (σ : PS) (H : Heap) (locs : List Loc) (cells slots : Nat) (ls : Array Slot), Dy D G base E s.heap σ0 σ H locs cells slots → lv_has ls 5 [] → f_X4_unpack_B66 E σ = some (rv, τ) → W p l e R s m ([.ref a0, .int (p1)] : List Value).toArray below meth c H locs cells slots Q (F0 m 66 ls []) := by
    intro σ H locs cells slots ls hD hl hf
    unfold f_X4_unpack_B66 at hf
    refine lv_iconst (v := (-1)) hx hb dX4_unpack_66 (by decide) ?_
    obtain ⟨e1, e2⟩ := ret_eq hf
    rw [hQ, ← e1, ← e2]
    exact hw_iret S hlk hret rfl hD dX4_unpack_67
  have hL4 : ∀ (n : Nat), ∀ (v0 : Option Nat) (v1 : Int32) (v2 : Int32) (v3 : Int32) (σ : PS) (H : Heap) (locs : List Loc) (cells slots : Nat) (ls : Array Slot), Dy D G base E s.heap σ0 σ H locs cells slots → lv_has ls 5 [(0, va_rf (v0)), (1, .int (v1)), (2, .int (v2)), (3, .int (v3))] → f_X4_unpack_L4 E n v0 v1 v2 v3 σ = some (rv, τ) → W p l e R s m ([.ref a0, .int (p1)] : List Value).toArray below meth c H locs cells slots Q (F0 m 4 ls []) := by
    intro n
    induction n with
    | zero =>
      intro v0 v1 v2 v3 σ H locs cells slots ls hD hl hf
      rw [f_X4_unpack_L4] at hf
      cases hf
    | succ n ih =>
      intro v0 v1 v2 v3 σ H locs cells slots ls hD hl hf
      rw [f_X4_unpack_L4] at hf
      refine lv_iload_n hx hb dX4_unpack_4 rfl (lv_at hl 3 rfl) ?_
      refine lv_iload_n hx hb dX4_unpack_5 rfl (lv_at hl 1 rfl) ?_
      refine lv_icmp_gt (tgt := 66) hx hb dX4_unpack_6 (by decide) (fun hc => ?_) (fun hc => ?_)
      · rw [if_pos hc] at hf
        exact hB66 _ _ _ _ _ _ hD (lv_sub hl [] rfl) hf
      · rw [if_neg hc] at hf
        refine lv_iload_n hx hb dX4_unpack_9 rfl (lv_at hl 2 rfl) ?_
        refine lv_if_lt (tgt := 66) hx hb dX4_unpack_10 (by decide) (fun hc => ?_) (fun hc => ?_)
        · rw [if_pos hc] at hf
          exact hB66 _ _ _ _ _ _ hD (lv_sub hl [] rfl) hf
        · rw [if_neg hc] at hf
          refine hw_aload_n (r := v0) hx hb dX4_unpack_13 rfl (lv_at hl 0 rfl) ?_
          refine lv_iload_n hx hb dX4_unpack_14 rfl (lv_at hl 2 rfl) ?_
          refine lv_iconst (v := (1)) hx hb dX4_unpack_15 (by decide) ?_
          refine lv_iadd hx hb dX4_unpack_16 ?_
          obtain ⟨b3, hv, hf⟩ := ob_s hf
          obtain ⟨e9, hk9⟩ := oK_of hv
          cases e9
          obtain ⟨r1, s2, hv, hf⟩ := ob_p hf
          refine hw_V (b := b3) (ci := 5) (T := TX4) (N := 5) (As := [.int (v2 + (1 : Int32))]) (rest := []) S hKn hRm hD (c_X4_tokensTill l D G base E hv) (mo_X4_tokensTill hv) hk9 rfl (by decide) gX4_unpack_X4_tokensTill rfl 1 (by decide +kernel) ⟨by rw [hfr]; decide, by rw [hlo]; decide⟩ rfl hl.1 (Nat.le_trans cs_0 (by decide)) rfl dX4_unpack_17 (fun H locs cells slots hD => ?_)
          refine W.eq (g2 := F0 m 20 ls [.int (r1)]) rfl ?_
          refine lv_iconst (v := (1)) hx hb dX4_unpack_20 (by decide) ?_
          refine lv_isub hx hb dX4_unpack_21 ?_
          refine hs_istore (i := 4) (lv' := [(4, .int (r1 - (1 : Int32))), (0, va_rf ((some b3))), (1, .int (v1)), (2, .int (v2)), (3, .int (v3))]) hx hb dX4_unpack_22 hl (by decide) (st_okR (st_okI (st_okI (st_okI st_ok0)))) rfl (fun ls hl => ?_)
          refine lv_iload hx hb dX4_unpack_24 (lv_at hl 0 rfl) ?_
          refine lv_if_ge (tgt := 31) hx hb dX4_unpack_26 (by decide) (fun hc => ?_) (fun hc => ?_)
          · rw [if_pos hc] at hf
            refine hw_aload_n (r := (some b3)) hx hb dX4_unpack_31 rfl (lv_at hl 1 rfl) ?_
            obtain ⟨x4, hv, hf⟩ := ob_s hf
            refine hw_gr (C := RX4) (T := TX4) (N := 5) (ref := "SolidGroups$TokenRow") S hKn hD hv rfl (by decide) (by decide) rfl inX4 wd0 (fun _ h9 => h9) dX4_unpack_32 ?_
            refine lv_iload hx hb dX4_unpack_35 (lv_at hl 0 rfl) ?_
            obtain ⟨x5, hv, hf⟩ := ob_s hf
            refine hw_al S hKn hD hv dX4_unpack_37 ?_
            refine lv_iconst (v := (-1)) hx hb dX4_unpack_38 (by decide) ?_
            refine lv_icmp_eq (tgt := 50) hx hb dX4_unpack_39 (by decide) (fun hc => ?_) (fun hc => ?_)
            · rw [if_pos hc] at hf
              refine lv_iload_n hx hb dX4_unpack_50 rfl (lv_at hl 3 rfl) ?_
              refine hw_aload_n (r := (some b3)) hx hb dX4_unpack_51 rfl (lv_at hl 1 rfl) ?_
              obtain ⟨x6, hv, hf⟩ := ob_s hf
              refine hw_gr (C := RX4) (T := TX4) (N := 5) (ref := "SolidGroups$TokenRow") S hKn hD hv rfl (by decide) (by decide) rfl inX4 wd1 (fun _ h9 => h9) dX4_unpack_52 ?_
              refine lv_iload hx hb dX4_unpack_55 (lv_at hl 0 rfl) ?_
              obtain ⟨x7, hv, hf⟩ := ob_s hf
              refine hw_al S hKn hD hv dX4_unpack_57 ?_
              refine lv_isub hx hb dX4_unpack_58 ?_
              refine hs_istore_n (i := 2) (lv' := [(2, .int (v2 - x7)), (4, .int (r1 - (1 : Int32))), (0, va_rf ((some b3))), (1, .int (v1)), (3, .int (v3))]) hx hb dX4_unpack_59 rfl hl (by decide) (st_okI (st_okR (st_okI (st_okI (st_okI st_ok0))))) rfl (fun ls hl => ?_)
              refine hs_iinc (i := 3) (k := 4) (v := v3 + 1) (lv' := [(3, .int (v3 + 1)), (2, .int (v2 - x7)), (4, .int (r1 - (1 : Int32))), (0, va_rf ((some b3))), (1, .int (v1))]) hx hb dX4_unpack_60 hl rfl (congrArg (fun z => v3 + z) (by decide)) (by decide) (st_okI (st_okI (st_okR (st_okI (st_okI st_ok0))))) rfl (fun ls hl => ?_)
              refine lv_goto (tgt := 4) hx hb dX4_unpack_63 (by decide) ?_
              exact ih (some b3) v1 (v2 - x7) (v3 + 1) _ _ _ _ _ _ hD (lv_sub hl [3, 4, 1, 0] rfl) hf
            · rw [if_neg hc] at hf
              refine hw_aload_n (r := (some b3)) hx hb dX4_unpack_42 rfl (lv_at hl 1 rfl) ?_
              obtain ⟨x8, hv, hf⟩ := ob_s hf
              refine hw_gr (C := RX4) (T := TX4) (N := 5) (ref := "SolidGroups$TokenRow") S hKn hD hv rfl (by decide) (by decide) rfl inX4 wd0 (fun _ h9 => h9) dX4_unpack_43 ?_
              refine lv_iload hx hb dX4_unpack_46 (lv_at hl 0 rfl) ?_
              obtain ⟨x9, hv, hf⟩ := ob_s hf
              refine hw_al S hKn hD hv dX4_unpack_48 ?_
              obtain ⟨e1, e2⟩ := ret_eq hf
              rw [hQ, ← e1, ← e2]
              exact hw_iret S hlk hret rfl hD dX4_unpack_49
          · rw [if_neg hc] at hf
            refine lv_iconst (v := (-1)) hx hb dX4_unpack_29 (by decide) ?_
            obtain ⟨e1, e2⟩ := ret_eq hf
            rw [hQ, ← e1, ← e2]
            exact hw_iret S hlk hret rfl hD dX4_unpack_30
  have hl : lv_has ls 5 [(0, va_rf (some a0)), (1, .int (p1))] := hl
  unfold g_X4_unpack at hf
  refine lv_iload_n hx hb dX4_unpack_0 rfl (lv_at hl 1 rfl) ?_
  refine hs_istore_n (i := 2) (lv' := [(2, .int (p1)), (0, va_rf ((some a0))), (1, .int (p1))]) hx hb dX4_unpack_1 rfl hl (by decide) (st_okR (st_okI st_ok0)) rfl (fun ls hl => ?_)
  refine lv_iconst (v := (0)) hx hb dX4_unpack_2 (by decide) ?_
  refine hs_istore_n (i := 3) (lv' := [(3, .int ((0 : Int32))), (2, .int (p1)), (0, va_rf ((some a0))), (1, .int (p1))]) hx hb dX4_unpack_3 rfl hl (by decide) (st_okI (st_okR (st_okI st_ok0))) rfl (fun ls hl => ?_)
  exact hL4 _ (some a0) p1 p1 (0 : Int32) _ _ _ _ _ _ hD (lv_sub hl [2, 3, 1, 0] rfl) hf
set_option maxHeartbeats 4000000 in
set_option maxRecDepth 100000 in
theorem c_X5_open (l : Launch) (D : va_G) (G : GC) (base : Nat) (E : PE) {a0 : Nat} {p1 : Int32} {p2 : Int32} {σ0 τ : PS} {rv : Int32} (hF : f_X5_open E (some a0) p1 p2 σ0 = some (rv, τ)) : Ct l D G base E yX5_open wsX5_open 6 130 ([.ref a0, .int (p1), .int (p2)] : List Value) σ0 (some (.int rv)) τ := by
  obtain ⟨hf, hmo⟩ := oM_of hF
  refine Ct.of (own := RX5) [1, 1, 1] (by decide) rfl rfl hmo (ct_R (ct_I (ct_I ct_0))) (by decide) ?_
  intro p e s m below meth c R Q ls H locs cells slots S hKn hRm hfr hlo hlk hret hnm hQ hD hl
  have hx := S.1
  have hb := S.2.1
  have hts := S.2.2.2.2
  have inX5 : ∀ w ∈ u_ws RX5 TX5 8, w ∈ wsX5_open := by decide +kernel
  have inX1 : ∀ w ∈ u_ws RX1 TX1 6, w ∈ wsX5_open := by decide +kernel
  have inX2 : ∀ w ∈ u_ws RX2 TX2 4, w ∈ wsX5_open := by decide +kernel
  have wd0 := hts (.fieldLink RX5 39 "SolidGroups" "packed" "Z") (by decide +kernel)
  have wd1 := hts (.fieldLink RX5 10 "SolidGroups" "entries" "Ljava/util/ArrayList;") (by decide +kernel)
  have wd2 := hts (.classLink RX5 55 "SolidGroups$Entry") (by decide +kernel)
  have wd3 := hts (.fieldLink RX5 139 "SolidGroups$Entry" "twinOf" "I") (by decide +kernel)
  have wd4 := hts (.fieldLink RX5 16 "SolidGroups" "groups" "Ljava/util/ArrayList;") (by decide +kernel)
  have wd5 := hts (.classLink RX5 110 RX2) (by decide +kernel)
  have wd6 := hts (.fieldLink RX5 153 "SolidGroups$Group" "row" "LSolidGroups$TokenRow;") (by decide +kernel)
  have hl : lv_has ls 5 [(0, va_rf (some a0)), (1, .int (p1)), (2, .int (p2))] := hl
  unfold g_X5_open at hf
  refine hw_aload_n (r := (some a0)) hx hb dX5_open_0 rfl (lv_at hl 0 rfl) ?_
  refine lv_iload_n hx hb dX5_open_1 rfl (lv_at hl 1 rfl) ?_
  refine lv_iload_n hx hb dX5_open_2 rfl (lv_at hl 2 rfl) ?_
  obtain ⟨b3, hv, hf⟩ := ob_s hf
  obtain ⟨e9, hk9⟩ := oK_of hv
  cases e9
  obtain ⟨r1, s2, hv, hf⟩ := ob_p hf
  refine hw_V (b := a0) (ci := 6) (T := TX5) (N := 8) (As := [.int (p1), .int (p2)]) (rest := []) S hKn hRm hD (c_X5_isByteOf l D G base E hv) (mo_X5_isByteOf hv) hk9 rfl (by decide) gX5_open_X5_isByteOf rfl 2 (by decide +kernel) ⟨by rw [hfr]; decide, by rw [hlo]; decide⟩ rfl hl.1 (Nat.le_trans cs_0 (by decide)) rfl dX5_open_3 (fun H locs cells slots hD => ?_)
  refine W.eq (g2 := F0 m 6 ls [.int (r1)]) rfl ?_
  refine lv_if_ne (tgt := 11) hx hb dX5_open_6 (by decide) (fun hc => ?_) (fun hc => ?_)
  · rw [if_neg hc] at hf
    refine hw_aload_n (r := (some a0)) hx hb dX5_open_11 rfl (lv_at hl 0 rfl) ?_
    obtain ⟨x4, hv, hf⟩ := ob_s hf
    refine hw_gi (C := RX5) (T := TX5) (N := 8) (ref := "SolidGroups") S hKn hD hv rfl (by decide) (by decide) rfl inX5 wd0 (fun _ h9 => h9) dX5_open_12 ?_
    refine lv_if_ne (tgt := 21) hx hb dX5_open_15 (by decide) (fun hc => ?_) (fun hc => ?_)
    · rw [if_neg hc] at hf
      refine hw_aload_n (r := (some a0)) hx hb dX5_open_21 rfl (lv_at hl 0 rfl) ?_
      obtain ⟨x5, hv, hf⟩ := ob_s hf
      refine hw_gr (C := RX5) (T := TX5) (N := 8) (ref := "SolidGroups") S hKn hD hv rfl (by decide) (by decide) rfl inX5 wd1 (fun _ h9 => h9) dX5_open_22 ?_
      refine lv_iload_n hx hb dX5_open_25 rfl (lv_at hl 1 rfl) ?_
      obtain ⟨b8, hv, hf⟩ := ob_s hf
      obtain ⟨e9, hk9⟩ := oK_of hv
      cases e9
      obtain ⟨r6, s7, hv, hf⟩ := ob_p hf
      refine hw_V (b := b8) (ci := 0) (T := TJx4a65c) (N := 3) (As := [.int (p1)]) (rest := []) S hKn hRm hD (c_Jx4a65c_get_915e3 l D G base E hv) (mo_Jx4a65c_get_915e3 hv) hk9 rfl (by decide) gX5_open_Jx4a65c_get_915e3 rfl 1 (by decide +kernel) ⟨by rw [hfr]; decide, by rw [hlo]; decide⟩ rfl hl.1 (Nat.le_trans cs_0 (by decide)) rfl dX5_open_26 (fun H locs cells slots hD => ?_)
      refine W.eq (g2 := F0 m 29 ls [va_rf (r6)]) rfl ?_
      obtain ⟨u9, hv, hf⟩ := ob_s hf
      refine hw_ca (C := RX1) (T := TX1) (N := 6) S hKn hD hv rfl (by decide) wd2 dX5_open_29 ?_
      refine hs_astore_n (i := 3) (lv' := [(3, va_rf (r6)), (0, va_rf ((some a0))), (1, .int (p1)), (2, .int (p2))]) hx hb dX5_open_32 rfl hl (by decide) (st_okR (st_okI (st_okI st_ok0))) rfl (fun ls hl => ?_)
      refine hw_aload_n (r := (some a0)) hx hb dX5_open_33 rfl (lv_at hl 1 rfl) ?_
      refine hw_aload_n (r := r6) hx hb dX5_open_34 rfl (lv_at hl 0 rfl) ?_
      obtain ⟨x10, hv, hf⟩ := ob_s hf
      refine hw_gi (C := RX1) (T := TX1) (N := 6) (ref := "SolidGroups$Entry") S hKn hD hv rfl (by decide) (by decide) rfl inX1 wd3 (fun _ h9 => h9) dX5_open_35 ?_
      obtain ⟨b13, hv, hf⟩ := ob_s hf
      obtain ⟨e9, hk9⟩ := oK_of hv
      cases e9
      obtain ⟨r11, s12, hv, hf⟩ := ob_p hf
      refine hw_V (b := a0) (ci := 6) (T := TX5) (N := 8) (As := [.int (x10)]) (rest := []) S hKn hRm hD (c_X5_groupNumberOf l D G base E hv) (mo_X5_groupNumberOf hv) hk9 rfl (by decide) gX5_open_X5_groupNumberOf rfl 1 (by decide +kernel) ⟨by rw [hfr]; decide, by rw [hlo]; decide⟩ rfl hl.1 (Nat.le_trans cs_0 (by decide)) rfl dX5_open_38 (fun H locs cells slots hD => ?_)
      refine W.eq (g2 := F0 m 41 ls [.int (r11)]) rfl ?_
      refine hs_istore (i := 4) (lv' := [(4, .int (r11)), (3, va_rf (r6)), (0, va_rf ((some a0))), (1, .int (p1)), (2, .int (p2))]) hx hb dX5_open_41 hl (by decide) (st_okR (st_okR (st_okI (st_okI st_ok0)))) rfl (fun ls hl => ?_)
      refine hw_aload_n (r := (some a0)) hx hb dX5_open_43 rfl (lv_at hl 2 rfl) ?_
      refine lv_iload hx hb dX5_open_44 (lv_at hl 0 rfl) ?_
      obtain ⟨b16, hv, hf⟩ := ob_s hf
      obtain ⟨e9, hk9⟩ := oK_of hv
      cases e9
      obtain ⟨r14, s15, hv, hf⟩ := ob_p hf
      refine hw_V (b := a0) (ci := 6) (T := TX5) (N := 8) (As := [.int (r11)]) (rest := []) S hKn hRm hD (c_X5_isGroup l D G base E hv) (mo_X5_isGroup hv) hk9 rfl (by decide) gX5_open_X5_isGroup rfl 1 (by decide +kernel) ⟨by rw [hfr]; decide, by rw [hlo]; decide⟩ rfl hl.1 (Nat.le_trans cs_0 (by decide)) rfl dX5_open_46 (fun H locs cells slots hD => ?_)
      refine W.eq (g2 := F0 m 49 ls [.int (r14)]) rfl ?_
      refine lv_if_ne (tgt := 54) hx hb dX5_open_49 (by decide) (fun hc => ?_) (fun hc => ?_)
      · rw [if_neg hc] at hf
        refine hw_aload_n (r := (some a0)) hx hb dX5_open_54 rfl (lv_at hl 2 rfl) ?_
        obtain ⟨x17, hv, hf⟩ := ob_s hf
        refine hw_gr (C := RX5) (T := TX5) (N := 8) (ref := "SolidGroups") S hKn hD hv rfl (by decide) (by decide) rfl inX5 wd4 (fun _ h9 => h9) dX5_open_55 ?_
        refine lv_iload hx hb dX5_open_58 (lv_at hl 0 rfl) ?_
        obtain ⟨b20, hv, hf⟩ := ob_s hf
        obtain ⟨e9, hk9⟩ := oK_of hv
        cases e9
        obtain ⟨r18, s19, hv, hf⟩ := ob_p hf
        refine hw_V (b := b20) (ci := 0) (T := TJx4a65c) (N := 3) (As := [.int (r11)]) (rest := []) S hKn hRm hD (c_Jx4a65c_get_915e3 l D G base E hv) (mo_Jx4a65c_get_915e3 hv) hk9 rfl (by decide) gX5_open_Jx4a65c_get_915e3 rfl 1 (by decide +kernel) ⟨by rw [hfr]; decide, by rw [hlo]; decide⟩ rfl hl.1 (Nat.le_trans cs_0 (by decide)) rfl dX5_open_60 (fun H locs cells slots hD => ?_)
        refine W.eq (g2 := F0 m 63 ls [va_rf (r18)]) rfl ?_
        obtain ⟨u21, hv, hf⟩ := ob_s hf
        refine hw_ca (C := RX2) (T := TX2) (N := 4) S hKn hD hv rfl (by decide) wd5 dX5_open_63 ?_
        obtain ⟨x22, hv, hf⟩ := ob_s hf
        refine hw_gr (C := RX2) (T := TX2) (N := 4) (ref := "SolidGroups$Group") S hKn hD hv rfl (by decide) (by decide) rfl inX2 wd6 (fun _ h9 => h9) dX5_open_66 ?_
        refine hw_aload_n (r := (some a0)) hx hb dX5_open_69 rfl (lv_at hl 2 rfl) ?_
        refine hw_aload_n (r := r6) hx hb dX5_open_70 rfl (lv_at hl 1 rfl) ?_
        obtain ⟨b25, hv, hf⟩ := ob_s hf
        obtain ⟨e9, hk9⟩ := oK_of hv
        cases e9
        obtain ⟨r23, s24, hv, hf⟩ := ob_p hf
        refine hw_V (b := a0) (ci := 6) (T := TX5) (N := 8) (As := [va_rf (r6)]) (rest := [va_rf (x22)]) S hKn hRm hD (c_X5_placeOf l D G base E hv) (mo_X5_placeOf hv) hk9 rfl (by decide) gX5_open_X5_placeOf rfl 1 (by decide +kernel) ⟨by rw [hfr]; decide, by rw [hlo]; decide⟩ rfl hl.1 (Nat.le_trans (cs_A cs_0) (by decide)) rfl dX5_open_71 (fun H locs cells slots hD => ?_)
        refine W.eq (g2 := F0 m 74 ls [.int (r23), va_rf (x22)]) rfl ?_
        refine lv_iload_n hx hb dX5_open_74 rfl (lv_at hl 4 rfl) ?_
        refine lv_iadd hx hb dX5_open_75 ?_
        obtain ⟨b28, hv, hf⟩ := ob_s hf
        obtain ⟨e9, hk9⟩ := oK_of hv
        cases e9
        obtain ⟨r26, s27, hv, hf⟩ := ob_p hf
        refine hw_V (b := b28) (ci := 5) (T := TX4) (N := 5) (As := [.int (r23 + p2)]) (rest := []) S hKn hRm hD (c_X4_unpack l D G base E hv) (mo_X4_unpack hv) hk9 rfl (by decide) gX5_open_X4_unpack rfl 1 (by decide +kernel) ⟨by rw [hfr]; decide, by rw [hlo]; decide⟩ rfl hl.1 (Nat.le_trans cs_0 (by decide)) rfl dX5_open_76 (fun H locs cells slots hD => ?_)
        refine W.eq (g2 := F0 m 79 ls [.int (r26)]) rfl ?_
        obtain ⟨e1, e2⟩ := ret_eq hf
        rw [hQ, ← e1, ← e2]
        exact hw_iret S hlk hret rfl hD dX5_open_79
      · rw [if_pos hc] at hf
        refine lv_iconst (v := (-1)) hx hb dX5_open_52 (by decide) ?_
        obtain ⟨e1, e2⟩ := ret_eq hf
        rw [hQ, ← e1, ← e2]
        exact hw_iret S hlk hret rfl hD dX5_open_53
    · rw [if_pos hc] at hf
      refine lv_bipush (v := (-2)) hx hb dX5_open_18 (by decide) ?_
      obtain ⟨e1, e2⟩ := ret_eq hf
      rw [hQ, ← e1, ← e2]
      exact hw_iret S hlk hret rfl hD dX5_open_20
  · rw [if_pos hc] at hf
    refine lv_iconst (v := (-1)) hx hb dX5_open_9 (by decide) ?_
    obtain ⟨e1, e2⟩ := ret_eq hf
    rw [hQ, ← e1, ← e2]
    exact hw_iret S hlk hret rfl hD dX5_open_10
set_option maxHeartbeats 4000000 in
set_option maxRecDepth 100000 in
theorem c_X5_of (l : Launch) (D : va_G) (G : GC) (base : Nat) (E : PE) {a0 : Nat} {p1 : Int32} {p2 : Int32} {σ0 τ : PS} {rv : Int32} (hF : f_X5_of E (some a0) p1 p2 σ0 = some (rv, τ)) : Ct l D G base E yX5_of wsX5_of 5 107 ([.ref a0, .int (p1), .int (p2)] : List Value) σ0 (some (.int rv)) τ := by
  obtain ⟨hf, hmo⟩ := oM_of hF
  refine Ct.of (own := RX5) [1, 1, 1] (by decide) rfl rfl hmo (ct_R (ct_I (ct_I ct_0))) (by decide) ?_
  intro p e s m below meth c R Q ls H locs cells slots S hKn hRm hfr hlo hlk hret hnm hQ hD hl
  have hx := S.1
  have hb := S.2.1
  have hts := S.2.2.2.2
  have inX5 : ∀ w ∈ u_ws RX5 TX5 8, w ∈ wsX5_of := by decide +kernel
  have inX2 : ∀ w ∈ u_ws RX2 TX2 4, w ∈ wsX5_of := by decide +kernel
  have inX4 : ∀ w ∈ u_ws RX4 TX4 5, w ∈ wsX5_of := by decide +kernel
  have wd0 := hts (.fieldLink RX5 39 "SolidGroups" "packed" "Z") (by decide +kernel)
  have wd1 := hts (.fieldLink RX5 16 "SolidGroups" "groups" "Ljava/util/ArrayList;") (by decide +kernel)
  have wd2 := hts (.classLink RX5 110 RX2) (by decide +kernel)
  have wd3 := hts (.fieldLink RX5 165 "SolidGroups$Group" "kind" "I") (by decide +kernel)
  have wd4 := hts (.fieldLink RX5 133 "SolidGroups$Group" "members" "Ljava/util/ArrayList;") (by decide +kernel)
  have wd5 := hts (.fieldLink RX5 153 "SolidGroups$Group" "row" "LSolidGroups$TokenRow;") (by decide +kernel)
  have wd6 := hts (.fieldLink RX5 171 "SolidGroups$TokenRow" "count" "I") (by decide +kernel)
  have wd7 := hts (.fieldLink RX5 174 "SolidGroups$TokenRow" "size" "I") (by decide +kernel)
  have wd8 := hts (.fieldLink RX5 176 "SolidGroups$Group" "madeAnew" "I") (by decide +kernel)
  have hl : lv_has ls 4 [(0, va_rf (some a0)), (1, .int (p1)), (2, .int (p2))] := hl
  unfold g_X5_of at hf
  refine hw_aload_n (r := (some a0)) hx hb dX5_of_0 rfl (lv_at hl 0 rfl) ?_
  obtain ⟨x1, hv, hf⟩ := ob_s hf
  refine hw_gi (C := RX5) (T := TX5) (N := 8) (ref := "SolidGroups") S hKn hD hv rfl (by decide) (by decide) rfl inX5 wd0 (fun _ h9 => h9) dX5_of_1 ?_
  refine lv_if_ne (tgt := 10) hx hb dX5_of_4 (by decide) (fun hc => ?_) (fun hc => ?_)
  · rw [if_neg hc] at hf
    refine hw_aload_n (r := (some a0)) hx hb dX5_of_10 rfl (lv_at hl 0 rfl) ?_
    refine lv_iload_n hx hb dX5_of_11 rfl (lv_at hl 1 rfl) ?_
    obtain ⟨b4, hv, hf⟩ := ob_s hf
    obtain ⟨e9, hk9⟩ := oK_of hv
    cases e9
    obtain ⟨r2, s3, hv, hf⟩ := ob_p hf
    refine hw_V (b := a0) (ci := 6) (T := TX5) (N := 8) (As := [.int (p1)]) (rest := []) S hKn hRm hD (c_X5_isGroup l D G base E hv) (mo_X5_isGroup hv) hk9 rfl (by decide) gX5_of_X5_isGroup rfl 1 (by decide +kernel) ⟨by rw [hfr]; decide, by rw [hlo]; decide⟩ rfl hl.1 (Nat.le_trans cs_0 (by decide)) rfl dX5_of_12 (fun H locs cells slots hD => ?_)
    refine W.eq (g2 := F0 m 15 ls [.int (r2)]) rfl ?_
    refine lv_if_ne (tgt := 20) hx hb dX5_of_15 (by decide) (fun hc => ?_) (fun hc => ?_)
    · rw [if_neg hc] at hf
      refine hw_aload_n (r := (some a0)) hx hb dX5_of_20 rfl (lv_at hl 0 rfl) ?_
      obtain ⟨x5, hv, hf⟩ := ob_s hf
      refine hw_gr (C := RX5) (T := TX5) (N := 8) (ref := "SolidGroups") S hKn hD hv rfl (by decide) (by decide) rfl inX5 wd1 (fun _ h9 => h9) dX5_of_21 ?_
      refine lv_iload_n hx hb dX5_of_24 rfl (lv_at hl 1 rfl) ?_
      obtain ⟨b8, hv, hf⟩ := ob_s hf
      obtain ⟨e9, hk9⟩ := oK_of hv
      cases e9
      obtain ⟨r6, s7, hv, hf⟩ := ob_p hf
      refine hw_V (b := b8) (ci := 0) (T := TJx4a65c) (N := 3) (As := [.int (p1)]) (rest := []) S hKn hRm hD (c_Jx4a65c_get_915e3 l D G base E hv) (mo_Jx4a65c_get_915e3 hv) hk9 rfl (by decide) gX5_of_Jx4a65c_get_915e3 rfl 1 (by decide +kernel) ⟨by rw [hfr]; decide, by rw [hlo]; decide⟩ rfl hl.1 (Nat.le_trans cs_0 (by decide)) rfl dX5_of_25 (fun H locs cells slots hD => ?_)
      refine W.eq (g2 := F0 m 28 ls [va_rf (r6)]) rfl ?_
      obtain ⟨u9, hv, hf⟩ := ob_s hf
      refine hw_ca (C := RX2) (T := TX2) (N := 4) S hKn hD hv rfl (by decide) wd2 dX5_of_28 ?_
      refine hs_astore_n (i := 3) (lv' := [(3, va_rf (r6)), (0, va_rf ((some a0))), (1, .int (p1)), (2, .int (p2))]) hx hb dX5_of_31 rfl hl (by decide) (st_okR (st_okI (st_okI st_ok0))) rfl (fun ls hl => ?_)
      refine lv_iload_n hx hb dX5_of_32 rfl (lv_at hl 3 rfl) ?_
      by_cases hc0 : p2 = (0 : Int32)
      · rw [if_pos hc0] at hf
        refine lv_tableIn (off := 39) (tgt := 72) hx hb dX5_of_33 (by rw [hc0]; decide) (by rw [hc0]; decide) (by rw [hc0]; rfl) (by decide) ?_
        refine hw_aload_n (r := r6) hx hb dX5_of_72 rfl (lv_at hl 0 rfl) ?_
        obtain ⟨x10, hv, hf⟩ := ob_s hf
        refine hw_gi (C := RX2) (T := TX2) (N := 4) (ref := "SolidGroups$Group") S hKn hD hv rfl (by decide) (by decide) rfl inX2 wd3 (fun _ h9 => h9) dX5_of_73 ?_
        obtain ⟨e1, e2⟩ := ret_eq hf
        rw [hQ, ← e1, ← e2]
        exact hw_iret S hlk hret rfl hD dX5_of_76
      rw [if_neg hc0] at hf
      by_cases hc1 : p2 = (1 : Int32)
      · rw [if_pos hc1] at hf
        refine lv_tableIn (off := 44) (tgt := 77) hx hb dX5_of_33 (by rw [hc1]; decide) (by rw [hc1]; decide) (by rw [hc1]; rfl) (by decide) ?_
        refine hw_aload_n (r := r6) hx hb dX5_of_77 rfl (lv_at hl 0 rfl) ?_
        obtain ⟨x11, hv, hf⟩ := ob_s hf
        refine hw_gr (C := RX2) (T := TX2) (N := 4) (ref := "SolidGroups$Group") S hKn hD hv rfl (by decide) (by decide) rfl inX2 wd4 (fun _ h9 => h9) dX5_of_78 ?_
        obtain ⟨b14, hv, hf⟩ := ob_s hf
        obtain ⟨e9, hk9⟩ := oK_of hv
        cases e9
        obtain ⟨r12, s13, hv, hf⟩ := ob_p hf
        refine hw_V (b := b14) (ci := 0) (T := TJx4a65c) (N := 3) (As := []) (rest := []) S hKn hRm hD (c_Jx4a65c_size_8abf5 l D G base E hv) (mo_Jx4a65c_size_8abf5 hv) hk9 rfl (by decide) gX5_of_Jx4a65c_size_8abf5 rfl 0 (by decide +kernel) ⟨by rw [hfr]; decide, by rw [hlo]; decide⟩ rfl hl.1 (Nat.le_trans cs_0 (by decide)) rfl dX5_of_81 (fun H locs cells slots hD => ?_)
        refine W.eq (g2 := F0 m 84 ls [.int (r12)]) rfl ?_
        obtain ⟨e1, e2⟩ := ret_eq hf
        rw [hQ, ← e1, ← e2]
        exact hw_iret S hlk hret rfl hD dX5_of_84
      rw [if_neg hc1] at hf
      by_cases hc2 : p2 = (2 : Int32)
      · rw [if_pos hc2] at hf
        refine lv_tableIn (off := 52) (tgt := 85) hx hb dX5_of_33 (by rw [hc2]; decide) (by rw [hc2]; decide) (by rw [hc2]; rfl) (by decide) ?_
        refine hw_aload_n (r := r6) hx hb dX5_of_85 rfl (lv_at hl 0 rfl) ?_
        obtain ⟨b17, hv, hf⟩ := ob_s hf
        obtain ⟨e9, hk9⟩ := oK_of hv
        cases e9
        obtain ⟨r15, s16, hv, hf⟩ := ob_p hf
        refine hw_V (b := b17) (ci := 3) (T := TX2) (N := 4) (As := []) (rest := []) S hKn hRm hD (c_X2_byteCount l D G base E hv) (mo_X2_byteCount hv) hk9 rfl (by decide) gX5_of_X2_byteCount rfl 0 (by decide +kernel) ⟨by rw [hfr]; decide, by rw [hlo]; decide⟩ rfl hl.1 (Nat.le_trans cs_0 (by decide)) rfl dX5_of_86 (fun H locs cells slots hD => ?_)
        refine W.eq (g2 := F0 m 89 ls [.int (r15)]) rfl ?_
        obtain ⟨e1, e2⟩ := ret_eq hf
        rw [hQ, ← e1, ← e2]
        exact hw_iret S hlk hret rfl hD dX5_of_89
      rw [if_neg hc2] at hf
      by_cases hc3 : p2 = (3 : Int32)
      · rw [if_pos hc3] at hf
        refine lv_tableIn (off := 57) (tgt := 90) hx hb dX5_of_33 (by rw [hc3]; decide) (by rw [hc3]; decide) (by rw [hc3]; rfl) (by decide) ?_
        refine hw_aload_n (r := r6) hx hb dX5_of_90 rfl (lv_at hl 0 rfl) ?_
        obtain ⟨x18, hv, hf⟩ := ob_s hf
        refine hw_gr (C := RX2) (T := TX2) (N := 4) (ref := "SolidGroups$Group") S hKn hD hv rfl (by decide) (by decide) rfl inX2 wd5 (fun _ h9 => h9) dX5_of_91 ?_
        obtain ⟨x19, hv, hf⟩ := ob_s hf
        refine hw_gi (C := RX4) (T := TX4) (N := 5) (ref := "SolidGroups$TokenRow") S hKn hD hv rfl (by decide) (by decide) rfl inX4 wd6 (fun _ h9 => h9) dX5_of_94 ?_
        obtain ⟨e1, e2⟩ := ret_eq hf
        rw [hQ, ← e1, ← e2]
        exact hw_iret S hlk hret rfl hD dX5_of_97
      rw [if_neg hc3] at hf
      by_cases hc4 : p2 = (4 : Int32)
      · rw [if_pos hc4] at hf
        refine lv_tableIn (off := 65) (tgt := 98) hx hb dX5_of_33 (by rw [hc4]; decide) (by rw [hc4]; decide) (by rw [hc4]; rfl) (by decide) ?_
        refine hw_aload_n (r := r6) hx hb dX5_of_98 rfl (lv_at hl 0 rfl) ?_
        obtain ⟨x20, hv, hf⟩ := ob_s hf
        refine hw_gr (C := RX2) (T := TX2) (N := 4) (ref := "SolidGroups$Group") S hKn hD hv rfl (by decide) (by decide) rfl inX2 wd5 (fun _ h9 => h9) dX5_of_99 ?_
        obtain ⟨x21, hv, hf⟩ := ob_s hf
        refine hw_gi (C := RX4) (T := TX4) (N := 5) (ref := "SolidGroups$TokenRow") S hKn hD hv rfl (by decide) (by decide) rfl inX4 wd7 (fun _ h9 => h9) dX5_of_102 ?_
        obtain ⟨e1, e2⟩ := ret_eq hf
        rw [hQ, ← e1, ← e2]
        exact hw_iret S hlk hret rfl hD dX5_of_105
      rw [if_neg hc4] at hf
      by_cases hc5 : p2 = (5 : Int32)
      · rw [if_pos hc5] at hf
        refine lv_tableIn (off := 73) (tgt := 106) hx hb dX5_of_33 (by rw [hc5]; decide) (by rw [hc5]; decide) (by rw [hc5]; rfl) (by decide) ?_
        refine hw_aload_n (r := r6) hx hb dX5_of_106 rfl (lv_at hl 0 rfl) ?_
        obtain ⟨x22, hv, hf⟩ := ob_s hf
        refine hw_gi (C := RX2) (T := TX2) (N := 4) (ref := "SolidGroups$Group") S hKn hD hv rfl (by decide) (by decide) rfl inX2 wd8 (fun _ h9 => h9) dX5_of_107 ?_
        obtain ⟨e1, e2⟩ := ret_eq hf
        rw [hQ, ← e1, ← e2]
        exact hw_iret S hlk hret rfl hD dX5_of_110
      rw [if_neg hc5] at hf
      have hto := tb_out (x := p2) (n := 5) (by decide) (fun k hk => by
        have hk9 : k = 0 ∨ k = 1 ∨ k = 2 ∨ k = 3 ∨ k = 4 ∨ k = 5 := by omega
        rcases hk9 with rfl | rfl | rfl | rfl | rfl | rfl
        · exact hc0
        · exact hc1
        · exact hc2
        · exact hc3
        · exact hc4
        · exact hc5)
      refine lv_tableOut (tgt := 111) hx hb dX5_of_33 hto (by decide) ?_
      refine lv_iconst (v := (-1)) hx hb dX5_of_111 (by decide) ?_
      obtain ⟨e1, e2⟩ := ret_eq hf
      rw [hQ, ← e1, ← e2]
      exact hw_iret S hlk hret rfl hD dX5_of_112
    · rw [if_pos hc] at hf
      refine lv_iconst (v := (-1)) hx hb dX5_of_18 (by decide) ?_
      obtain ⟨e1, e2⟩ := ret_eq hf
      rw [hQ, ← e1, ← e2]
      exact hw_iret S hlk hret rfl hD dX5_of_19
  · rw [if_pos hc] at hf
    refine lv_bipush (v := (-2)) hx hb dX5_of_7 (by decide) ?_
    obtain ⟨e1, e2⟩ := ret_eq hf
    rw [hQ, ← e1, ← e2]
    exact hw_iret S hlk hret rfl hD dX5_of_9
set_option maxHeartbeats 4000000 in
set_option maxRecDepth 100000 in
theorem c_X5_token (l : Launch) (D : va_G) (G : GC) (base : Nat) (E : PE) {a0 : Nat} {p1 : Int32} {p2 : Int32} {p3 : Int32} {σ0 τ : PS} {rv : Int32} (hF : f_X5_token E (some a0) p1 p2 p3 σ0 = some (rv, τ)) : Ct l D G base E yX5_token wsX5_token 3 64 ([.ref a0, .int (p1), .int (p2), .int (p3)] : List Value) σ0 (some (.int rv)) τ := by
  obtain ⟨hf, hmo⟩ := oM_of hF
  refine Ct.of (own := RX5) [1, 1, 1, 1] (by decide) rfl rfl hmo (ct_R (ct_I (ct_I (ct_I ct_0)))) (by decide) ?_
  intro p e s m below meth c R Q ls H locs cells slots S hKn hRm hfr hlo hlk hret hnm hQ hD hl
  have hx := S.1
  have hb := S.2.1
  have hts := S.2.2.2.2
  have inX5 : ∀ w ∈ u_ws RX5 TX5 8, w ∈ wsX5_token := by decide +kernel
  have inX2 : ∀ w ∈ u_ws RX2 TX2 4, w ∈ wsX5_token := by decide +kernel
  have inX4 : ∀ w ∈ u_ws RX4 TX4 5, w ∈ wsX5_token := by decide +kernel
  have wd0 := hts (.fieldLink RX5 39 "SolidGroups" "packed" "Z") (by decide +kernel)
  have wd1 := hts (.fieldLink RX5 16 "SolidGroups" "groups" "Ljava/util/ArrayList;") (by decide +kernel)
  have wd2 := hts (.classLink RX5 110 RX2) (by decide +kernel)
  have wd3 := hts (.fieldLink RX5 153 "SolidGroups$Group" "row" "LSolidGroups$TokenRow;") (by decide +kernel)
  have wd4 := hts (.fieldLink RX5 171 "SolidGroups$TokenRow" "count" "I") (by decide +kernel)
  have wd5 := hts (.fieldLink RX5 179 "SolidGroups$TokenRow" "value" "[I") (by decide +kernel)
  have wd6 := hts (.fieldLink RX5 182 "SolidGroups$TokenRow" "back" "[I") (by decide +kernel)
  have wd7 := hts (.fieldLink RX5 185 "SolidGroups$TokenRow" "many" "[I") (by decide +kernel)
  have hB49 : ∀ (σ : PS) (H : Heap) (locs : List Loc) (cells slots : Nat) (ls : Array Slot), Dy D G base E s.heap σ0 σ H locs cells slots → lv_has ls 5 [] → f_X5_token_B49 E σ = some (rv, τ) → W p l e R s m ([.ref a0, .int (p1), .int (p2), .int (p3)] : List Value).toArray below meth c H locs cells slots Q (F0 m 49 ls []) := by
    intro σ H locs cells slots ls hD hl hf
    unfold f_X5_token_B49 at hf
    refine lv_iconst (v := (-1)) hx hb dX5_token_49 (by decide) ?_
    obtain ⟨e1, e2⟩ := ret_eq hf
    rw [hQ, ← e1, ← e2]
    exact hw_iret S hlk hret rfl hD dX5_token_50
  have hl : lv_has ls 5 [(0, va_rf (some a0)), (1, .int (p1)), (2, .int (p2)), (3, .int (p3))] := hl
  unfold g_X5_token at hf
  refine hw_aload_n (r := (some a0)) hx hb dX5_token_0 rfl (lv_at hl 0 rfl) ?_
  obtain ⟨x1, hv, hf⟩ := ob_s hf
  refine hw_gi (C := RX5) (T := TX5) (N := 8) (ref := "SolidGroups") S hKn hD hv rfl (by decide) (by decide) rfl inX5 wd0 (fun _ h9 => h9) dX5_token_1 ?_
  refine lv_if_ne (tgt := 10) hx hb dX5_token_4 (by decide) (fun hc => ?_) (fun hc => ?_)
  · rw [if_neg hc] at hf
    refine hw_aload_n (r := (some a0)) hx hb dX5_token_10 rfl (lv_at hl 0 rfl) ?_
    refine lv_iload_n hx hb dX5_token_11 rfl (lv_at hl 1 rfl) ?_
    obtain ⟨b4, hv, hf⟩ := ob_s hf
    obtain ⟨e9, hk9⟩ := oK_of hv
    cases e9
    obtain ⟨r2, s3, hv, hf⟩ := ob_p hf
    refine hw_V (b := a0) (ci := 6) (T := TX5) (N := 8) (As := [.int (p1)]) (rest := []) S hKn hRm hD (c_X5_isGroup l D G base E hv) (mo_X5_isGroup hv) hk9 rfl (by decide) gX5_token_X5_isGroup rfl 1 (by decide +kernel) ⟨by rw [hfr]; decide, by rw [hlo]; decide⟩ rfl hl.1 (Nat.le_trans cs_0 (by decide)) rfl dX5_token_12 (fun H locs cells slots hD => ?_)
    refine W.eq (g2 := F0 m 15 ls [.int (r2)]) rfl ?_
    refine lv_if_ne (tgt := 20) hx hb dX5_token_15 (by decide) (fun hc => ?_) (fun hc => ?_)
    · rw [if_neg hc] at hf
      refine hw_aload_n (r := (some a0)) hx hb dX5_token_20 rfl (lv_at hl 0 rfl) ?_
      obtain ⟨x5, hv, hf⟩ := ob_s hf
      refine hw_gr (C := RX5) (T := TX5) (N := 8) (ref := "SolidGroups") S hKn hD hv rfl (by decide) (by decide) rfl inX5 wd1 (fun _ h9 => h9) dX5_token_21 ?_
      refine lv_iload_n hx hb dX5_token_24 rfl (lv_at hl 1 rfl) ?_
      obtain ⟨b8, hv, hf⟩ := ob_s hf
      obtain ⟨e9, hk9⟩ := oK_of hv
      cases e9
      obtain ⟨r6, s7, hv, hf⟩ := ob_p hf
      refine hw_V (b := b8) (ci := 0) (T := TJx4a65c) (N := 3) (As := [.int (p1)]) (rest := []) S hKn hRm hD (c_Jx4a65c_get_915e3 l D G base E hv) (mo_Jx4a65c_get_915e3 hv) hk9 rfl (by decide) gX5_token_Jx4a65c_get_915e3 rfl 1 (by decide +kernel) ⟨by rw [hfr]; decide, by rw [hlo]; decide⟩ rfl hl.1 (Nat.le_trans cs_0 (by decide)) rfl dX5_token_25 (fun H locs cells slots hD => ?_)
      refine W.eq (g2 := F0 m 28 ls [va_rf (r6)]) rfl ?_
      obtain ⟨u9, hv, hf⟩ := ob_s hf
      refine hw_ca (C := RX2) (T := TX2) (N := 4) S hKn hD hv rfl (by decide) wd2 dX5_token_28 ?_
      obtain ⟨x10, hv, hf⟩ := ob_s hf
      refine hw_gr (C := RX2) (T := TX2) (N := 4) (ref := "SolidGroups$Group") S hKn hD hv rfl (by decide) (by decide) rfl inX2 wd3 (fun _ h9 => h9) dX5_token_31 ?_
      refine hs_astore (i := 4) (lv' := [(4, va_rf (x10)), (0, va_rf ((some a0))), (1, .int (p1)), (2, .int (p2)), (3, .int (p3))]) hx hb dX5_token_34 hl (by decide) (st_okR (st_okI (st_okI (st_okI st_ok0)))) rfl (fun ls hl => ?_)
      refine lv_iload_n hx hb dX5_token_36 rfl (lv_at hl 3 rfl) ?_
      refine lv_if_lt (tgt := 49) hx hb dX5_token_37 (by decide) (fun hc => ?_) (fun hc => ?_)
      · rw [if_pos hc] at hf
        exact hB49 _ _ _ _ _ _ hD (lv_sub hl [] rfl) hf
      · rw [if_neg hc] at hf
        refine lv_iload_n hx hb dX5_token_40 rfl (lv_at hl 3 rfl) ?_
        refine hw_aload (r := x10) hx hb dX5_token_41 (lv_at hl 0 rfl) ?_
        obtain ⟨x11, hv, hf⟩ := ob_s hf
        refine hw_gi (C := RX4) (T := TX4) (N := 5) (ref := "SolidGroups$TokenRow") S hKn hD hv rfl (by decide) (by decide) rfl inX4 wd4 (fun _ h9 => h9) dX5_token_43 ?_
        refine lv_icmp_lt (tgt := 51) hx hb dX5_token_46 (by decide) (fun hc => ?_) (fun hc => ?_)
        · rw [if_pos hc] at hf
          refine lv_iload_n hx hb dX5_token_51 rfl (lv_at hl 4 rfl) ?_
          by_cases hc0 : p3 = (0 : Int32)
          · rw [if_pos hc0] at hf
            refine lv_tableIn (off := 28) (tgt := 80) hx hb dX5_token_52 (by rw [hc0]; decide) (by rw [hc0]; decide) (by rw [hc0]; rfl) (by decide) ?_
            refine hw_aload (r := x10) hx hb dX5_token_80 (lv_at hl 0 rfl) ?_
            obtain ⟨x12, hv, hf⟩ := ob_s hf
            refine hw_gr (C := RX4) (T := TX4) (N := 5) (ref := "SolidGroups$TokenRow") S hKn hD hv rfl (by decide) (by decide) rfl inX4 wd5 (fun _ h9 => h9) dX5_token_82 ?_
            refine lv_iload_n hx hb dX5_token_85 rfl (lv_at hl 3 rfl) ?_
            obtain ⟨x13, hv, hf⟩ := ob_s hf
            refine hw_al S hKn hD hv dX5_token_86 ?_
            obtain ⟨e1, e2⟩ := ret_eq hf
            rw [hQ, ← e1, ← e2]
            exact hw_iret S hlk hret rfl hD dX5_token_87
          rw [if_neg hc0] at hf
          by_cases hc1 : p3 = (1 : Int32)
          · rw [if_pos hc1] at hf
            refine lv_tableIn (off := 36) (tgt := 88) hx hb dX5_token_52 (by rw [hc1]; decide) (by rw [hc1]; decide) (by rw [hc1]; rfl) (by decide) ?_
            refine hw_aload (r := x10) hx hb dX5_token_88 (lv_at hl 0 rfl) ?_
            obtain ⟨x14, hv, hf⟩ := ob_s hf
            refine hw_gr (C := RX4) (T := TX4) (N := 5) (ref := "SolidGroups$TokenRow") S hKn hD hv rfl (by decide) (by decide) rfl inX4 wd6 (fun _ h9 => h9) dX5_token_90 ?_
            refine lv_iload_n hx hb dX5_token_93 rfl (lv_at hl 3 rfl) ?_
            obtain ⟨x15, hv, hf⟩ := ob_s hf
            refine hw_al S hKn hD hv dX5_token_94 ?_
            obtain ⟨e1, e2⟩ := ret_eq hf
            rw [hQ, ← e1, ← e2]
            exact hw_iret S hlk hret rfl hD dX5_token_95
          rw [if_neg hc1] at hf
          by_cases hc2 : p3 = (2 : Int32)
          · rw [if_pos hc2] at hf
            refine lv_tableIn (off := 44) (tgt := 96) hx hb dX5_token_52 (by rw [hc2]; decide) (by rw [hc2]; decide) (by rw [hc2]; rfl) (by decide) ?_
            refine hw_aload (r := x10) hx hb dX5_token_96 (lv_at hl 0 rfl) ?_
            obtain ⟨x16, hv, hf⟩ := ob_s hf
            refine hw_gr (C := RX4) (T := TX4) (N := 5) (ref := "SolidGroups$TokenRow") S hKn hD hv rfl (by decide) (by decide) rfl inX4 wd7 (fun _ h9 => h9) dX5_token_98 ?_
            refine lv_iload_n hx hb dX5_token_101 rfl (lv_at hl 3 rfl) ?_
            obtain ⟨x17, hv, hf⟩ := ob_s hf
            refine hw_al S hKn hD hv dX5_token_102 ?_
            obtain ⟨e1, e2⟩ := ret_eq hf
            rw [hQ, ← e1, ← e2]
            exact hw_iret S hlk hret rfl hD dX5_token_103
          rw [if_neg hc2] at hf
          have hto := tb_out (x := p3) (n := 2) (by decide) (fun k hk => by
            have hk9 : k = 0 ∨ k = 1 ∨ k = 2 := by omega
            rcases hk9 with rfl | rfl | rfl
            · exact hc0
            · exact hc1
            · exact hc2)
          refine lv_tableOut (tgt := 104) hx hb dX5_token_52 hto (by decide) ?_
          refine lv_iconst (v := (-1)) hx hb dX5_token_104 (by decide) ?_
          obtain ⟨e1, e2⟩ := ret_eq hf
          rw [hQ, ← e1, ← e2]
          exact hw_iret S hlk hret rfl hD dX5_token_105
        · rw [if_neg hc] at hf
          exact hB49 _ _ _ _ _ _ hD (lv_sub hl [] rfl) hf
    · rw [if_pos hc] at hf
      refine lv_iconst (v := (-1)) hx hb dX5_token_18 (by decide) ?_
      obtain ⟨e1, e2⟩ := ret_eq hf
      rw [hQ, ← e1, ← e2]
      exact hw_iret S hlk hret rfl hD dX5_token_19
  · rw [if_pos hc] at hf
    refine lv_bipush (v := (-2)) hx hb dX5_token_7 (by decide) ?_
    obtain ⟨e1, e2⟩ := ret_eq hf
    rw [hQ, ← e1, ← e2]
    exact hw_iret S hlk hret rfl hD dX5_token_9
set_option maxHeartbeats 4000000 in
set_option maxRecDepth 100000 in
theorem c_X2_addMembersTo (l : Launch) (D : va_G) (G : GC) (base : Nat) (E : PE) {a0 : Nat} {p1 : Option Nat} {σ0 τ : PS} {rv : Unit} (hF : f_X2_addMembersTo E (some a0) p1 σ0 = some (rv, τ)) : Ct l D G base E yX2_addMembersTo wsX2_addMembersTo 7 191 ([.ref a0, va_rf (p1)] : List Value) σ0 none τ := by
  obtain ⟨hf, hmo⟩ := oM_of hF
  refine Ct.of (own := RX2) [1, 1] (by decide) rfl rfl hmo (ct_R (ct_A ct_0)) (by decide) ?_
  intro p e s m below meth c R Q ls H locs cells slots S hKn hRm hfr hlo hlk hret hnm hQ hD hl
  have hx := S.1
  have hb := S.2.1
  have hts := S.2.2.2.2
  have inX2 : ∀ w ∈ u_ws RX2 TX2 4, w ∈ wsX2_addMembersTo := by decide +kernel
  have wd0 := hts (.fieldLink RX2 12 "SolidGroups$Group" "members" "Ljava/util/ArrayList;") (by decide +kernel)
  have wd1 := hts (.classLink RX2 48 "SolidGroups$Entry") (by decide +kernel)
  have hL2 : ∀ (n : Nat), ∀ (v0 : Option Nat) (v1 : Option Nat) (v2 : Int32) (σ : PS) (H : Heap) (locs : List Loc) (cells slots : Nat) (ls : Array Slot), Dy D G base E s.heap σ0 σ H locs cells slots → lv_has ls 3 [(0, va_rf (v0)), (1, va_rf (v1)), (2, .int (v2))] → f_X2_addMembersTo_L2 E n v0 v1 v2 σ = some (rv, τ) → W p l e R s m ([.ref a0, va_rf (p1)] : List Value).toArray below meth c H locs cells slots Q (F0 m 2 ls []) := by
    intro n
    induction n with
    | zero =>
      intro v0 v1 v2 σ H locs cells slots ls hD hl hf
      rw [f_X2_addMembersTo_L2] at hf
      cases hf
    | succ n ih =>
      intro v0 v1 v2 σ H locs cells slots ls hD hl hf
      rw [f_X2_addMembersTo_L2] at hf
      refine lv_iload_n hx hb dX2_addMembersTo_2 rfl (lv_at hl 2 rfl) ?_
      refine hw_aload_n (r := v0) hx hb dX2_addMembersTo_3 rfl (lv_at hl 0 rfl) ?_
      obtain ⟨x1, hv, hf⟩ := ob_s hf
      refine hw_gr (C := RX2) (T := TX2) (N := 4) (ref := "SolidGroups$Group") S hKn hD hv rfl (by decide) (by decide) rfl inX2 wd0 (fun _ h9 => h9) dX2_addMembersTo_4 ?_
      obtain ⟨b4, hv, hf⟩ := ob_s hf
      obtain ⟨e9, hk9⟩ := oK_of hv
      cases e9
      obtain ⟨r2, s3, hv, hf⟩ := ob_p hf
      refine hw_V (b := b4) (ci := 0) (T := TJx4a65c) (N := 3) (As := []) (rest := [.int (v2)]) S hKn hRm hD (c_Jx4a65c_size_8abf5 l D G base E hv) (mo_Jx4a65c_size_8abf5 hv) hk9 rfl (by decide) gX2_addMembersTo_Jx4a65c_size_8abf5 rfl 0 (by decide +kernel) ⟨by rw [hfr]; decide, by rw [hlo]; decide⟩ rfl hl.1 (Nat.le_trans (cs_I cs_0) (by decide)) rfl dX2_addMembersTo_7 (fun H locs cells slots hD => ?_)
      refine W.eq (g2 := F0 m 10 ls [.int (r2), .int (v2)]) rfl ?_
      refine lv_icmp_ge (tgt := 35) hx hb dX2_addMembersTo_10 (by decide) (fun hc => ?_) (fun hc => ?_)
      · rw [if_pos hc] at hf
        obtain ⟨-, e2⟩ := ret_eq hf
        rw [hQ, ← e2]
        exact hw_vret S hlk hret hD dX2_addMembersTo_35
      · rw [if_neg hc] at hf
        refine hw_aload_n (r := v1) hx hb dX2_addMembersTo_13 rfl (lv_at hl 1 rfl) ?_
        refine hw_aload_n (r := v0) hx hb dX2_addMembersTo_14 rfl (lv_at hl 0 rfl) ?_
        obtain ⟨x5, hv, hf⟩ := ob_s hf
        refine hw_gr (C := RX2) (T := TX2) (N := 4) (ref := "SolidGroups$Group") S hKn hD hv rfl (by decide) (by decide) rfl inX2 wd0 (fun _ h9 => h9) dX2_addMembersTo_15 ?_
        refine lv_iload_n hx hb dX2_addMembersTo_18 rfl (lv_at hl 2 rfl) ?_
        obtain ⟨b8, hv, hf⟩ := ob_s hf
        obtain ⟨e9, hk9⟩ := oK_of hv
        cases e9
        obtain ⟨r6, s7, hv, hf⟩ := ob_p hf
        refine hw_V (b := b8) (ci := 0) (T := TJx4a65c) (N := 3) (As := [.int (v2)]) (rest := [va_rf (v1)]) S hKn hRm hD (c_Jx4a65c_get_915e3 l D G base E hv) (mo_Jx4a65c_get_915e3 hv) hk9 rfl (by decide) gX2_addMembersTo_Jx4a65c_get_915e3 rfl 1 (by decide +kernel) ⟨by rw [hfr]; decide, by rw [hlo]; decide⟩ rfl hl.1 (Nat.le_trans (cs_A cs_0) (by decide)) rfl dX2_addMembersTo_19 (fun H locs cells slots hD => ?_)
        refine W.eq (g2 := F0 m 22 ls [va_rf (r6), va_rf (v1)]) rfl ?_
        obtain ⟨u9, hv, hf⟩ := ob_s hf
        refine hw_ca (C := RX1) (T := TX1) (N := 6) S hKn hD hv rfl (by decide) wd1 dX2_addMembersTo_22 ?_
        obtain ⟨b12, hv, hf⟩ := ob_s hf
        obtain ⟨e9, hk9⟩ := oK_of hv
        cases e9
        obtain ⟨r10, s11, hv, hf⟩ := ob_p hf
        refine hw_V (b := b12) (ci := 0) (T := TJx4a65c) (N := 3) (As := [va_rf (r6)]) (rest := []) S hKn hRm hD (c_Jx4a65c_add_9ea2d l D G base E hv) (mo_Jx4a65c_add_9ea2d hv) hk9 rfl (by decide) gX2_addMembersTo_Jx4a65c_add_9ea2d rfl 1 (by decide +kernel) ⟨by rw [hfr]; decide, by rw [hlo]; decide⟩ rfl hl.1 (Nat.le_trans cs_0 (by decide)) rfl dX2_addMembersTo_25 (fun H locs cells slots hD => ?_)
        refine W.eq (g2 := F0 m 28 ls [.int (r10)]) rfl ?_
        refine lv_pop hx hb dX2_addMembersTo_28 rfl ?_
        refine hs_iinc (i := 2) (k := 2) (v := v2 + 1) (lv' := [(2, .int (v2 + 1)), (0, va_rf (v0)), (1, va_rf ((some b12)))]) hx hb dX2_addMembersTo_29 hl rfl (congrArg (fun z => v2 + z) (by decide)) (by decide) (st_okR (st_okR (st_okI st_ok0))) rfl (fun ls hl => ?_)
        refine lv_goto (tgt := 2) hx hb dX2_addMembersTo_32 (by decide) ?_
        exact ih v0 (some b12) (v2 + 1) _ _ _ _ _ _ hD (lv_sub hl [1, 2, 0] rfl) hf
  have hl : lv_has ls 3 [(0, va_rf (some a0)), (1, va_rf (p1))] := hl
  unfold g_X2_addMembersTo at hf
  refine lv_iconst (v := (0)) hx hb dX2_addMembersTo_0 (by decide) ?_
  refine hs_istore_n (i := 2) (lv' := [(2, .int ((0 : Int32))), (0, va_rf ((some a0))), (1, va_rf (p1))]) hx hb dX2_addMembersTo_1 rfl hl (by decide) (st_okR (st_okR st_ok0)) rfl (fun ls hl => ?_)
  exact hL2 _ (some a0) p1 (0 : Int32) _ _ _ _ _ _ hD (lv_sub hl [1, 2, 0] rfl) hf
set_option maxHeartbeats 4000000 in
set_option maxRecDepth 100000 in
theorem c_X5_sum (l : Launch) (D : va_G) (G : GC) (base : Nat) (E : PE) {a0 : Nat} {p1 : Int32} {σ0 τ : PS} {rv : Int32} (hF : f_X5_sum E (some a0) p1 σ0 = some (rv, τ)) : Ct l D G base E yX5_sum wsX5_sum 8 213 ([.ref a0, .int (p1)] : List Value) σ0 (some (.int rv)) τ := by
  obtain ⟨hf, hmo⟩ := oM_of hF
  refine Ct.of (own := RX5) [1, 1] (by decide) rfl rfl hmo (ct_R (ct_I ct_0)) (by decide) ?_
  intro p e s m below meth c R Q ls H locs cells slots S hKn hRm hfr hlo hlk hret hnm hQ hD hl
  have hx := S.1
  have hb := S.2.1
  have hts := S.2.2.2.2
  have inX5 : ∀ w ∈ u_ws RX5 TX5 8, w ∈ wsX5_sum := by decide +kernel
  have inX2 : ∀ w ∈ u_ws RX2 TX2 4, w ∈ wsX5_sum := by decide +kernel
  have wd0 := hts (.fieldLink RX5 39 "SolidGroups" "packed" "Z") (by decide +kernel)
  have wd1 := hts (.fieldLink RX5 22 "SolidGroups" "line" "Ljava/util/ArrayList;") (by decide +kernel)
  have wd2 := hts (.fieldLink RX5 16 "SolidGroups" "groups" "Ljava/util/ArrayList;") (by decide +kernel)
  have wd3 := hts (.classLink RX5 110 RX2) (by decide +kernel)
  have wd4 := hts (.fieldLink RX5 165 "SolidGroups$Group" "kind" "I") (by decide +kernel)
  have wd5 := hts (.classLink RX5 55 "SolidGroups$Entry") (by decide +kernel)
  have hL85 : ∀ (n : Nat), ∀ (v0 : Option Nat) (v2 : Int32) (v3 : Int32) (σ : PS) (H : Heap) (locs : List Loc) (cells slots : Nat) (ls : Array Slot), Dy D G base E s.heap σ0 σ H locs cells slots → lv_has ls 4 [(0, va_rf (v0)), (2, .int (v2)), (3, .int (v3))] → f_X5_sum_L85 E n v0 v2 v3 σ = some (rv, τ) → W p l e R s m ([.ref a0, .int (p1)] : List Value).toArray below meth c H locs cells slots Q (F0 m 85 ls []) := by
    intro n
    induction n with
    | zero =>
      intro v0 v2 v3 σ H locs cells slots ls hD hl hf
      rw [f_X5_sum_L85] at hf
      cases hf
    | succ n ih =>
      intro v0 v2 v3 σ H locs cells slots ls hD hl hf
      rw [f_X5_sum_L85] at hf
      refine lv_iload_n hx hb dX5_sum_85 rfl (lv_at hl 2 rfl) ?_
      refine hw_aload_n (r := v0) hx hb dX5_sum_86 rfl (lv_at hl 0 rfl) ?_
      obtain ⟨x27, hv, hf⟩ := ob_s hf
      refine hw_gr (C := RX5) (T := TX5) (N := 8) (ref := "SolidGroups") S hKn hD hv rfl (by decide) (by decide) rfl inX5 wd1 (fun _ h9 => h9) dX5_sum_87 ?_
      obtain ⟨b30, hv, hf⟩ := ob_s hf
      obtain ⟨e9, hk9⟩ := oK_of hv
      cases e9
      obtain ⟨r28, s29, hv, hf⟩ := ob_p hf
      refine hw_V (b := b30) (ci := 0) (T := TJx4a65c) (N := 3) (As := []) (rest := [.int (v3)]) S hKn hRm hD (c_Jx4a65c_size_8abf5 l D G base E hv) (mo_Jx4a65c_size_8abf5 hv) hk9 rfl (by decide) gX5_sum_Jx4a65c_size_8abf5 rfl 0 (by decide +kernel) ⟨by rw [hfr]; decide, by rw [hlo]; decide⟩ rfl hl.1 (Nat.le_trans (cs_I cs_0) (by decide)) rfl dX5_sum_90 (fun H locs cells slots hD => ?_)
      refine W.eq (g2 := F0 m 93 ls [.int (r28), .int (v3)]) rfl ?_
      refine lv_icmp_ge (tgt := 132) hx hb dX5_sum_93 (by decide) (fun hc => ?_) (fun hc => ?_)
      · rw [if_pos hc] at hf
        refine lv_iload_n hx hb dX5_sum_132 rfl (lv_at hl 1 rfl) ?_
        obtain ⟨e1, e2⟩ := ret_eq hf
        rw [hQ, ← e1, ← e2]
        exact hw_iret S hlk hret rfl hD dX5_sum_133
      · rw [if_neg hc] at hf
        refine lv_iload_n hx hb dX5_sum_96 rfl (lv_at hl 1 rfl) ?_
        refine hw_aload_n (r := v0) hx hb dX5_sum_97 rfl (lv_at hl 0 rfl) ?_
        obtain ⟨x31, hv, hf⟩ := ob_s hf
        refine hw_gr (C := RX5) (T := TX5) (N := 8) (ref := "SolidGroups") S hKn hD hv rfl (by decide) (by decide) rfl inX5 wd1 (fun _ h9 => h9) dX5_sum_98 ?_
        refine lv_iload_n hx hb dX5_sum_101 rfl (lv_at hl 2 rfl) ?_
        refine lv_iconst (v := (1)) hx hb dX5_sum_102 (by decide) ?_
        refine lv_isub hx hb dX5_sum_103 ?_
        obtain ⟨b34, hv, hf⟩ := ob_s hf
        obtain ⟨e9, hk9⟩ := oK_of hv
        cases e9
        obtain ⟨r32, s33, hv, hf⟩ := ob_p hf
        refine hw_V (b := b34) (ci := 0) (T := TJx4a65c) (N := 3) (As := [.int (v3 - (1 : Int32))]) (rest := [.int (v2)]) S hKn hRm hD (c_Jx4a65c_get_915e3 l D G base E hv) (mo_Jx4a65c_get_915e3 hv) hk9 rfl (by decide) gX5_sum_Jx4a65c_get_915e3 rfl 1 (by decide +kernel) ⟨by rw [hfr]; decide, by rw [hlo]; decide⟩ rfl hl.1 (Nat.le_trans (cs_I cs_0) (by decide)) rfl dX5_sum_104 (fun H locs cells slots hD => ?_)
        refine W.eq (g2 := F0 m 107 ls [va_rf (r32), .int (v2)]) rfl ?_
        obtain ⟨u35, hv, hf⟩ := ob_s hf
        refine hw_ca (C := RX1) (T := TX1) (N := 6) S hKn hD hv rfl (by decide) wd5 dX5_sum_107 ?_
        refine hw_aload_n (r := v0) hx hb dX5_sum_110 rfl (lv_at hl 0 rfl) ?_
        obtain ⟨x36, hv, hf⟩ := ob_s hf
        refine hw_gr (C := RX5) (T := TX5) (N := 8) (ref := "SolidGroups") S hKn hD hv rfl (by decide) (by decide) rfl inX5 wd1 (fun _ h9 => h9) dX5_sum_111 ?_
        refine lv_iload_n hx hb dX5_sum_114 rfl (lv_at hl 2 rfl) ?_
        obtain ⟨b39, hv, hf⟩ := ob_s hf
        obtain ⟨e9, hk9⟩ := oK_of hv
        cases e9
        obtain ⟨r37, s38, hv, hf⟩ := ob_p hf
        refine hw_V (b := b39) (ci := 0) (T := TJx4a65c) (N := 3) (As := [.int (v3)]) (rest := [va_rf (r32), .int (v2)]) S hKn hRm hD (c_Jx4a65c_get_915e3 l D G base E hv) (mo_Jx4a65c_get_915e3 hv) hk9 rfl (by decide) gX5_sum_Jx4a65c_get_915e3 rfl 1 (by decide +kernel) ⟨by rw [hfr]; decide, by rw [hlo]; decide⟩ rfl hl.1 (Nat.le_trans (cs_A (cs_I cs_0)) (by decide)) rfl dX5_sum_115 (fun H locs cells slots hD => ?_)
        refine W.eq (g2 := F0 m 118 ls [va_rf (r37), va_rf (r32), .int (v2)]) rfl ?_
        obtain ⟨u40, hv, hf⟩ := ob_s hf
        refine hw_ca (C := RX1) (T := TX1) (N := 6) S hKn hD hv rfl (by decide) wd5 dX5_sum_118 ?_
        obtain ⟨r41, s42, hv, hf⟩ := ob_p hf
        refine hw_S (As := [va_rf (r32), va_rf (r37)]) (rest := [.int (v2)]) S hKn hRm hD (c_X5_apart l D G base E hv) (mo_X5_apart hv) gX5_sum_X5_apart rfl 2 (by decide +kernel) ⟨by rw [hfr]; decide, by rw [hlo]; decide⟩ rfl hl.1 (Nat.le_trans (cs_I cs_0) (by decide)) rfl dX5_sum_121 (fun H locs cells slots hD => ?_)
        refine W.eq (g2 := F0 m 124 ls [.int (r41), .int (v2)]) rfl ?_
        refine lv_iadd hx hb dX5_sum_124 ?_
        refine hs_istore_n (i := 2) (lv' := [(2, .int (v2 + r41)), (0, va_rf (v0)), (3, .int (v3))]) hx hb dX5_sum_125 rfl hl (by decide) (st_okR (st_okI (st_okI st_ok0))) rfl (fun ls hl => ?_)
        refine hs_iinc (i := 3) (k := 2) (v := v3 + 1) (lv' := [(3, .int (v3 + 1)), (2, .int (v2 + r41)), (0, va_rf (v0))]) hx hb dX5_sum_126 hl rfl (congrArg (fun z => v3 + z) (by decide)) (by decide) (st_okI (st_okR (st_okI st_ok0))) rfl (fun ls hl => ?_)
        refine lv_goto (tgt := 85) hx hb dX5_sum_129 (by decide) ?_
        exact ih v0 (v2 + r41) (v3 + 1) _ _ _ _ _ _ hD (lv_sub hl [2, 1, 0] rfl) hf
  have hB75 : ∀ (k28 : Option Nat → Int32 → Int32 → PS → Option (Int32 × PS)) (hk28 : ∀ (z0 : Option Nat) (z1 : Int32) (z2 : Int32) (σ : PS) (H : Heap) (locs : List Loc) (cells slots : Nat) (ls : Array Slot), Dy D G base E s.heap σ0 σ H locs cells slots → lv_has ls 4 [(0, va_rf (z0)), (1, .int (z1)), (2, .int (z2))] → k28 z0 z1 z2 σ = some (rv, τ) → W p l e R s m ([.ref a0, .int (p1)] : List Value).toArray below meth c H locs cells slots Q (F0 m 28 ls [])), ∀ (v0 : Option Nat) (v1 : Int32) (v2 : Int32) (σ : PS) (H : Heap) (locs : List Loc) (cells slots : Nat) (ls : Array Slot), Dy D G base E s.heap σ0 σ H locs cells slots → lv_has ls 4 [(0, va_rf (v0)), (1, .int (v1)), (2, .int (v2))] → f_X5_sum_B75 E k28 v0 v1 v2 σ = some (rv, τ) → W p l e R s m ([.ref a0, .int (p1)] : List Value).toArray below meth c H locs cells slots Q (F0 m 75 ls []) := by
    intro k28 hk28 v0 v1 v2 σ H locs cells slots ls hD hl hf
    unfold f_X5_sum_B75 at hf
    refine hs_iinc (i := 2) (k := 2) (v := v2 + 1) (lv' := [(2, .int (v2 + 1)), (0, va_rf (v0)), (1, .int (v1))]) hx hb dX5_sum_75 hl rfl (congrArg (fun z => v2 + z) (by decide)) (by decide) (st_okR (st_okI (st_okI st_ok0))) rfl (fun ls hl => ?_)
    refine lv_goto (tgt := 28) hx hb dX5_sum_78 (by decide) ?_
    exact hk28 v0 v1 (v2 + 1) _ _ _ _ _ _ hD (lv_sub hl [1, 2, 0] rfl) hf
  have hL28 : ∀ (n : Nat), ∀ (v0 : Option Nat) (v1 : Int32) (v2 : Int32) (σ : PS) (H : Heap) (locs : List Loc) (cells slots : Nat) (ls : Array Slot), Dy D G base E s.heap σ0 σ H locs cells slots → lv_has ls 4 [(0, va_rf (v0)), (1, .int (v1)), (2, .int (v2))] → f_X5_sum_L28 E n v0 v1 v2 σ = some (rv, τ) → W p l e R s m ([.ref a0, .int (p1)] : List Value).toArray below meth c H locs cells slots Q (F0 m 28 ls []) := by
    intro n
    induction n with
    | zero =>
      intro v0 v1 v2 σ H locs cells slots ls hD hl hf
      rw [f_X5_sum_L28] at hf
      cases hf
    | succ n ih =>
      intro v0 v1 v2 σ H locs cells slots ls hD hl hf
      rw [f_X5_sum_L28] at hf
      refine lv_iload_n hx hb dX5_sum_28 rfl (lv_at hl 2 rfl) ?_
      refine hw_aload_n (r := v0) hx hb dX5_sum_29 rfl (lv_at hl 0 rfl) ?_
      obtain ⟨x8, hv, hf⟩ := ob_s hf
      refine hw_gr (C := RX5) (T := TX5) (N := 8) (ref := "SolidGroups") S hKn hD hv rfl (by decide) (by decide) rfl inX5 wd2 (fun _ h9 => h9) dX5_sum_30 ?_
      obtain ⟨b11, hv, hf⟩ := ob_s hf
      obtain ⟨e9, hk9⟩ := oK_of hv
      cases e9
      obtain ⟨r9, s10, hv, hf⟩ := ob_p hf
      refine hw_V (b := b11) (ci := 0) (T := TJx4a65c) (N := 3) (As := []) (rest := [.int (v2)]) S hKn hRm hD (c_Jx4a65c_size_8abf5 l D G base E hv) (mo_Jx4a65c_size_8abf5 hv) hk9 rfl (by decide) gX5_sum_Jx4a65c_size_8abf5 rfl 0 (by decide +kernel) ⟨by rw [hfr]; decide, by rw [hlo]; decide⟩ rfl hl.1 (Nat.le_trans (cs_I cs_0) (by decide)) rfl dX5_sum_33 (fun H locs cells slots hD => ?_)
      refine W.eq (g2 := F0 m 36 ls [.int (r9), .int (v2)]) rfl ?_
      refine lv_icmp_ge (tgt := 81) hx hb dX5_sum_36 (by decide) (fun hc => ?_) (fun hc => ?_)
      · rw [if_pos hc] at hf
        refine lv_iconst (v := (0)) hx hb dX5_sum_81 (by decide) ?_
        refine hs_istore_n (i := 2) (lv' := [(2, .int ((0 : Int32))), (0, va_rf (v0)), (1, .int (v1))]) hx hb dX5_sum_82 rfl hl (by decide) (st_okR (st_okI (st_okI st_ok0))) rfl (fun ls hl => ?_)
        refine lv_iconst (v := (1)) hx hb dX5_sum_83 (by decide) ?_
        refine hs_istore_n (i := 3) (lv' := [(3, .int ((1 : Int32))), (2, .int ((0 : Int32))), (0, va_rf (v0)), (1, .int (v1))]) hx hb dX5_sum_84 rfl hl (by decide) (st_okI (st_okR (st_okI st_ok0))) rfl (fun ls hl => ?_)
        exact hL85 _ v0 (0 : Int32) (1 : Int32) _ _ _ _ _ _ hD (lv_sub hl [2, 1, 0] rfl) hf
      · rw [if_neg hc] at hf
        refine hw_aload_n (r := v0) hx hb dX5_sum_39 rfl (lv_at hl 0 rfl) ?_
        obtain ⟨x12, hv, hf⟩ := ob_s hf
        refine hw_gr (C := RX5) (T := TX5) (N := 8) (ref := "SolidGroups") S hKn hD hv rfl (by decide) (by decide) rfl inX5 wd2 (fun _ h9 => h9) dX5_sum_40 ?_
        refine lv_iload_n hx hb dX5_sum_43 rfl (lv_at hl 2 rfl) ?_
        obtain ⟨b15, hv, hf⟩ := ob_s hf
        obtain ⟨e9, hk9⟩ := oK_of hv
        cases e9
        obtain ⟨r13, s14, hv, hf⟩ := ob_p hf
        refine hw_V (b := b15) (ci := 0) (T := TJx4a65c) (N := 3) (As := [.int (v2)]) (rest := []) S hKn hRm hD (c_Jx4a65c_get_915e3 l D G base E hv) (mo_Jx4a65c_get_915e3 hv) hk9 rfl (by decide) gX5_sum_Jx4a65c_get_915e3 rfl 1 (by decide +kernel) ⟨by rw [hfr]; decide, by rw [hlo]; decide⟩ rfl hl.1 (Nat.le_trans cs_0 (by decide)) rfl dX5_sum_44 (fun H locs cells slots hD => ?_)
        refine W.eq (g2 := F0 m 47 ls [va_rf (r13)]) rfl ?_
        obtain ⟨u16, hv, hf⟩ := ob_s hf
        refine hw_ca (C := RX2) (T := TX2) (N := 4) S hKn hD hv rfl (by decide) wd3 dX5_sum_47 ?_
        obtain ⟨x17, hv, hf⟩ := ob_s hf
        refine hw_gi (C := RX2) (T := TX2) (N := 4) (ref := "SolidGroups$Group") S hKn hD hv rfl (by decide) (by decide) rfl inX2 wd4 (fun _ h9 => h9) dX5_sum_50 ?_
        refine lv_iload_n hx hb dX5_sum_53 rfl (lv_at hl 1 rfl) ?_
        refine lv_icmp_ne (tgt := 75) hx hb dX5_sum_54 (by decide) (fun hc => ?_) (fun hc => ?_)
        · rw [if_neg hc] at hf
          exact hB75 _ ih v0 v1 v2 _ _ _ _ _ _ hD (lv_sub hl [0, 1, 2] rfl) hf
        · rw [if_pos hc] at hf
          refine hw_aload_n (r := v0) hx hb dX5_sum_57 rfl (lv_at hl 0 rfl) ?_
          obtain ⟨x18, hv, hf⟩ := ob_s hf
          refine hw_gr (C := RX5) (T := TX5) (N := 8) (ref := "SolidGroups") S hKn hD hv rfl (by decide) (by decide) rfl inX5 wd2 (fun _ h9 => h9) dX5_sum_58 ?_
          refine lv_iload_n hx hb dX5_sum_61 rfl (lv_at hl 2 rfl) ?_
          obtain ⟨b21, hv, hf⟩ := ob_s hf
          obtain ⟨e9, hk9⟩ := oK_of hv
          cases e9
          obtain ⟨r19, s20, hv, hf⟩ := ob_p hf
          refine hw_V (b := b21) (ci := 0) (T := TJx4a65c) (N := 3) (As := [.int (v2)]) (rest := []) S hKn hRm hD (c_Jx4a65c_get_915e3 l D G base E hv) (mo_Jx4a65c_get_915e3 hv) hk9 rfl (by decide) gX5_sum_Jx4a65c_get_915e3 rfl 1 (by decide +kernel) ⟨by rw [hfr]; decide, by rw [hlo]; decide⟩ rfl hl.1 (Nat.le_trans cs_0 (by decide)) rfl dX5_sum_62 (fun H locs cells slots hD => ?_)
          refine W.eq (g2 := F0 m 65 ls [va_rf (r19)]) rfl ?_
          obtain ⟨u22, hv, hf⟩ := ob_s hf
          refine hw_ca (C := RX2) (T := TX2) (N := 4) S hKn hD hv rfl (by decide) wd3 dX5_sum_65 ?_
          refine hw_aload_n (r := v0) hx hb dX5_sum_68 rfl (lv_at hl 0 rfl) ?_
          obtain ⟨x23, hv, hf⟩ := ob_s hf
          refine hw_gr (C := RX5) (T := TX5) (N := 8) (ref := "SolidGroups") S hKn hD hv rfl (by decide) (by decide) rfl inX5 wd1 (fun _ h9 => h9) dX5_sum_69 ?_
          obtain ⟨b26, hv, hf⟩ := ob_s hf
          obtain ⟨e9, hk9⟩ := oK_of hv
          cases e9
          obtain ⟨r24, s25, hv, hf⟩ := ob_p hf
          refine hw_V (b := b26) (ci := 3) (T := TX2) (N := 4) (As := [va_rf (x23)]) (rest := []) S hKn hRm hD (c_X2_addMembersTo l D G base E hv) (mo_X2_addMembersTo hv) hk9 rfl (by decide) gX5_sum_X2_addMembersTo rfl 1 (by decide +kernel) ⟨by rw [hfr]; decide, by rw [hlo]; decide⟩ rfl hl.1 (Nat.le_trans cs_0 (by decide)) rfl dX5_sum_72 (fun H locs cells slots hD => ?_)
          refine W.eq (g2 := F0 m 75 ls []) rfl ?_
          exact hB75 _ ih v0 v1 v2 _ _ _ _ _ _ hD (lv_sub hl [0, 1, 2] rfl) hf
  have hl : lv_has ls 4 [(0, va_rf (some a0)), (1, .int (p1))] := hl
  unfold g_X5_sum at hf
  refine lv_iload_n hx hb dX5_sum_0 rfl (lv_at hl 1 rfl) ?_
  obtain ⟨r1, s2, hv, hf⟩ := ob_p hf
  refine hw_S (As := [.int (p1)]) (rest := []) S hKn hRm hD (c_X5_isKind l D G base E hv) (mo_X5_isKind hv) gX5_sum_X5_isKind rfl 1 (by decide +kernel) ⟨by rw [hfr]; decide, by rw [hlo]; decide⟩ rfl hl.1 (Nat.le_trans cs_0 (by decide)) rfl dX5_sum_1 (fun H locs cells slots hD => ?_)
  refine W.eq (g2 := F0 m 4 ls [.int (r1)]) rfl ?_
  refine lv_if_ne (tgt := 9) hx hb dX5_sum_4 (by decide) (fun hc => ?_) (fun hc => ?_)
  · rw [if_neg hc] at hf
    refine hw_aload_n (r := (some a0)) hx hb dX5_sum_9 rfl (lv_at hl 0 rfl) ?_
    obtain ⟨x3, hv, hf⟩ := ob_s hf
    refine hw_gi (C := RX5) (T := TX5) (N := 8) (ref := "SolidGroups") S hKn hD hv rfl (by decide) (by decide) rfl inX5 wd0 (fun _ h9 => h9) dX5_sum_10 ?_
    refine lv_if_ne (tgt := 19) hx hb dX5_sum_13 (by decide) (fun hc => ?_) (fun hc => ?_)
    · rw [if_neg hc] at hf
      refine hw_aload_n (r := (some a0)) hx hb dX5_sum_19 rfl (lv_at hl 0 rfl) ?_
      obtain ⟨x4, hv, hf⟩ := ob_s hf
      refine hw_gr (C := RX5) (T := TX5) (N := 8) (ref := "SolidGroups") S hKn hD hv rfl (by decide) (by decide) rfl inX5 wd1 (fun _ h9 => h9) dX5_sum_20 ?_
      obtain ⟨b7, hv, hf⟩ := ob_s hf
      obtain ⟨e9, hk9⟩ := oK_of hv
      cases e9
      obtain ⟨r5, s6, hv, hf⟩ := ob_p hf
      refine hw_V (b := b7) (ci := 0) (T := TJx4a65c) (N := 3) (As := []) (rest := []) S hKn hRm hD (c_Jx4a65c_clear_da8c8 l D G base E hv) (mo_Jx4a65c_clear_da8c8 hv) hk9 rfl (by decide) gX5_sum_Jx4a65c_clear_da8c8 rfl 0 (by decide +kernel) ⟨by rw [hfr]; decide, by rw [hlo]; decide⟩ rfl hl.1 (Nat.le_trans cs_0 (by decide)) rfl dX5_sum_23 (fun H locs cells slots hD => ?_)
      refine W.eq (g2 := F0 m 26 ls []) rfl ?_
      refine lv_iconst (v := (0)) hx hb dX5_sum_26 (by decide) ?_
      refine hs_istore_n (i := 2) (lv' := [(2, .int ((0 : Int32))), (0, va_rf ((some a0))), (1, .int (p1))]) hx hb dX5_sum_27 rfl hl (by decide) (st_okR (st_okI st_ok0)) rfl (fun ls hl => ?_)
      exact hL28 _ (some a0) p1 (0 : Int32) _ _ _ _ _ _ hD (lv_sub hl [1, 2, 0] rfl) hf
    · rw [if_pos hc] at hf
      refine lv_bipush (v := (-2)) hx hb dX5_sum_16 (by decide) ?_
      obtain ⟨e1, e2⟩ := ret_eq hf
      rw [hQ, ← e1, ← e2]
      exact hw_iret S hlk hret rfl hD dX5_sum_18
  · rw [if_pos hc] at hf
    refine lv_iconst (v := (-1)) hx hb dX5_sum_7 (by decide) ?_
    obtain ⟨e1, e2⟩ := ret_eq hf
    rw [hQ, ← e1, ← e2]
    exact hw_iret S hlk hret rfl hD dX5_sum_8
