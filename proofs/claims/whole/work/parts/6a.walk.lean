theorem dfJx4a65c : ∀ j, j < 3 → defaultValue (tyJx4a65c j) = if cIsR 0 j = true then .null else .int 0 := by decide +kernel
theorem dfX0 : ∀ j, j < 3 → defaultValue (tyX0 j) = if cIsR 1 j = true then .null else .int 0 := by decide +kernel
theorem dfX1 : ∀ j, j < 6 → defaultValue (tyX1 j) = if cIsR 2 j = true then .null else .int 0 := by decide +kernel
theorem dfX2 : ∀ j, j < 4 → defaultValue (tyX2 j) = if cIsR 3 j = true then .null else .int 0 := by decide +kernel
theorem dfX3 : ∀ j, j < 4 → defaultValue (tyX3 j) = if cIsR 4 j = true then .null else .int 0 := by decide +kernel
theorem dfX4 : ∀ j, j < 5 → defaultValue (tyX4 j) = if cIsR 5 j = true then .null else .int 0 := by decide +kernel
theorem dfX5 : ∀ j, j < 8 → defaultValue (tyX5 j) = if cIsR 6 j = true then .null else .int 0 := by decide +kernel
theorem dfX6 : ∀ j, j < 23 → defaultValue (tyX6 j) = if cIsR 7 j = true then .null else .int 0 := by decide +kernel
set_option maxHeartbeats 4000000 in
set_option maxRecDepth 100000 in
theorem c_Jxa1e45_init_da8c8 (l : Launch) (D : va_G) (G : GC) (base : Nat) (E : PE) {a0 : Nat} {σ0 τ : PS} {rv : Unit} (hF : f_Jxa1e45_init_da8c8 E (some a0) σ0 = some (rv, τ)) : Ct l D G base E yJxa1e45_init_da8c8 wsJxa1e45_init_da8c8 1 60 ([.ref a0] : List Value) σ0 none τ := by
  obtain ⟨hf, hmo⟩ := oM_of hF
  refine Ct.of (own := RJxa1e45) [1] (by decide) rfl rfl hmo (ct_R ct_0) (by decide) ?_
  intro p e s m below meth c R Q ls H locs cells slots S hKn hRm hfr hlo hlk hret hnm hQ hD hl
  have hx := S.1
  have hb := S.2.1
  have hts := S.2.2.2.2
  have wd0 := hts (.methodLink RJxa1e45 1 objectInit) (by decide +kernel)
  have wd1 := hts (.instanceMethod objectInit) (by decide +kernel)
  have wd2 := hts (.code objectInit ⟨#[0xb1]⟩ 1 none) (by decide +kernel)
  have hl : lv_has ls 1 [(0, va_rf (some a0))] := hl
  unfold g_Jxa1e45_init_da8c8 at hf
  refine hw_aload_n (r := (some a0)) hx hb dJxa1e45_init_da8c8_0 rfl (lv_at hl 0 rfl) ?_
  obtain ⟨b1, hv, hf⟩ := ob_s hf
  obtain ⟨e9, hk9⟩ := oK_of hv
  cases e9
  refine W.objInit hx hb S.2.2.2.1 wd0 wd1 wd2 rfl (hl.1.trans S.2.2.1.symm) rfl dJxa1e45_init_da8c8_1 (by rw [hfr]; decide) (by rw [hlo]; show 2 * 0 + _ + 12 ≤ _; exact Nat.le_trans (Nat.add_le_add_right (Nat.add_le_add_left cs_0 (2 * 0)) 12) (by decide)) ?_
  refine W.eq (g2 := F0 m 4 ls []) rfl ?_
  obtain ⟨-, e2⟩ := ret_eq hf
  rw [hQ, ← e2]
  exact hw_vret S hlk hret hD dJxa1e45_init_da8c8_4
set_option maxHeartbeats 4000000 in
set_option maxRecDepth 100000 in
theorem c_Jxc12de_init_da8c8 (l : Launch) (D : va_G) (G : GC) (base : Nat) (E : PE) {a0 : Nat} {σ0 τ : PS} {rv : Unit} (hF : f_Jxc12de_init_da8c8 E (some a0) σ0 = some (rv, τ)) : Ct l D G base E yJxc12de_init_da8c8 wsJxc12de_init_da8c8 2 80 ([.ref a0] : List Value) σ0 none τ := by
  obtain ⟨hf, hmo⟩ := oM_of hF
  refine Ct.of (own := RJxc12de) [1] (by decide) rfl rfl hmo (ct_R ct_0) (by decide) ?_
  intro p e s m below meth c R Q ls H locs cells slots S hKn hRm hfr hlo hlk hret hnm hQ hD hl
  have hx := S.1
  have hb := S.2.1
  have hts := S.2.2.2.2
  have inJx4a65c : ∀ w ∈ u_ws RJx4a65c TJx4a65c 3, w ∈ wsJxc12de_init_da8c8 := by decide +kernel
  have wd0 := hts (.initialized RJxa1e45) (by decide +kernel)
  have wd1 := hts (.methodLink RJxc12de 1 yJxa1e45_init_da8c8) (by decide +kernel)
  have wd2 := hts (.instanceMethod yJxa1e45_init_da8c8) (by decide +kernel)
  have wd3 := hts (.fieldLink RJxc12de 7 "java/util/AbstractList" "modCount" "I") (by decide +kernel)
  have hl : lv_has ls 1 [(0, va_rf (some a0))] := hl
  unfold g_Jxc12de_init_da8c8 at hf
  refine hw_aload_n (r := (some a0)) hx hb dJxc12de_init_da8c8_0 rfl (lv_at hl 0 rfl) ?_
  obtain ⟨b3, hv, hf⟩ := ob_s hf
  obtain ⟨e9, hk9⟩ := oK_of hv
  cases e9
  obtain ⟨r1, s2, hv, hf⟩ := ob_p hf
  refine hw_I (b := a0) (As := []) (rest := []) S hKn hRm hD (c_Jxa1e45_init_da8c8 l D G base E hv) (mo_Jxa1e45_init_da8c8 hv) gJxc12de_init_da8c8_Jxa1e45_init_da8c8 rfl 0 wd0 wd1 wd2 rfl (by decide +kernel) ⟨by rw [hfr]; decide, by rw [hlo]; decide⟩ rfl hl.1 (Nat.le_trans cs_0 (by decide)) rfl dJxc12de_init_da8c8_1 (fun H locs cells slots hD => ?_)
  refine W.eq (g2 := F0 m 4 ls []) rfl ?_
  refine hw_aload_n (r := (some a0)) hx hb dJxc12de_init_da8c8_4 rfl (lv_at hl 0 rfl) ?_
  refine lv_iconst (v := (0)) hx hb dJxc12de_init_da8c8_5 (by decide) ?_
  obtain ⟨s4, hv, hf⟩ := ob_s hf
  refine hw_pi (C := RJx4a65c) (T := TJx4a65c) (N := 3) (ref := "java/util/AbstractList") S hKn hD hv rfl (by decide) (by decide) rfl inJx4a65c tyJx4a65c tyJx4a65c_ok nmJx4a65c wd3 (fun _ h9 => h9) rfl (by first | rfl | decide) (by first | rfl | decide) dJxc12de_init_da8c8_6 (fun H locs hD => ?_)
  obtain ⟨-, e2⟩ := ret_eq hf
  rw [hQ, ← e2]
  exact hw_vret S hlk hret hD dJxc12de_init_da8c8_9
set_option maxHeartbeats 4000000 in
set_option maxRecDepth 100000 in
theorem c_Jx4a65c_init_da8c8 (l : Launch) (D : va_G) (G : GC) (base : Nat) (E : PE) {a0 : Nat} {σ0 τ : PS} {rv : Unit} (hF : f_Jx4a65c_init_da8c8 E (some a0) σ0 = some (rv, τ)) : Ct l D G base E yJx4a65c_init_da8c8 wsJx4a65c_init_da8c8 3 100 ([.ref a0] : List Value) σ0 none τ := by
  obtain ⟨hf, hmo⟩ := oM_of hF
  refine Ct.of (own := RJx4a65c) [1] (by decide) rfl rfl hmo (ct_R ct_0) (by decide) ?_
  intro p e s m below meth c R Q ls H locs cells slots S hKn hRm hfr hlo hlk hret hnm hQ hD hl
  have hx := S.1
  have hb := S.2.1
  have hts := S.2.2.2.2
  have inJx4a65c : ∀ w ∈ u_ws RJx4a65c TJx4a65c 3, w ∈ wsJx4a65c_init_da8c8 := by decide +kernel
  have wd0 := hts (.initialized RJxc12de) (by decide +kernel)
  have wd1 := hts (.methodLink RJx4a65c 1 yJxc12de_init_da8c8) (by decide +kernel)
  have wd2 := hts (.instanceMethod yJxc12de_init_da8c8) (by decide +kernel)
  have wd3 := hts (.fieldLink RJx4a65c 39 "java/util/ArrayList" "DEFAULTCAPACITY_EMPTY_ELEMENTDATA" "[Ljava/lang/Object;") (by decide +kernel)
  have wd4 := hts (.fieldLink RJx4a65c 9 "java/util/ArrayList" "elementData" "[Ljava/lang/Object;") (by decide +kernel)
  have hl : lv_has ls 1 [(0, va_rf (some a0))] := hl
  unfold g_Jx4a65c_init_da8c8 at hf
  refine hw_aload_n (r := (some a0)) hx hb dJx4a65c_init_da8c8_0 rfl (lv_at hl 0 rfl) ?_
  obtain ⟨b3, hv, hf⟩ := ob_s hf
  obtain ⟨e9, hk9⟩ := oK_of hv
  cases e9
  obtain ⟨r1, s2, hv, hf⟩ := ob_p hf
  refine hw_I (b := a0) (As := []) (rest := []) S hKn hRm hD (c_Jxc12de_init_da8c8 l D G base E hv) (mo_Jxc12de_init_da8c8 hv) gJx4a65c_init_da8c8_Jxc12de_init_da8c8 rfl 0 wd0 wd1 wd2 rfl (by decide +kernel) ⟨by rw [hfr]; decide, by rw [hlo]; decide⟩ rfl hl.1 (Nat.le_trans cs_0 (by decide)) rfl dJx4a65c_init_da8c8_1 (fun H locs cells slots hD => ?_)
  refine W.eq (g2 := F0 m 4 ls []) rfl ?_
  refine hw_aload_n (r := (some a0)) hx hb dJx4a65c_init_da8c8_4 rfl (lv_at hl 0 rfl) ?_
  refine hw_df S hKn hD wd3 dJx4a65c_init_da8c8_5 ?_
  obtain ⟨s4, hv, hf⟩ := ob_s hf
  refine hw_pr (C := RJx4a65c) (T := TJx4a65c) (N := 3) (ref := "java/util/ArrayList") S hKn hD hv rfl (by decide) (by decide) rfl inJx4a65c tyJx4a65c tyJx4a65c_ok nmJx4a65c wd4 (fun _ h9 => h9) rfl (by first | rfl | (cases (some E.2.2.2.1) <;> rfl)) (by first | rfl | (cases (some E.2.2.2.1) <;> rfl)) dJx4a65c_init_da8c8_8 (fun H locs hD => ?_)
  obtain ⟨-, e2⟩ := ret_eq hf
  rw [hQ, ← e2]
  exact hw_vret S hlk hret hD dJx4a65c_init_da8c8_11
set_option maxHeartbeats 4000000 in
set_option maxRecDepth 100000 in
theorem c_X0_init (l : Launch) (D : va_G) (G : GC) (base : Nat) (E : PE) {a0 : Nat} {σ0 τ : PS} {rv : Unit} (hF : f_X0_init E (some a0) σ0 = some (rv, τ)) : Ct l D G base E yX0_init wsX0_init 4 120 ([.ref a0] : List Value) σ0 none τ := by
  obtain ⟨hf, hmo⟩ := oM_of hF
  refine Ct.of (own := RX0) [1] (by decide) rfl rfl hmo (ct_R ct_0) (by decide) ?_
  intro p e s m below meth c R Q ls H locs cells slots S hKn hRm hfr hlo hlk hret hnm hQ hD hl
  have hx := S.1
  have hb := S.2.1
  have hts := S.2.2.2.2
  have inJx4a65c : ∀ w ∈ u_ws RJx4a65c TJx4a65c 3, w ∈ wsX0_init := by decide +kernel
  have inX0 : ∀ w ∈ u_ws RX0 TX0 3, w ∈ wsX0_init := by decide +kernel
  have wd0 := hts (.methodLink RX0 3 objectInit) (by decide +kernel)
  have wd1 := hts (.instanceMethod objectInit) (by decide +kernel)
  have wd2 := hts (.code objectInit ⟨#[0xb1]⟩ 1 none) (by decide +kernel)
  have wd3 := hts (.classLink RX0 9 RJx4a65c) (by decide +kernel)
  have wd4 := hts (.instantiable RJx4a65c 3) (by decide +kernel)
  have wd5 := hts (.initialized RJx4a65c) (by decide +kernel)
  have wd6 := hts (.methodLink RX0 11 yJx4a65c_init_da8c8) (by decide +kernel)
  have wd7 := hts (.instanceMethod yJx4a65c_init_da8c8) (by decide +kernel)
  have wd8 := hts (.fieldLink RX0 12 "SolidGroups$Arranger" "byNumbers" "Ljava/util/ArrayList;") (by decide +kernel)
  have wd9 := hts (.arrayClass .int) (by decide +kernel)
  have wd10 := hts (.fieldLink RX0 18 "SolidGroups$Arranger" "steps" "[I") (by decide +kernel)
  have wd11 := hts (.fieldLink RX0 22 "SolidGroups$Arranger" "sums" "[I") (by decide +kernel)
  have hl : lv_has ls 1 [(0, va_rf (some a0))] := hl
  unfold g_X0_init at hf
  refine hw_aload_n (r := (some a0)) hx hb dX0_init_0 rfl (lv_at hl 0 rfl) ?_
  obtain ⟨b1, hv, hf⟩ := ob_s hf
  obtain ⟨e9, hk9⟩ := oK_of hv
  cases e9
  refine W.objInit hx hb S.2.2.2.1 wd0 wd1 wd2 rfl (hl.1.trans S.2.2.1.symm) rfl dX0_init_1 (by rw [hfr]; decide) (by rw [hlo]; show 2 * 0 + _ + 12 ≤ _; exact Nat.le_trans (Nat.add_le_add_right (Nat.add_le_add_left cs_0 (2 * 0)) 12) (by decide)) ?_
  refine W.eq (g2 := F0 m 4 ls []) rfl ?_
  refine hw_aload_n (r := (some a0)) hx hb dX0_init_4 rfl (lv_at hl 0 rfl) ?_
  obtain ⟨x2, s3, hv, hf⟩ := ob_p hf
  refine hw_nw (C := RJx4a65c) (T := TJx4a65c) (N := 3) S hKn hRm hD hv rfl (by decide) inJx4a65c tyJx4a65c tyJx4a65c_ok wd3 wd4 wd5 dfJx4a65c dX0_init_5 (fun H hD => ?_)
  generalize cells + 1 = cells, slots + 3 = slots at hD ⊢
  refine lv_dup hx hb dX0_init_8 (va_rf_cat _) ?_
  obtain ⟨b6, hv, hf⟩ := ob_s hf
  obtain ⟨e9, hk9⟩ := oK_of hv
  cases e9
  obtain ⟨r4, s5, hv, hf⟩ := ob_p hf
  refine hw_I (b := b6) (As := []) (rest := [va_rf ((some b6)), va_rf ((some a0))]) S hKn hRm hD (c_Jx4a65c_init_da8c8 l D G base E hv) (mo_Jx4a65c_init_da8c8 hv) gX0_init_Jx4a65c_init_da8c8 rfl 0 wd5 wd6 wd7 rfl (by decide +kernel) ⟨by rw [hfr]; decide, by rw [hlo]; decide⟩ rfl hl.1 (Nat.le_trans (cs_A (cs_A cs_0)) (by decide)) rfl dX0_init_9 (fun H locs cells slots hD => ?_)
  refine W.eq (g2 := F0 m 12 ls [va_rf ((some b6)), va_rf ((some a0))]) rfl ?_
  obtain ⟨s7, hv, hf⟩ := ob_s hf
  refine hw_prF (C := RX0) (T := TX0) (N := 3) (ref := "SolidGroups$Arranger") S hKn hD hv rfl (by decide) (by decide) rfl inX0 tyX0 tyX0_ok nmX0 wd8 (fun _ h9 => h9) rfl hnm rfl (by first | rfl | (cases (some b6) <;> rfl)) (by first | rfl | (cases (some b6) <;> rfl)) dX0_init_12 (fun H locs hD => ?_)
  refine hw_aload_n (r := (some a0)) hx hb dX0_init_15 rfl (lv_at hl 0 rfl) ?_
  refine lv_bipush (v := (49)) hx hb dX0_init_16 (by decide) ?_
  obtain ⟨x8, s9, hv, hf⟩ := ob_p hf
  refine hw_nai S hKn hRm hD hv wd9 dX0_init_18 (fun H hD => ?_)
  generalize cells + 1 = cells, slots + Int32.toNatClampNeg (49 : Int32) = slots at hD ⊢
  obtain ⟨s10, hv, hf⟩ := ob_s hf
  refine hw_prF (C := RX0) (T := TX0) (N := 3) (ref := "SolidGroups$Arranger") S hKn hD hv rfl (by decide) (by decide) rfl inX0 tyX0 tyX0_ok nmX0 wd10 (fun _ h9 => h9) rfl hnm rfl (by first | rfl | (cases x8 <;> rfl)) (by first | rfl | (cases x8 <;> rfl)) dX0_init_20 (fun H locs hD => ?_)
  refine hw_aload_n (r := (some a0)) hx hb dX0_init_23 rfl (lv_at hl 0 rfl) ?_
  refine lv_sipush (v := (896)) hx hb dX0_init_24 (by decide) ?_
  obtain ⟨x11, s12, hv, hf⟩ := ob_p hf
  refine hw_nai S hKn hRm hD hv wd9 dX0_init_27 (fun H hD => ?_)
  generalize cells + 1 = cells, slots + Int32.toNatClampNeg (896 : Int32) = slots at hD ⊢
  obtain ⟨s13, hv, hf⟩ := ob_s hf
  refine hw_prF (C := RX0) (T := TX0) (N := 3) (ref := "SolidGroups$Arranger") S hKn hD hv rfl (by decide) (by decide) rfl inX0 tyX0 tyX0_ok nmX0 wd11 (fun _ h9 => h9) rfl hnm rfl (by first | rfl | (cases x11 <;> rfl)) (by first | rfl | (cases x11 <;> rfl)) dX0_init_29 (fun H locs hD => ?_)
  obtain ⟨-, e2⟩ := ret_eq hf
  rw [hQ, ← e2]
  exact hw_vret S hlk hret hD dX0_init_32
set_option maxHeartbeats 4000000 in
set_option maxRecDepth 100000 in
theorem c_X3_init (l : Launch) (D : va_G) (G : GC) (base : Nat) (E : PE) {a0 : Nat} {σ0 τ : PS} {rv : Unit} (hF : f_X3_init E (some a0) σ0 = some (rv, τ)) : Ct l D G base E yX3_init wsX3_init 1 60 ([.ref a0] : List Value) σ0 none τ := by
  obtain ⟨hf, hmo⟩ := oM_of hF
  refine Ct.of (own := RX3) [1] (by decide) rfl rfl hmo (ct_R ct_0) (by decide) ?_
  intro p e s m below meth c R Q ls H locs cells slots S hKn hRm hfr hlo hlk hret hnm hQ hD hl
  have hx := S.1
  have hb := S.2.1
  have hts := S.2.2.2.2
  have inX3 : ∀ w ∈ u_ws RX3 TX3 4, w ∈ wsX3_init := by decide +kernel
  have wd0 := hts (.methodLink RX3 3 objectInit) (by decide +kernel)
  have wd1 := hts (.instanceMethod objectInit) (by decide +kernel)
  have wd2 := hts (.code objectInit ⟨#[0xb1]⟩ 1 none) (by decide +kernel)
  have wd3 := hts (.arrayClass .int) (by decide +kernel)
  have wd4 := hts (.fieldLink RX3 9 "SolidGroups$RowMaker" "content" "[I") (by decide +kernel)
  have wd5 := hts (.fieldLink RX3 15 "SolidGroups$RowMaker" "length" "I") (by decide +kernel)
  have wd6 := hts (.fieldLink RX3 19 "SolidGroups$RowMaker" "foundBack" "I") (by decide +kernel)
  have wd7 := hts (.fieldLink RX3 22 "SolidGroups$RowMaker" "foundMany" "I") (by decide +kernel)
  have hl : lv_has ls 1 [(0, va_rf (some a0))] := hl
  unfold g_X3_init at hf
  refine hw_aload_n (r := (some a0)) hx hb dX3_init_0 rfl (lv_at hl 0 rfl) ?_
  obtain ⟨b1, hv, hf⟩ := ob_s hf
  obtain ⟨e9, hk9⟩ := oK_of hv
  cases e9
  refine W.objInit hx hb S.2.2.2.1 wd0 wd1 wd2 rfl (hl.1.trans S.2.2.1.symm) rfl dX3_init_1 (by rw [hfr]; decide) (by rw [hlo]; show 2 * 0 + _ + 12 ≤ _; exact Nat.le_trans (Nat.add_le_add_right (Nat.add_le_add_left cs_0 (2 * 0)) 12) (by decide)) ?_
  refine W.eq (g2 := F0 m 4 ls []) rfl ?_
  refine hw_aload_n (r := (some a0)) hx hb dX3_init_4 rfl (lv_at hl 0 rfl) ?_
  refine lv_sipush (v := (400)) hx hb dX3_init_5 (by decide) ?_
  obtain ⟨x2, s3, hv, hf⟩ := ob_p hf
  refine hw_nai S hKn hRm hD hv wd3 dX3_init_8 (fun H hD => ?_)
  generalize cells + 1 = cells, slots + Int32.toNatClampNeg (400 : Int32) = slots at hD ⊢
  obtain ⟨s4, hv, hf⟩ := ob_s hf
  refine hw_prF (C := RX3) (T := TX3) (N := 4) (ref := "SolidGroups$RowMaker") S hKn hD hv rfl (by decide) (by decide) rfl inX3 tyX3 tyX3_ok nmX3 wd4 (fun _ h9 => h9) rfl hnm rfl (by first | rfl | (cases x2 <;> rfl)) (by first | rfl | (cases x2 <;> rfl)) dX3_init_10 (fun H locs hD => ?_)
  refine hw_aload_n (r := (some a0)) hx hb dX3_init_13 rfl (lv_at hl 0 rfl) ?_
  refine lv_iconst (v := (0)) hx hb dX3_init_14 (by decide) ?_
  obtain ⟨s5, hv, hf⟩ := ob_s hf
  refine hw_pi (C := RX3) (T := TX3) (N := 4) (ref := "SolidGroups$RowMaker") S hKn hD hv rfl (by decide) (by decide) rfl inX3 tyX3 tyX3_ok nmX3 wd5 (fun _ h9 => h9) rfl (by first | rfl | decide) (by first | rfl | decide) dX3_init_15 (fun H locs hD => ?_)
  refine hw_aload_n (r := (some a0)) hx hb dX3_init_18 rfl (lv_at hl 0 rfl) ?_
  refine lv_iconst (v := (0)) hx hb dX3_init_19 (by decide) ?_
  obtain ⟨s6, hv, hf⟩ := ob_s hf
  refine hw_pi (C := RX3) (T := TX3) (N := 4) (ref := "SolidGroups$RowMaker") S hKn hD hv rfl (by decide) (by decide) rfl inX3 tyX3 tyX3_ok nmX3 wd6 (fun _ h9 => h9) rfl (by first | rfl | decide) (by first | rfl | decide) dX3_init_20 (fun H locs hD => ?_)
  refine hw_aload_n (r := (some a0)) hx hb dX3_init_23 rfl (lv_at hl 0 rfl) ?_
  refine lv_iconst (v := (0)) hx hb dX3_init_24 (by decide) ?_
  obtain ⟨s7, hv, hf⟩ := ob_s hf
  refine hw_pi (C := RX3) (T := TX3) (N := 4) (ref := "SolidGroups$RowMaker") S hKn hD hv rfl (by decide) (by decide) rfl inX3 tyX3 tyX3_ok nmX3 wd7 (fun _ h9 => h9) rfl (by first | rfl | decide) (by first | rfl | decide) dX3_init_25 (fun H locs hD => ?_)
  obtain ⟨-, e2⟩ := ret_eq hf
  rw [hQ, ← e2]
  exact hw_vret S hlk hret hD dX3_init_28
set_option maxHeartbeats 4000000 in
set_option maxRecDepth 100000 in
theorem c_X5_init (l : Launch) (D : va_G) (G : GC) (base : Nat) (E : PE) {a0 : Nat} {σ0 τ : PS} {rv : Unit} (hF : f_X5_init E (some a0) σ0 = some (rv, τ)) : Ct l D G base E yX5_init wsX5_init 5 140 ([.ref a0] : List Value) σ0 none τ := by
  obtain ⟨hf, hmo⟩ := oM_of hF
  refine Ct.of (own := RX5) [1] (by decide) rfl rfl hmo (ct_R ct_0) (by decide) ?_
  intro p e s m below meth c R Q ls H locs cells slots S hKn hRm hfr hlo hlk hret hnm hQ hD hl
  have hx := S.1
  have hb := S.2.1
  have hts := S.2.2.2.2
  have inJx4a65c : ∀ w ∈ u_ws RJx4a65c TJx4a65c 3, w ∈ wsX5_init := by decide +kernel
  have inX5 : ∀ w ∈ u_ws RX5 TX5 8, w ∈ wsX5_init := by decide +kernel
  have inX0 : ∀ w ∈ u_ws RX0 TX0 3, w ∈ wsX5_init := by decide +kernel
  have inX3 : ∀ w ∈ u_ws RX3 TX3 4, w ∈ wsX5_init := by decide +kernel
  have wd0 := hts (.methodLink RX5 1 objectInit) (by decide +kernel)
  have wd1 := hts (.instanceMethod objectInit) (by decide +kernel)
  have wd2 := hts (.code objectInit ⟨#[0xb1]⟩ 1 none) (by decide +kernel)
  have wd3 := hts (.classLink RX5 7 RJx4a65c) (by decide +kernel)
  have wd4 := hts (.instantiable RJx4a65c 3) (by decide +kernel)
  have wd5 := hts (.initialized RJx4a65c) (by decide +kernel)
  have wd6 := hts (.methodLink RX5 9 yJx4a65c_init_da8c8) (by decide +kernel)
  have wd7 := hts (.instanceMethod yJx4a65c_init_da8c8) (by decide +kernel)
  have wd8 := hts (.fieldLink RX5 10 "SolidGroups" "entries" "Ljava/util/ArrayList;") (by decide +kernel)
  have wd9 := hts (.fieldLink RX5 16 "SolidGroups" "groups" "Ljava/util/ArrayList;") (by decide +kernel)
  have wd10 := hts (.fieldLink RX5 19 "SolidGroups" "spareGroups" "Ljava/util/ArrayList;") (by decide +kernel)
  have wd11 := hts (.fieldLink RX5 22 "SolidGroups" "line" "Ljava/util/ArrayList;") (by decide +kernel)
  have wd12 := hts (.classLink RX5 25 RX0) (by decide +kernel)
  have wd13 := hts (.instantiable RX0 3) (by decide +kernel)
  have wd14 := hts (.initialized RX0) (by decide +kernel)
  have wd15 := hts (.instanceMethod yX0_init) (by decide +kernel)
  have wd16 := hts (.fieldLink RX5 28 "SolidGroups" "arranger" "LSolidGroups$Arranger;") (by decide +kernel)
  have wd17 := hts (.classLink RX5 32 RX3) (by decide +kernel)
  have wd18 := hts (.instantiable RX3 4) (by decide +kernel)
  have wd19 := hts (.initialized RX3) (by decide +kernel)
  have wd20 := hts (.instanceMethod yX3_init) (by decide +kernel)
  have wd21 := hts (.fieldLink RX5 35 "SolidGroups" "rowMaker" "LSolidGroups$RowMaker;") (by decide +kernel)
  have wd22 := hts (.fieldLink RX5 39 "SolidGroups" "packed" "Z") (by decide +kernel)
  have wd23 := hts (.fieldLink RX5 43 "SolidGroups" "packedBound" "I") (by decide +kernel)
  have hl : lv_has ls 1 [(0, va_rf (some a0))] := hl
  unfold g_X5_init at hf
  refine hw_aload_n (r := (some a0)) hx hb dX5_init_0 rfl (lv_at hl 0 rfl) ?_
  obtain ⟨b1, hv, hf⟩ := ob_s hf
  obtain ⟨e9, hk9⟩ := oK_of hv
  cases e9
  refine W.objInit hx hb S.2.2.2.1 wd0 wd1 wd2 rfl (hl.1.trans S.2.2.1.symm) rfl dX5_init_1 (by rw [hfr]; decide) (by rw [hlo]; show 2 * 0 + _ + 12 ≤ _; exact Nat.le_trans (Nat.add_le_add_right (Nat.add_le_add_left cs_0 (2 * 0)) 12) (by decide)) ?_
  refine W.eq (g2 := F0 m 4 ls []) rfl ?_
  refine hw_aload_n (r := (some a0)) hx hb dX5_init_4 rfl (lv_at hl 0 rfl) ?_
  obtain ⟨x2, s3, hv, hf⟩ := ob_p hf
  refine hw_nw (C := RJx4a65c) (T := TJx4a65c) (N := 3) S hKn hRm hD hv rfl (by decide) inJx4a65c tyJx4a65c tyJx4a65c_ok wd3 wd4 wd5 dfJx4a65c dX5_init_5 (fun H hD => ?_)
  generalize cells + 1 = cells, slots + 3 = slots at hD ⊢
  refine lv_dup hx hb dX5_init_8 (va_rf_cat _) ?_
  obtain ⟨b6, hv, hf⟩ := ob_s hf
  obtain ⟨e9, hk9⟩ := oK_of hv
  cases e9
  obtain ⟨r4, s5, hv, hf⟩ := ob_p hf
  refine hw_I (b := b6) (As := []) (rest := [va_rf ((some b6)), va_rf ((some a0))]) S hKn hRm hD (c_Jx4a65c_init_da8c8 l D G base E hv) (mo_Jx4a65c_init_da8c8 hv) gX5_init_Jx4a65c_init_da8c8 rfl 0 wd5 wd6 wd7 rfl (by decide +kernel) ⟨by rw [hfr]; decide, by rw [hlo]; decide⟩ rfl hl.1 (Nat.le_trans (cs_A (cs_A cs_0)) (by decide)) rfl dX5_init_9 (fun H locs cells slots hD => ?_)
  refine W.eq (g2 := F0 m 12 ls [va_rf ((some b6)), va_rf ((some a0))]) rfl ?_
  obtain ⟨s7, hv, hf⟩ := ob_s hf
  refine hw_prF (C := RX5) (T := TX5) (N := 8) (ref := "SolidGroups") S hKn hD hv rfl (by decide) (by decide) rfl inX5 tyX5 tyX5_ok nmX5 wd8 (fun _ h9 => h9) rfl hnm rfl (by first | rfl | (cases (some b6) <;> rfl)) (by first | rfl | (cases (some b6) <;> rfl)) dX5_init_12 (fun H locs hD => ?_)
  refine hw_aload_n (r := (some a0)) hx hb dX5_init_15 rfl (lv_at hl 0 rfl) ?_
  obtain ⟨x8, s9, hv, hf⟩ := ob_p hf
  refine hw_nw (C := RJx4a65c) (T := TJx4a65c) (N := 3) S hKn hRm hD hv rfl (by decide) inJx4a65c tyJx4a65c tyJx4a65c_ok wd3 wd4 wd5 dfJx4a65c dX5_init_16 (fun H hD => ?_)
  generalize cells + 1 = cells, slots + 3 = slots at hD ⊢
  refine lv_dup hx hb dX5_init_19 (va_rf_cat _) ?_
  obtain ⟨b12, hv, hf⟩ := ob_s hf
  obtain ⟨e9, hk9⟩ := oK_of hv
  cases e9
  obtain ⟨r10, s11, hv, hf⟩ := ob_p hf
  refine hw_I (b := b12) (As := []) (rest := [va_rf ((some b12)), va_rf ((some a0))]) S hKn hRm hD (c_Jx4a65c_init_da8c8 l D G base E hv) (mo_Jx4a65c_init_da8c8 hv) gX5_init_Jx4a65c_init_da8c8 rfl 0 wd5 wd6 wd7 rfl (by decide +kernel) ⟨by rw [hfr]; decide, by rw [hlo]; decide⟩ rfl hl.1 (Nat.le_trans (cs_A (cs_A cs_0)) (by decide)) rfl dX5_init_20 (fun H locs cells slots hD => ?_)
  refine W.eq (g2 := F0 m 23 ls [va_rf ((some b12)), va_rf ((some a0))]) rfl ?_
  obtain ⟨s13, hv, hf⟩ := ob_s hf
  refine hw_prF (C := RX5) (T := TX5) (N := 8) (ref := "SolidGroups") S hKn hD hv rfl (by decide) (by decide) rfl inX5 tyX5 tyX5_ok nmX5 wd9 (fun _ h9 => h9) rfl hnm rfl (by first | rfl | (cases (some b12) <;> rfl)) (by first | rfl | (cases (some b12) <;> rfl)) dX5_init_23 (fun H locs hD => ?_)
  refine hw_aload_n (r := (some a0)) hx hb dX5_init_26 rfl (lv_at hl 0 rfl) ?_
  obtain ⟨x14, s15, hv, hf⟩ := ob_p hf
  refine hw_nw (C := RJx4a65c) (T := TJx4a65c) (N := 3) S hKn hRm hD hv rfl (by decide) inJx4a65c tyJx4a65c tyJx4a65c_ok wd3 wd4 wd5 dfJx4a65c dX5_init_27 (fun H hD => ?_)
  generalize cells + 1 = cells, slots + 3 = slots at hD ⊢
  refine lv_dup hx hb dX5_init_30 (va_rf_cat _) ?_
  obtain ⟨b18, hv, hf⟩ := ob_s hf
  obtain ⟨e9, hk9⟩ := oK_of hv
  cases e9
  obtain ⟨r16, s17, hv, hf⟩ := ob_p hf
  refine hw_I (b := b18) (As := []) (rest := [va_rf ((some b18)), va_rf ((some a0))]) S hKn hRm hD (c_Jx4a65c_init_da8c8 l D G base E hv) (mo_Jx4a65c_init_da8c8 hv) gX5_init_Jx4a65c_init_da8c8 rfl 0 wd5 wd6 wd7 rfl (by decide +kernel) ⟨by rw [hfr]; decide, by rw [hlo]; decide⟩ rfl hl.1 (Nat.le_trans (cs_A (cs_A cs_0)) (by decide)) rfl dX5_init_31 (fun H locs cells slots hD => ?_)
  refine W.eq (g2 := F0 m 34 ls [va_rf ((some b18)), va_rf ((some a0))]) rfl ?_
  obtain ⟨s19, hv, hf⟩ := ob_s hf
  refine hw_prF (C := RX5) (T := TX5) (N := 8) (ref := "SolidGroups") S hKn hD hv rfl (by decide) (by decide) rfl inX5 tyX5 tyX5_ok nmX5 wd10 (fun _ h9 => h9) rfl hnm rfl (by first | rfl | (cases (some b18) <;> rfl)) (by first | rfl | (cases (some b18) <;> rfl)) dX5_init_34 (fun H locs hD => ?_)
  refine hw_aload_n (r := (some a0)) hx hb dX5_init_37 rfl (lv_at hl 0 rfl) ?_
  obtain ⟨x20, s21, hv, hf⟩ := ob_p hf
  refine hw_nw (C := RJx4a65c) (T := TJx4a65c) (N := 3) S hKn hRm hD hv rfl (by decide) inJx4a65c tyJx4a65c tyJx4a65c_ok wd3 wd4 wd5 dfJx4a65c dX5_init_38 (fun H hD => ?_)
  generalize cells + 1 = cells, slots + 3 = slots at hD ⊢
  refine lv_dup hx hb dX5_init_41 (va_rf_cat _) ?_
  obtain ⟨b24, hv, hf⟩ := ob_s hf
  obtain ⟨e9, hk9⟩ := oK_of hv
  cases e9
  obtain ⟨r22, s23, hv, hf⟩ := ob_p hf
  refine hw_I (b := b24) (As := []) (rest := [va_rf ((some b24)), va_rf ((some a0))]) S hKn hRm hD (c_Jx4a65c_init_da8c8 l D G base E hv) (mo_Jx4a65c_init_da8c8 hv) gX5_init_Jx4a65c_init_da8c8 rfl 0 wd5 wd6 wd7 rfl (by decide +kernel) ⟨by rw [hfr]; decide, by rw [hlo]; decide⟩ rfl hl.1 (Nat.le_trans (cs_A (cs_A cs_0)) (by decide)) rfl dX5_init_42 (fun H locs cells slots hD => ?_)
  refine W.eq (g2 := F0 m 45 ls [va_rf ((some b24)), va_rf ((some a0))]) rfl ?_
  obtain ⟨s25, hv, hf⟩ := ob_s hf
  refine hw_prF (C := RX5) (T := TX5) (N := 8) (ref := "SolidGroups") S hKn hD hv rfl (by decide) (by decide) rfl inX5 tyX5 tyX5_ok nmX5 wd11 (fun _ h9 => h9) rfl hnm rfl (by first | rfl | (cases (some b24) <;> rfl)) (by first | rfl | (cases (some b24) <;> rfl)) dX5_init_45 (fun H locs hD => ?_)
  refine hw_aload_n (r := (some a0)) hx hb dX5_init_48 rfl (lv_at hl 0 rfl) ?_
  obtain ⟨x26, s27, hv, hf⟩ := ob_p hf
  refine hw_nw (C := RX0) (T := TX0) (N := 3) S hKn hRm hD hv rfl (by decide) inX0 tyX0 tyX0_ok wd12 wd13 wd14 dfX0 dX5_init_49 (fun H hD => ?_)
  generalize cells + 1 = cells, slots + 3 = slots at hD ⊢
  refine lv_dup hx hb dX5_init_52 (va_rf_cat _) ?_
  obtain ⟨b30, hv, hf⟩ := ob_s hf
  obtain ⟨e9, hk9⟩ := oK_of hv
  cases e9
  obtain ⟨r28, s29, hv, hf⟩ := ob_p hf
  refine hw_IN (b := b30) (As := []) (rest := [va_rf ((some b30)), va_rf ((some a0))]) S hKn hRm hD (c_X0_init l D G base E hv) (mo_X0_init hv) hKn.2.2.2.2.2.1.2.1 ggX5_init_X0_init rfl 0 wd14 wd15 rfl (by decide +kernel) ⟨by rw [hfr]; decide, by rw [hlo]; decide⟩ rfl hl.1 (Nat.le_trans (cs_A (cs_A cs_0)) (by decide)) rfl dX5_init_53 (fun H locs cells slots hD => ?_)
  refine W.eq (g2 := F0 m 56 ls [va_rf ((some b30)), va_rf ((some a0))]) rfl ?_
  obtain ⟨s31, hv, hf⟩ := ob_s hf
  refine hw_prF (C := RX5) (T := TX5) (N := 8) (ref := "SolidGroups") S hKn hD hv rfl (by decide) (by decide) rfl inX5 tyX5 tyX5_ok nmX5 wd16 (fun _ h9 => h9) rfl hnm rfl (by first | rfl | (cases (some b30) <;> rfl)) (by first | rfl | (cases (some b30) <;> rfl)) dX5_init_56 (fun H locs hD => ?_)
  refine hw_aload_n (r := (some a0)) hx hb dX5_init_59 rfl (lv_at hl 0 rfl) ?_
  obtain ⟨x32, s33, hv, hf⟩ := ob_p hf
  refine hw_nw (C := RX3) (T := TX3) (N := 4) S hKn hRm hD hv rfl (by decide) inX3 tyX3 tyX3_ok wd17 wd18 wd19 dfX3 dX5_init_60 (fun H hD => ?_)
  generalize cells + 1 = cells, slots + 4 = slots at hD ⊢
  refine lv_dup hx hb dX5_init_63 (va_rf_cat _) ?_
  obtain ⟨b36, hv, hf⟩ := ob_s hf
  obtain ⟨e9, hk9⟩ := oK_of hv
  cases e9
  obtain ⟨r34, s35, hv, hf⟩ := ob_p hf
  refine hw_IN (b := b36) (As := []) (rest := [va_rf ((some b36)), va_rf ((some a0))]) S hKn hRm hD (c_X3_init l D G base E hv) (mo_X3_init hv) hKn.2.2.2.2.2.1.2.2.1 ggX5_init_X3_init rfl 0 wd19 wd20 rfl (by decide +kernel) ⟨by rw [hfr]; decide, by rw [hlo]; decide⟩ rfl hl.1 (Nat.le_trans (cs_A (cs_A cs_0)) (by decide)) rfl dX5_init_64 (fun H locs cells slots hD => ?_)
  refine W.eq (g2 := F0 m 67 ls [va_rf ((some b36)), va_rf ((some a0))]) rfl ?_
  obtain ⟨s37, hv, hf⟩ := ob_s hf
  refine hw_prF (C := RX5) (T := TX5) (N := 8) (ref := "SolidGroups") S hKn hD hv rfl (by decide) (by decide) rfl inX5 tyX5 tyX5_ok nmX5 wd21 (fun _ h9 => h9) rfl hnm rfl (by first | rfl | (cases (some b36) <;> rfl)) (by first | rfl | (cases (some b36) <;> rfl)) dX5_init_67 (fun H locs hD => ?_)
  refine hw_aload_n (r := (some a0)) hx hb dX5_init_70 rfl (lv_at hl 0 rfl) ?_
  refine lv_iconst (v := (0)) hx hb dX5_init_71 (by decide) ?_
  obtain ⟨s38, hv, hf⟩ := ob_s hf
  refine hw_pi (C := RX5) (T := TX5) (N := 8) (ref := "SolidGroups") S hKn hD hv rfl (by decide) (by decide) rfl inX5 tyX5 tyX5_ok nmX5 wd22 (fun _ h9 => h9) rfl (by first | rfl | decide) (by first | rfl | decide) dX5_init_72 (fun H locs hD => ?_)
  refine hw_aload_n (r := (some a0)) hx hb dX5_init_75 rfl (lv_at hl 0 rfl) ?_
  refine lv_iconst (v := (0)) hx hb dX5_init_76 (by decide) ?_
  obtain ⟨s39, hv, hf⟩ := ob_s hf
  refine hw_pi (C := RX5) (T := TX5) (N := 8) (ref := "SolidGroups") S hKn hD hv rfl (by decide) (by decide) rfl inX5 tyX5 tyX5_ok nmX5 wd23 (fun _ h9 => h9) rfl (by first | rfl | decide) (by first | rfl | decide) dX5_init_77 (fun H locs hD => ?_)
  obtain ⟨-, e2⟩ := ret_eq hf
  rw [hQ, ← e2]
  exact hw_vret S hlk hret hD dX5_init_80
set_option maxHeartbeats 4000000 in
set_option maxRecDepth 100000 in
theorem c_X5_isKind (l : Launch) (D : va_G) (G : GC) (base : Nat) (E : PE) {p0 : Int32} {σ0 τ : PS} {rv : Int32} (hF : f_X5_isKind E p0 σ0 = some (rv, τ)) : Ct l D G base E yX5_isKind wsX5_isKind 0 0 ([.int (p0)] : List Value) σ0 (some (.int rv)) τ := by
  obtain ⟨hf, hmo⟩ := oM_of hF
  refine Ct.of (own := RX5) [1] (by decide) rfl rfl hmo (ct_I ct_0) (by decide) ?_
  intro p e s m below meth c R Q ls H locs cells slots S hKn hRm hfr hlo hlk hret hnm hQ hD hl
  have hx := S.1
  have hb := S.2.1
  have hts := S.2.2.2.2
  have hB15 : ∀ (w0 : Int32) (σ : PS) (H : Heap) (locs : List Loc) (cells slots : Nat) (ls : Array Slot), Dy D G base E s.heap σ0 σ H locs cells slots → lv_has ls 1 [] → f_X5_isKind_B15 E w0 σ = some (rv, τ) → W p l e R s m ([.int (p0)] : List Value).toArray below meth c H locs cells slots Q (F0 m 15 ls [.int (w0)]) := by
    intro w0 σ H locs cells slots ls hD hl hf
    unfold f_X5_isKind_B15 at hf
    by_cases hz : w0 = 0 ∨ w0 = 1
    · rw [if_pos hz] at hf
      obtain ⟨e1, e2⟩ := ret_eq hf
      rw [hQ, ← e1, ← e2]
      exact hw_iret S hlk hret (nar_z hz) hD dX5_isKind_15
    · rw [if_neg hz] at hf
      cases hf
  have hB14 : ∀ (σ : PS) (H : Heap) (locs : List Loc) (cells slots : Nat) (ls : Array Slot), Dy D G base E s.heap σ0 σ H locs cells slots → lv_has ls 1 [] → f_X5_isKind_B14 E σ = some (rv, τ) → W p l e R s m ([.int (p0)] : List Value).toArray below meth c H locs cells slots Q (F0 m 14 ls []) := by
    intro σ H locs cells slots ls hD hl hf
    unfold f_X5_isKind_B14 at hf
    refine lv_iconst (v := (0)) hx hb dX5_isKind_14 (by decide) ?_
    exact hB15 (0 : Int32) _ _ _ _ _ _ hD (lv_sub hl [] rfl) hf
  have hl : lv_has ls 1 [(0, .int (p0))] := hl
  unfold g_X5_isKind at hf
  refine lv_iload_n hx hb dX5_isKind_0 rfl (lv_at hl 0 rfl) ?_
  refine lv_if_lt (tgt := 14) hx hb dX5_isKind_1 (by decide) (fun hc => ?_) (fun hc => ?_)
  · rw [if_pos hc] at hf
    exact hB14 _ _ _ _ _ _ hD (lv_sub hl [] rfl) hf
  · rw [if_neg hc] at hf
    refine lv_iload_n hx hb dX5_isKind_4 rfl (lv_at hl 0 rfl) ?_
    refine lv_bipush (v := (6)) hx hb dX5_isKind_5 (by decide) ?_
    refine lv_icmp_ge (tgt := 14) hx hb dX5_isKind_7 (by decide) (fun hc => ?_) (fun hc => ?_)
    · rw [if_pos hc] at hf
      exact hB14 _ _ _ _ _ _ hD (lv_sub hl [] rfl) hf
    · rw [if_neg hc] at hf
      refine lv_iconst (v := (1)) hx hb dX5_isKind_10 (by decide) ?_
      refine lv_goto (tgt := 15) hx hb dX5_isKind_11 (by decide) ?_
      exact hB15 (1 : Int32) _ _ _ _ _ _ hD (lv_sub hl [] rfl) hf
set_option maxHeartbeats 4000000 in
set_option maxRecDepth 100000 in
theorem c_Jx4a65c_size_8abf5 (l : Launch) (D : va_G) (G : GC) (base : Nat) (E : PE) {a0 : Nat} {σ0 τ : PS} {rv : Int32} (hF : f_Jx4a65c_size_8abf5 E (some a0) σ0 = some (rv, τ)) : Ct l D G base E yJx4a65c_size_8abf5 wsJx4a65c_size_8abf5 0 0 ([.ref a0] : List Value) σ0 (some (.int rv)) τ := by
  obtain ⟨hf, hmo⟩ := oM_of hF
  refine Ct.of (own := RJx4a65c) [1] (by decide) rfl rfl hmo (ct_R ct_0) (by decide) ?_
  intro p e s m below meth c R Q ls H locs cells slots S hKn hRm hfr hlo hlk hret hnm hQ hD hl
  have hx := S.1
  have hb := S.2.1
  have hts := S.2.2.2.2
  have inJx4a65c : ∀ w ∈ u_ws RJx4a65c TJx4a65c 3, w ∈ wsJx4a65c_size_8abf5 := by decide +kernel
  have wd0 := hts (.fieldLink RJx4a65c 48 "java/util/ArrayList" "size" "I") (by decide +kernel)
  have hl : lv_has ls 1 [(0, va_rf (some a0))] := hl
  unfold g_Jx4a65c_size_8abf5 at hf
  refine hw_aload_n (r := (some a0)) hx hb dJx4a65c_size_8abf5_0 rfl (lv_at hl 0 rfl) ?_
  obtain ⟨x1, hv, hf⟩ := ob_s hf
  refine hw_gi (C := RJx4a65c) (T := TJx4a65c) (N := 3) (ref := "java/util/ArrayList") S hKn hD hv rfl (by decide) (by decide) rfl inJx4a65c wd0 (fun _ h9 => h9) dJx4a65c_size_8abf5_1 ?_
  obtain ⟨e1, e2⟩ := ret_eq hf
  rw [hQ, ← e1, ← e2]
  exact hw_iret S hlk hret rfl hD dJx4a65c_size_8abf5_4
set_option maxHeartbeats 4000000 in
set_option maxRecDepth 100000 in
theorem c_X1_init (l : Launch) (D : va_G) (G : GC) (base : Nat) (E : PE) {a0 : Nat} {p1 : Int32} {p2 : Int32} {σ0 τ : PS} {rv : Unit} (hF : f_X1_init E (some a0) p1 p2 σ0 = some (rv, τ)) : Ct l D G base E yX1_init wsX1_init 1 60 ([.ref a0, .int (p1), .int (p2)] : List Value) σ0 none τ := by
  obtain ⟨hf, hmo⟩ := oM_of hF
  refine Ct.of (own := RX1) [1, 1, 1] (by decide) rfl rfl hmo (ct_R (ct_I (ct_I ct_0))) (by decide) ?_
  intro p e s m below meth c R Q ls H locs cells slots S hKn hRm hfr hlo hlk hret hnm hQ hD hl
  have hx := S.1
  have hb := S.2.1
  have hts := S.2.2.2.2
  have inX1 : ∀ w ∈ u_ws RX1 TX1 6, w ∈ wsX1_init := by decide +kernel
  have wd0 := hts (.methodLink RX1 3 objectInit) (by decide +kernel)
  have wd1 := hts (.instanceMethod objectInit) (by decide +kernel)
  have wd2 := hts (.code objectInit ⟨#[0xb1]⟩ 1 none) (by decide +kernel)
  have wd3 := hts (.arrayClass .int) (by decide +kernel)
  have wd4 := hts (.fieldLink RX1 9 "SolidGroups$Entry" "bytes" "[I") (by decide +kernel)
  have wd5 := hts (.fieldLink RX1 15 "SolidGroups$Entry" "marks" "[I") (by decide +kernel)
  have wd6 := hts (.fieldLink RX1 18 "SolidGroups$Entry" "length" "I") (by decide +kernel)
  have wd7 := hts (.fieldLink RX1 22 "SolidGroups$Entry" "number" "I") (by decide +kernel)
  have wd8 := hts (.fieldLink RX1 25 "SolidGroups$Entry" "kind" "I") (by decide +kernel)
  have wd9 := hts (.fieldLink RX1 28 "SolidGroups$Entry" "twinOf" "I") (by decide +kernel)
  have hl : lv_has ls 3 [(0, va_rf (some a0)), (1, .int (p1)), (2, .int (p2))] := hl
  unfold g_X1_init at hf
  refine hw_aload_n (r := (some a0)) hx hb dX1_init_0 rfl (lv_at hl 0 rfl) ?_
  obtain ⟨b1, hv, hf⟩ := ob_s hf
  obtain ⟨e9, hk9⟩ := oK_of hv
  cases e9
  refine W.objInit hx hb S.2.2.2.1 wd0 wd1 wd2 rfl (hl.1.trans S.2.2.1.symm) rfl dX1_init_1 (by rw [hfr]; decide) (by rw [hlo]; show 2 * 0 + _ + 12 ≤ _; exact Nat.le_trans (Nat.add_le_add_right (Nat.add_le_add_left cs_0 (2 * 0)) 12) (by decide)) ?_
  refine W.eq (g2 := F0 m 4 ls []) rfl ?_
  refine hw_aload_n (r := (some a0)) hx hb dX1_init_4 rfl (lv_at hl 0 rfl) ?_
  refine lv_bipush (v := (60)) hx hb dX1_init_5 (by decide) ?_
  obtain ⟨x2, s3, hv, hf⟩ := ob_p hf
  refine hw_nai S hKn hRm hD hv wd3 dX1_init_7 (fun H hD => ?_)
  generalize cells + 1 = cells, slots + Int32.toNatClampNeg (60 : Int32) = slots at hD ⊢
  obtain ⟨s4, hv, hf⟩ := ob_s hf
  refine hw_prF (C := RX1) (T := TX1) (N := 6) (ref := "SolidGroups$Entry") S hKn hD hv rfl (by decide) (by decide) rfl inX1 tyX1 tyX1_ok nmX1 wd4 (fun _ h9 => h9) rfl hnm rfl (by first | rfl | (cases x2 <;> rfl)) (by first | rfl | (cases x2 <;> rfl)) dX1_init_9 (fun H locs hD => ?_)
  refine hw_aload_n (r := (some a0)) hx hb dX1_init_12 rfl (lv_at hl 0 rfl) ?_
  refine lv_bipush (v := (32)) hx hb dX1_init_13 (by decide) ?_
  obtain ⟨x5, s6, hv, hf⟩ := ob_p hf
  refine hw_nai S hKn hRm hD hv wd3 dX1_init_15 (fun H hD => ?_)
  generalize cells + 1 = cells, slots + Int32.toNatClampNeg (32 : Int32) = slots at hD ⊢
  obtain ⟨s7, hv, hf⟩ := ob_s hf
  refine hw_prF (C := RX1) (T := TX1) (N := 6) (ref := "SolidGroups$Entry") S hKn hD hv rfl (by decide) (by decide) rfl inX1 tyX1 tyX1_ok nmX1 wd5 (fun _ h9 => h9) rfl hnm rfl (by first | rfl | (cases x5 <;> rfl)) (by first | rfl | (cases x5 <;> rfl)) dX1_init_17 (fun H locs hD => ?_)
  refine hw_aload_n (r := (some a0)) hx hb dX1_init_20 rfl (lv_at hl 0 rfl) ?_
  refine lv_iconst (v := (0)) hx hb dX1_init_21 (by decide) ?_
  obtain ⟨s8, hv, hf⟩ := ob_s hf
  refine hw_pi (C := RX1) (T := TX1) (N := 6) (ref := "SolidGroups$Entry") S hKn hD hv rfl (by decide) (by decide) rfl inX1 tyX1 tyX1_ok nmX1 wd6 (fun _ h9 => h9) rfl (by first | rfl | decide) (by first | rfl | decide) dX1_init_22 (fun H locs hD => ?_)
  refine hw_aload_n (r := (some a0)) hx hb dX1_init_25 rfl (lv_at hl 0 rfl) ?_
  refine lv_iload_n hx hb dX1_init_26 rfl (lv_at hl 1 rfl) ?_
  obtain ⟨s9, hv, hf⟩ := ob_s hf
  refine hw_piF (C := RX1) (T := TX1) (N := 6) (ref := "SolidGroups$Entry") S hKn hD hv rfl (by decide) (by decide) rfl inX1 tyX1 tyX1_ok nmX1 wd7 (fun _ h9 => h9) rfl hnm rfl (by first | rfl | decide) (by first | rfl | decide) dX1_init_27 (fun H locs hD => ?_)
  refine hw_aload_n (r := (some a0)) hx hb dX1_init_30 rfl (lv_at hl 0 rfl) ?_
  refine lv_iload_n hx hb dX1_init_31 rfl (lv_at hl 2 rfl) ?_
  obtain ⟨s10, hv, hf⟩ := ob_s hf
  refine hw_piF (C := RX1) (T := TX1) (N := 6) (ref := "SolidGroups$Entry") S hKn hD hv rfl (by decide) (by decide) rfl inX1 tyX1 tyX1_ok nmX1 wd8 (fun _ h9 => h9) rfl hnm rfl (by first | rfl | decide) (by first | rfl | decide) dX1_init_32 (fun H locs hD => ?_)
  refine hw_aload_n (r := (some a0)) hx hb dX1_init_35 rfl (lv_at hl 0 rfl) ?_
  refine lv_iload_n hx hb dX1_init_36 rfl (lv_at hl 1 rfl) ?_
  obtain ⟨s11, hv, hf⟩ := ob_s hf
  refine hw_pi (C := RX1) (T := TX1) (N := 6) (ref := "SolidGroups$Entry") S hKn hD hv rfl (by decide) (by decide) rfl inX1 tyX1 tyX1_ok nmX1 wd9 (fun _ h9 => h9) rfl (by first | rfl | decide) (by first | rfl | decide) dX1_init_37 (fun H locs hD => ?_)
  obtain ⟨-, e2⟩ := ret_eq hf
  rw [hQ, ← e2]
  exact hw_vret S hlk hret hD dX1_init_40
set_option maxHeartbeats 4000000 in
set_option maxRecDepth 100000 in
theorem c_J8_hugeLength_7cf53 (l : Launch) (D : va_G) (G : GC) (base : Nat) (E : PE) {p0 : Int32} {p1 : Int32} {σ0 τ : PS} {rv : Int32} (hF : f_J8_hugeLength_7cf53 E p0 p1 σ0 = some (rv, τ)) : Ct l D G base E yJ8_hugeLength_7cf53 wsJ8_hugeLength_7cf53 0 0 ([.int (p0), .int (p1)] : List Value) σ0 (some (.int rv)) τ := by
  obtain ⟨hf, hmo⟩ := oM_of hF
  refine Ct.of (own := RJ8) [1, 1] (by decide) rfl rfl hmo (ct_I (ct_I ct_0)) (by decide) ?_
  intro p e s m below meth c R Q ls H locs cells slots S hKn hRm hfr hlo hlk hret hnm hQ hD hl
  have hx := S.1
  have hb := S.2.1
  have hts := S.2.2.2.2
  have wd0 := hts (.constant RJ8 200 (2147483639)) (by decide +kernel)
  have hl : lv_has ls 3 [(0, .int (p0)), (1, .int (p1))] := hl
  unfold g_J8_hugeLength_7cf53 at hf
  refine lv_iload_n hx hb dJ8_hugeLength_7cf53_0 rfl (lv_at hl 0 rfl) ?_
  refine lv_iload_n hx hb dJ8_hugeLength_7cf53_1 rfl (lv_at hl 1 rfl) ?_
  refine lv_iadd hx hb dJ8_hugeLength_7cf53_2 ?_
  refine hs_istore_n (i := 2) (lv' := [(2, .int (p0 + p1)), (0, .int (p0)), (1, .int (p1))]) hx hb dJ8_hugeLength_7cf53_3 rfl hl (by decide) (st_okI (st_okI st_ok0)) rfl (fun ls hl => ?_)
  refine lv_iload_n hx hb dJ8_hugeLength_7cf53_4 rfl (lv_at hl 0 rfl) ?_
  refine lv_if_ge (tgt := 49) hx hb dJ8_hugeLength_7cf53_5 (by decide) (fun hc => ?_) (fun hc => ?_)
  · rw [if_pos hc] at hf
    refine lv_iload_n hx hb dJ8_hugeLength_7cf53_49 rfl (lv_at hl 0 rfl) ?_
    refine lv_ldc (v := (2147483639)) hx hb S.2.2.2.1 wd0 dJ8_hugeLength_7cf53_50 ?_
    refine lv_icmp_gt (tgt := 58) hx hb dJ8_hugeLength_7cf53_52 (by decide) (fun hc => ?_) (fun hc => ?_)
    · rw [if_pos hc] at hf
      refine lv_iload_n hx hb dJ8_hugeLength_7cf53_58 rfl (lv_at hl 0 rfl) ?_
      obtain ⟨e1, e2⟩ := ret_eq hf
      rw [hQ, ← e1, ← e2]
      exact hw_iret S hlk hret rfl hD dJ8_hugeLength_7cf53_59
    · rw [if_neg hc] at hf
      refine lv_ldc (v := (2147483639)) hx hb S.2.2.2.1 wd0 dJ8_hugeLength_7cf53_55 ?_
      obtain ⟨e1, e2⟩ := ret_eq hf
      rw [hQ, ← e1, ← e2]
      exact hw_iret S hlk hret rfl hD dJ8_hugeLength_7cf53_57
  · rw [if_neg hc] at hf
    cases hf
set_option maxHeartbeats 4000000 in
set_option maxRecDepth 100000 in
theorem c_J8_newLength_cabcc (l : Launch) (D : va_G) (G : GC) (base : Nat) (E : PE) {p0 : Int32} {p1 : Int32} {p2 : Int32} {σ0 τ : PS} {rv : Int32} (hF : f_J8_newLength_cabcc E p0 p1 p2 σ0 = some (rv, τ)) : Ct l D G base E yJ8_newLength_cabcc wsJ8_newLength_cabcc 1 60 ([.int (p0), .int (p1), .int (p2)] : List Value) σ0 (some (.int rv)) τ := by
  obtain ⟨hf, hmo⟩ := oM_of hF
  refine Ct.of (own := RJ8) [1, 1, 1] (by decide) rfl rfl hmo (ct_I (ct_I (ct_I ct_0))) (by decide) ?_
  intro p e s m below meth c R Q ls H locs cells slots S hKn hRm hfr hlo hlk hret hnm hQ hD hl
  have hx := S.1
  have hb := S.2.1
  have hts := S.2.2.2.2
  have wd0 := hts (.methodLink RJ8 194 Lib.Math.max.name) (by decide +kernel)
  have wd1 := hts (.static Lib.Math.max.name) (by decide +kernel)
  have wd2 := hts (.initialized "java/lang/Math") (by decide +kernel)
  have wd3 := hts (.code Lib.Math.max.name Lib.Math.max.code 2 (some .int)) (by decide +kernel)
  have wd4 := hts (.constant RJ8 200 (2147483639)) (by decide +kernel)
  have hB21 : ∀ (v0 : Int32) (v1 : Int32) (σ : PS) (H : Heap) (locs : List Loc) (cells slots : Nat) (ls : Array Slot), Dy D G base E s.heap σ0 σ H locs cells slots → lv_has ls 4 [(0, .int (v0)), (1, .int (v1))] → f_J8_newLength_cabcc_B21 E v0 v1 σ = some (rv, τ) → W p l e R s m ([.int (p0), .int (p1), .int (p2)] : List Value).toArray below meth c H locs cells slots Q (F0 m 21 ls []) := by
    intro v0 v1 σ H locs cells slots ls hD hl hf
    unfold f_J8_newLength_cabcc_B21 at hf
    refine lv_iload_n hx hb dJ8_newLength_cabcc_21 rfl (lv_at hl 0 rfl) ?_
    refine lv_iload_n hx hb dJ8_newLength_cabcc_22 rfl (lv_at hl 1 rfl) ?_
    obtain ⟨r1, s2, hv, hf⟩ := ob_p hf
    refine hw_S (As := [.int (v0), .int (v1)]) (rest := []) S hKn hRm hD (c_J8_hugeLength_7cf53 l D G base E hv) (mo_J8_hugeLength_7cf53 hv) gJ8_newLength_cabcc_J8_hugeLength_7cf53 rfl 2 (by decide +kernel) ⟨by rw [hfr]; decide, by rw [hlo]; decide⟩ rfl hl.1 (Nat.le_trans cs_0 (by decide)) rfl dJ8_newLength_cabcc_23 (fun H locs cells slots hD => ?_)
    refine W.eq (g2 := F0 m 26 ls [.int (r1)]) rfl ?_
    obtain ⟨e1, e2⟩ := ret_eq hf
    rw [hQ, ← e1, ← e2]
    exact hw_iret S hlk hret rfl hD dJ8_newLength_cabcc_26
  have hl : lv_has ls 4 [(0, .int (p0)), (1, .int (p1)), (2, .int (p2))] := hl
  unfold g_J8_newLength_cabcc at hf
  refine lv_iload_n hx hb dJ8_newLength_cabcc_0 rfl (lv_at hl 0 rfl) ?_
  refine lv_iload_n hx hb dJ8_newLength_cabcc_1 rfl (lv_at hl 1 rfl) ?_
  refine lv_iload_n hx hb dJ8_newLength_cabcc_2 rfl (lv_at hl 2 rfl) ?_
  refine va_mmax hx hb (S.2.2.1.trans hl.1.symm) S.2.2.2.1 wd0 wd1 wd2 wd3 (by rw [hfr]; decide) (by rw [hlo]; exact Nat.le_trans (Nat.add_le_add_right (cs_I cs_0) 13) (by decide)) (by have := hw_room hRm hD; omega) (by have := hw_room hRm hD; omega) dJ8_newLength_cabcc_3 ?_
  refine lv_iadd hx hb dJ8_newLength_cabcc_6 ?_
  refine hs_istore_n (i := 3) (lv' := [(3, .int (p0 + (if p1 < p2 then p2 else p1))), (0, .int (p0)), (1, .int (p1)), (2, .int (p2))]) hx hb dJ8_newLength_cabcc_7 rfl hl (by decide) (st_okI (st_okI (st_okI st_ok0))) rfl (fun ls hl => ?_)
  refine lv_iconst (v := (0)) hx hb dJ8_newLength_cabcc_8 (by decide) ?_
  refine lv_iload_n hx hb dJ8_newLength_cabcc_9 rfl (lv_at hl 0 rfl) ?_
  refine lv_icmp_ge (tgt := 21) hx hb dJ8_newLength_cabcc_10 (by decide) (fun hc => ?_) (fun hc => ?_)
  · rw [if_pos hc] at hf
    exact hB21 p0 p1 _ _ _ _ _ _ hD (lv_sub hl [1, 2] rfl) hf
  · rw [if_neg hc] at hf
    refine lv_iload_n hx hb dJ8_newLength_cabcc_13 rfl (lv_at hl 0 rfl) ?_
    refine lv_ldc (v := (2147483639)) hx hb S.2.2.2.1 wd4 dJ8_newLength_cabcc_14 ?_
    refine lv_icmp_gt (tgt := 21) hx hb dJ8_newLength_cabcc_16 (by decide) (fun hc => ?_) (fun hc => ?_)
    · rw [if_pos hc] at hf
      exact hB21 p0 p1 _ _ _ _ _ _ hD (lv_sub hl [1, 2] rfl) hf
    · rw [if_neg hc] at hf
      refine lv_iload_n hx hb dJ8_newLength_cabcc_19 rfl (lv_at hl 0 rfl) ?_
      obtain ⟨e1, e2⟩ := ret_eq hf
      rw [hQ, ← e1, ← e2]
      exact hw_iret S hlk hret rfl hD dJ8_newLength_cabcc_20
set_option maxHeartbeats 4000000 in
set_option maxRecDepth 100000 in
theorem c_J7_copyOf_6403c (l : Launch) (D : va_G) (G : GC) (base : Nat) (E : PE) {p0 : Option Nat} {p1 : Int32} {p2 : Option Nat} {σ0 τ : PS} {rv : Option Nat} (hF : f_J7_copyOf_6403c E p0 p1 p2 σ0 = some (rv, τ)) : Ct l D G base E yJ7_copyOf_6403c wsJ7_copyOf_6403c 1 60 ([va_rf (p0), .int (p1), va_rf (p2)] : List Value) σ0 (some (va_rf rv)) τ := by
  obtain ⟨hf, hmo⟩ := oM_of hF
  refine Ct.of (own := RJ7) [1, 1, 1] (by decide) rfl rfl hmo (ct_A (ct_I (ct_A ct_0))) (by decide) ?_
  intro p e s m below meth c R Q ls H locs cells slots S hKn hRm hfr hlo hlk hret hnm hQ hD hl
  have hx := S.1
  have hb := S.2.1
  have hts := S.2.2.2.2
  have wd0 := hts (.classLink RJ7 110 "[Ljava/lang/Object;") (by decide +kernel)
  have wd1 := hts (.classLink RJ7 2 "java/lang/Object") (by decide +kernel)
  have wd2 := hts (.methodLink RJ7 304 Lib.Math.min.name) (by decide +kernel)
  have wd3 := hts (.static Lib.Math.min.name) (by decide +kernel)
  have wd4 := hts (.initialized "java/lang/Math") (by decide +kernel)
  have wd5 := hts (.code Lib.Math.min.name Lib.Math.min.code 2 (some .int)) (by decide +kernel)
  have wd6 := hts (.methodLink RJ7 150 arraycopyName) (by decide +kernel)
  have wd7 := hts (.native arraycopyName) (by decide +kernel)
  have wd8 := hts (.static arraycopyName) (by decide +kernel)
  have wd9 := hts (.initialized "java/lang/System") (by decide +kernel)
  have hB24 : ∀ (v0 : Option Nat) (v1 : Int32) (w0 : Option Nat) (σ : PS) (H : Heap) (locs : List Loc) (cells slots : Nat) (ls : Array Slot), Dy D G base E s.heap σ0 σ H locs cells slots → lv_has ls 4 [(0, va_rf (v0)), (1, .int (v1))] → f_J7_copyOf_6403c_B24 E v0 v1 w0 σ = some (rv, τ) → W p l e R s m ([va_rf (p0), .int (p1), va_rf (p2)] : List Value).toArray below meth c H locs cells slots Q (F0 m 24 ls [va_rf (w0)]) := by
    intro v0 v1 w0 σ H locs cells slots ls hD hl hf
    unfold f_J7_copyOf_6403c_B24 at hf
    refine hs_astore_n (i := 3) (lv' := [(3, va_rf (w0)), (0, va_rf (v0)), (1, .int (v1))]) hx hb dJ7_copyOf_6403c_24 rfl hl (by decide) (st_okR (st_okI st_ok0)) rfl (fun ls hl => ?_)
    refine hw_aload_n (r := v0) hx hb dJ7_copyOf_6403c_25 rfl (lv_at hl 1 rfl) ?_
    refine lv_iconst (v := (0)) hx hb dJ7_copyOf_6403c_26 (by decide) ?_
    refine hw_aload_n (r := w0) hx hb dJ7_copyOf_6403c_27 rfl (lv_at hl 0 rfl) ?_
    refine lv_iconst (v := (0)) hx hb dJ7_copyOf_6403c_28 (by decide) ?_
    refine hw_aload_n (r := v0) hx hb dJ7_copyOf_6403c_29 rfl (lv_at hl 1 rfl) ?_
    obtain ⟨x3, hv, hf⟩ := ob_s hf
    refine hw_ln S hKn hD hv dJ7_copyOf_6403c_30 ?_
    refine lv_iload_n hx hb dJ7_copyOf_6403c_31 rfl (lv_at hl 2 rfl) ?_
    refine va_mmin hx hb (S.2.2.1.trans hl.1.symm) S.2.2.2.1 wd2 wd3 wd4 wd5 (by rw [hfr]; decide) (by rw [hlo]; exact Nat.le_trans (Nat.add_le_add_right (cs_I (cs_A (cs_I (cs_A cs_0)))) 13) (by decide)) (by have := hw_room hRm hD; omega) (by have := hw_room hRm hD; omega) dJ7_copyOf_6403c_32 ?_
    obtain ⟨s4, hv, hf⟩ := ob_s hf
    refine hw_cp S hl.1 hKn hD hv wd6 wd7 wd8 wd9 (by rw [hfr]; decide) (by rw [hlo]; exact Nat.le_trans (Nat.add_le_add_right cs_0 _) (by decide)) dJ7_copyOf_6403c_35 (fun H locs hD => ?_)
    refine hw_aload_n (r := w0) hx hb dJ7_copyOf_6403c_38 rfl (lv_at hl 0 rfl) ?_
    obtain ⟨e1, e2⟩ := ret_eq hf
    rw [hQ, ← e1, ← e2]
    exact hw_aret S hlk hret (Or.inr ⟨_, rfl⟩) hD dJ7_copyOf_6403c_39
  have hl : lv_has ls 4 [(0, va_rf (p0)), (1, .int (p1)), (2, va_rf (p2))] := hl
  unfold g_J7_copyOf_6403c at hf
  refine hw_aload_n (r := p2) hx hb dJ7_copyOf_6403c_0 rfl (lv_at hl 2 rfl) ?_
  refine hw_mi S hKn wd0 dJ7_copyOf_6403c_1 ?_
  refine lv_acmp_ne (tgt := 13) hx hb dJ7_copyOf_6403c_3 (by decide) (fun hc => ?_) (fun hc => ?_)
  · rw [if_neg hc] at hf
    refine hw_aload_n (r := p2) hx hb dJ7_copyOf_6403c_13 rfl (lv_at hl 2 rfl) ?_
    cases hf
  · rw [if_pos hc] at hf
    refine lv_iload_n hx hb dJ7_copyOf_6403c_6 rfl (lv_at hl 1 rfl) ?_
    obtain ⟨x1, s2, hv, hf⟩ := ob_p hf
    refine hw_naq S hKn hRm hD hv wd1 dJ7_copyOf_6403c_7 (fun H hD => ?_)
    generalize cells + 1 = cells, slots + Int32.toNatClampNeg p1 = slots at hD ⊢
    refine lv_goto (tgt := 24) hx hb dJ7_copyOf_6403c_10 (by decide) ?_
    exact hB24 p0 p1 x1 _ _ _ _ _ _ hD (lv_sub hl [0, 1] rfl) hf
set_option maxHeartbeats 4000000 in
set_option maxRecDepth 100000 in
theorem c_J7_copyOf_1904c (l : Launch) (D : va_G) (G : GC) (base : Nat) (E : PE) {p0 : Option Nat} {p1 : Int32} {σ0 τ : PS} {rv : Option Nat} (hF : f_J7_copyOf_1904c E p0 p1 σ0 = some (rv, τ)) : Ct l D G base E yJ7_copyOf_1904c wsJ7_copyOf_1904c 2 83 ([va_rf (p0), .int (p1)] : List Value) σ0 (some (va_rf rv)) τ := by
  obtain ⟨hf, hmo⟩ := oM_of hF
  refine Ct.of (own := RJ7) [1, 1] (by decide) rfl rfl hmo (ct_A (ct_I ct_0)) (by decide) ?_
  intro p e s m below meth c R Q ls H locs cells slots S hKn hRm hfr hlo hlk hret hnm hQ hD hl
  have hx := S.1
  have hb := S.2.1
  have hts := S.2.2.2.2
  have wd0 := hts (.methodLink RJ7 86 ⟨"java/lang/Object", "getClass", "()Ljava/lang/Class;"⟩) (by decide +kernel)
  have wd1 := hts (.selects "[Ljava/lang/Object;" ⟨"java/lang/Object", "getClass", "()Ljava/lang/Class;"⟩ ⟨"java/lang/Object", "getClass", "()Ljava/lang/Class;"⟩) (by decide +kernel)
  have wd2 := hts (.instanceMethod ⟨"java/lang/Object", "getClass", "()Ljava/lang/Class;"⟩) (by decide +kernel)
  have wd3 := hts (.native ⟨"java/lang/Object", "getClass", "()Ljava/lang/Class;"⟩) (by decide +kernel)
  have hl : lv_has ls 2 [(0, va_rf (p0)), (1, .int (p1))] := hl
  unfold g_J7_copyOf_1904c at hf
  refine hw_aload_n (r := p0) hx hb dJ7_copyOf_1904c_0 rfl (lv_at hl 0 rfl) ?_
  refine lv_iload_n hx hb dJ7_copyOf_1904c_1 rfl (lv_at hl 1 rfl) ?_
  refine hw_aload_n (r := p0) hx hb dJ7_copyOf_1904c_2 rfl (lv_at hl 0 rfl) ?_
  obtain ⟨x1, hv, hf⟩ := ob_s hf
  refine hw_gc S hl.1 hKn hD hv wd0 wd1 wd2 wd3 (by rw [hfr]; decide) (by rw [hlo]; exact Nat.le_trans (Nat.add_le_add_right (cs_I (cs_A cs_0)) 14) (by decide)) dJ7_copyOf_1904c_3 ?_
  obtain ⟨r2, s3, hv, hf⟩ := ob_p hf
  refine hw_S (As := [va_rf (p0), .int (p1), va_rf (x1)]) (rest := []) S hKn hRm hD (c_J7_copyOf_6403c l D G base E hv) (mo_J7_copyOf_6403c hv) gJ7_copyOf_1904c_J7_copyOf_6403c rfl 3 (by decide +kernel) ⟨by rw [hfr]; decide, by rw [hlo]; decide⟩ rfl hl.1 (Nat.le_trans cs_0 (by decide)) rfl dJ7_copyOf_1904c_6 (fun H locs cells slots hD => ?_)
  refine W.eq (g2 := F0 m 9 ls [va_rf (r2)]) rfl ?_
  obtain ⟨e1, e2⟩ := ret_eq hf
  rw [hQ, ← e1, ← e2]
  exact hw_aret S hlk hret (Or.inr ⟨_, rfl⟩) hD dJ7_copyOf_1904c_9
set_option maxHeartbeats 4000000 in
set_option maxRecDepth 100000 in
theorem c_Jx4a65c_grow_92f84 (l : Launch) (D : va_G) (G : GC) (base : Nat) (E : PE) {a0 : Nat} {p1 : Int32} {σ0 τ : PS} {rv : Option Nat} (hF : f_Jx4a65c_grow_92f84 E (some a0) p1 σ0 = some (rv, τ)) : Ct l D G base E yJx4a65c_grow_92f84 wsJx4a65c_grow_92f84 3 104 ([.ref a0, .int (p1)] : List Value) σ0 (some (va_rf rv)) τ := by
  obtain ⟨hf, hmo⟩ := oM_of hF
  refine Ct.of (own := RJx4a65c) [1, 1] (by decide) rfl rfl hmo (ct_R (ct_I ct_0)) (by decide) ?_
  intro p e s m below meth c R Q ls H locs cells slots S hKn hRm hfr hlo hlk hret hnm hQ hD hl
  have hx := S.1
  have hb := S.2.1
  have hts := S.2.2.2.2
  have inJx4a65c : ∀ w ∈ u_ws RJx4a65c TJx4a65c 3, w ∈ wsJx4a65c_grow_92f84 := by decide +kernel
  have wd0 := hts (.fieldLink RJx4a65c 9 "java/util/ArrayList" "elementData" "[Ljava/lang/Object;") (by decide +kernel)
  have wd1 := hts (.fieldLink RJx4a65c 39 "java/util/ArrayList" "DEFAULTCAPACITY_EMPTY_ELEMENTDATA" "[Ljava/lang/Object;") (by decide +kernel)
  have wd2 := hts (.methodLink RJx4a65c 79 Lib.Math.max.name) (by decide +kernel)
  have wd3 := hts (.static Lib.Math.max.name) (by decide +kernel)
  have wd4 := hts (.initialized "java/lang/Math") (by decide +kernel)
  have wd5 := hts (.code Lib.Math.max.name Lib.Math.max.code 2 (some .int)) (by decide +kernel)
  have wd6 := hts (.classLink RJx4a65c 7 "java/lang/Object") (by decide +kernel)
  have hB20 : ∀ (v0 : Option Nat) (v1 : Int32) (v2 : Int32) (σ : PS) (H : Heap) (locs : List Loc) (cells slots : Nat) (ls : Array Slot), Dy D G base E s.heap σ0 σ H locs cells slots → lv_has ls 4 [(0, va_rf (v0)), (1, .int (v1)), (2, .int (v2))] → f_Jx4a65c_grow_92f84_B20 E v0 v1 v2 σ = some (rv, τ) → W p l e R s m ([.ref a0, .int (p1)] : List Value).toArray below meth c H locs cells slots Q (F0 m 20 ls []) := by
    intro v0 v1 v2 σ H locs cells slots ls hD hl hf
    unfold f_Jx4a65c_grow_92f84_B20 at hf
    refine lv_iload_n hx hb dJx4a65c_grow_92f84_20 rfl (lv_at hl 2 rfl) ?_
    refine lv_iload_n hx hb dJx4a65c_grow_92f84_21 rfl (lv_at hl 1 rfl) ?_
    refine lv_iload_n hx hb dJx4a65c_grow_92f84_22 rfl (lv_at hl 2 rfl) ?_
    refine lv_isub hx hb dJx4a65c_grow_92f84_23 ?_
    refine lv_iload_n hx hb dJx4a65c_grow_92f84_24 rfl (lv_at hl 2 rfl) ?_
    refine lv_iconst (v := (1)) hx hb dJx4a65c_grow_92f84_25 (by decide) ?_
    refine lv_ishr hx hb dJx4a65c_grow_92f84_26 ?_
    obtain ⟨r7, s8, hv, hf⟩ := ob_p hf
    refine hw_S (As := [.int (v2), .int (v1 - v2), .int (v2 >>> ((1 : Int32) &&& 31))]) (rest := []) S hKn hRm hD (c_J8_newLength_cabcc l D G base E hv) (mo_J8_newLength_cabcc hv) gJx4a65c_grow_92f84_J8_newLength_cabcc rfl 3 (by decide +kernel) ⟨by rw [hfr]; decide, by rw [hlo]; decide⟩ rfl hl.1 (Nat.le_trans cs_0 (by decide)) rfl dJx4a65c_grow_92f84_27 (fun H locs cells slots hD => ?_)
    refine W.eq (g2 := F0 m 30 ls [.int (r7)]) rfl ?_
    refine hs_istore_n (i := 3) (lv' := [(3, .int (r7)), (0, va_rf (v0)), (1, .int (v1)), (2, .int (v2))]) hx hb dJx4a65c_grow_92f84_30 rfl hl (by decide) (st_okR (st_okI (st_okI st_ok0))) rfl (fun ls hl => ?_)
    refine hw_aload_n (r := v0) hx hb dJx4a65c_grow_92f84_31 rfl (lv_at hl 1 rfl) ?_
    refine hw_aload_n (r := v0) hx hb dJx4a65c_grow_92f84_32 rfl (lv_at hl 1 rfl) ?_
    obtain ⟨x9, hv, hf⟩ := ob_s hf
    refine hw_gr (C := RJx4a65c) (T := TJx4a65c) (N := 3) (ref := "java/util/ArrayList") S hKn hD hv rfl (by decide) (by decide) rfl inJx4a65c wd0 (fun _ h9 => h9) dJx4a65c_grow_92f84_33 ?_
    refine lv_iload_n hx hb dJx4a65c_grow_92f84_36 rfl (lv_at hl 0 rfl) ?_
    obtain ⟨r10, s11, hv, hf⟩ := ob_p hf
    refine hw_S (As := [va_rf (x9), .int (r7)]) (rest := [va_rf (v0)]) S hKn hRm hD (c_J7_copyOf_1904c l D G base E hv) (mo_J7_copyOf_1904c hv) gJx4a65c_grow_92f84_J7_copyOf_1904c rfl 2 (by decide +kernel) ⟨by rw [hfr]; decide, by rw [hlo]; decide⟩ rfl hl.1 (Nat.le_trans (cs_A cs_0) (by decide)) rfl dJx4a65c_grow_92f84_37 (fun H locs cells slots hD => ?_)
    refine W.eq (g2 := F0 m 40 ls [va_rf (r10), va_rf (v0)]) rfl ?_
    refine lv_dup_x1 hx hb dJx4a65c_grow_92f84_40 (va_rf_cat _) (va_rf_cat _) ?_
    obtain ⟨s12, hv, hf⟩ := ob_s hf
    refine hw_pr (C := RJx4a65c) (T := TJx4a65c) (N := 3) (ref := "java/util/ArrayList") S hKn hD hv rfl (by decide) (by decide) rfl inJx4a65c tyJx4a65c tyJx4a65c_ok nmJx4a65c wd0 (fun _ h9 => h9) rfl (by first | rfl | (cases r10 <;> rfl)) (by first | rfl | (cases r10 <;> rfl)) dJx4a65c_grow_92f84_41 (fun H locs hD => ?_)
    obtain ⟨e1, e2⟩ := ret_eq hf
    rw [hQ, ← e1, ← e2]
    exact hw_aret S hlk hret (Or.inr ⟨_, rfl⟩) hD dJx4a65c_grow_92f84_44
  have hl : lv_has ls 4 [(0, va_rf (some a0)), (1, .int (p1))] := hl
  unfold g_Jx4a65c_grow_92f84 at hf
  refine hw_aload_n (r := (some a0)) hx hb dJx4a65c_grow_92f84_0 rfl (lv_at hl 0 rfl) ?_
  obtain ⟨x1, hv, hf⟩ := ob_s hf
  refine hw_gr (C := RJx4a65c) (T := TJx4a65c) (N := 3) (ref := "java/util/ArrayList") S hKn hD hv rfl (by decide) (by decide) rfl inJx4a65c wd0 (fun _ h9 => h9) dJx4a65c_grow_92f84_1 ?_
  obtain ⟨x2, hv, hf⟩ := ob_s hf
  refine hw_ln S hKn hD hv dJx4a65c_grow_92f84_4 ?_
  refine hs_istore_n (i := 2) (lv' := [(2, .int (x2)), (0, va_rf ((some a0))), (1, .int (p1))]) hx hb dJx4a65c_grow_92f84_5 rfl hl (by decide) (st_okR (st_okI st_ok0)) rfl (fun ls hl => ?_)
  refine lv_iload_n hx hb dJx4a65c_grow_92f84_6 rfl (lv_at hl 0 rfl) ?_
  refine lv_if_gt (tgt := 20) hx hb dJx4a65c_grow_92f84_7 (by decide) (fun hc => ?_) (fun hc => ?_)
  · rw [if_pos hc] at hf
    exact hB20 (some a0) p1 x2 _ _ _ _ _ _ hD (lv_sub hl [1, 2, 0] rfl) hf
  · rw [if_neg hc] at hf
    refine hw_aload_n (r := (some a0)) hx hb dJx4a65c_grow_92f84_10 rfl (lv_at hl 1 rfl) ?_
    obtain ⟨x3, hv, hf⟩ := ob_s hf
    refine hw_gr (C := RJx4a65c) (T := TJx4a65c) (N := 3) (ref := "java/util/ArrayList") S hKn hD hv rfl (by decide) (by decide) rfl inJx4a65c wd0 (fun _ h9 => h9) dJx4a65c_grow_92f84_11 ?_
    refine hw_df S hKn hD wd1 dJx4a65c_grow_92f84_14 ?_
    refine lv_acmp_eq (tgt := 45) hx hb dJx4a65c_grow_92f84_17 (by decide) (fun hc => ?_) (fun hc => ?_)
    · rw [if_pos hc] at hf
      refine hw_aload_n (r := (some a0)) hx hb dJx4a65c_grow_92f84_45 rfl (lv_at hl 1 rfl) ?_
      refine lv_bipush (v := (10)) hx hb dJx4a65c_grow_92f84_46 (by decide) ?_
      refine lv_iload_n hx hb dJx4a65c_grow_92f84_48 rfl (lv_at hl 2 rfl) ?_
      refine va_mmax hx hb (S.2.2.1.trans hl.1.symm) S.2.2.2.1 wd2 wd3 wd4 wd5 (by rw [hfr]; decide) (by rw [hlo]; exact Nat.le_trans (Nat.add_le_add_right (cs_A cs_0) 13) (by decide)) (by have := hw_room hRm hD; omega) (by have := hw_room hRm hD; omega) dJx4a65c_grow_92f84_49 ?_
      obtain ⟨x4, s5, hv, hf⟩ := ob_p hf
      refine hw_naq S hKn hRm hD hv wd6 dJx4a65c_grow_92f84_52 (fun H hD => ?_)
      generalize cells + 1 = cells, slots + Int32.toNatClampNeg (if (10 : Int32) < p1 then p1 else (10 : Int32)) = slots at hD ⊢
      refine lv_dup_x1 hx hb dJx4a65c_grow_92f84_55 (va_rf_cat _) (va_rf_cat _) ?_
      obtain ⟨s6, hv, hf⟩ := ob_s hf
      refine hw_pr (C := RJx4a65c) (T := TJx4a65c) (N := 3) (ref := "java/util/ArrayList") S hKn hD hv rfl (by decide) (by decide) rfl inJx4a65c tyJx4a65c tyJx4a65c_ok nmJx4a65c wd0 (fun _ h9 => h9) rfl (by first | rfl | (cases x4 <;> rfl)) (by first | rfl | (cases x4 <;> rfl)) dJx4a65c_grow_92f84_56 (fun H locs hD => ?_)
      obtain ⟨e1, e2⟩ := ret_eq hf
      rw [hQ, ← e1, ← e2]
      exact hw_aret S hlk hret (Or.inr ⟨_, rfl⟩) hD dJx4a65c_grow_92f84_59
    · rw [if_neg hc] at hf
      exact hB20 (some a0) p1 x2 _ _ _ _ _ _ hD (lv_sub hl [1, 2, 0] rfl) hf
set_option maxHeartbeats 4000000 in
set_option maxRecDepth 100000 in
theorem c_Jx4a65c_grow_d5877 (l : Launch) (D : va_G) (G : GC) (base : Nat) (E : PE) {a0 : Nat} {σ0 τ : PS} {rv : Option Nat} (hF : f_Jx4a65c_grow_d5877 E (some a0) σ0 = some (rv, τ)) : Ct l D G base E yJx4a65c_grow_d5877 wsJx4a65c_grow_d5877 4 127 ([.ref a0] : List Value) σ0 (some (va_rf rv)) τ := by
  obtain ⟨hf, hmo⟩ := oM_of hF
  refine Ct.of (own := RJx4a65c) [1] (by decide) rfl rfl hmo (ct_R ct_0) (by decide) ?_
  intro p e s m below meth c R Q ls H locs cells slots S hKn hRm hfr hlo hlk hret hnm hQ hD hl
  have hx := S.1
  have hb := S.2.1
  have hts := S.2.2.2.2
  have inJx4a65c : ∀ w ∈ u_ws RJx4a65c TJx4a65c 3, w ∈ wsJx4a65c_grow_d5877 := by decide +kernel
  have wd0 := hts (.fieldLink RJx4a65c 48 "java/util/ArrayList" "size" "I") (by decide +kernel)
  have hl : lv_has ls 1 [(0, va_rf (some a0))] := hl
  unfold g_Jx4a65c_grow_d5877 at hf
  refine hw_aload_n (r := (some a0)) hx hb dJx4a65c_grow_d5877_0 rfl (lv_at hl 0 rfl) ?_
  refine hw_aload_n (r := (some a0)) hx hb dJx4a65c_grow_d5877_1 rfl (lv_at hl 0 rfl) ?_
  obtain ⟨x1, hv, hf⟩ := ob_s hf
  refine hw_gi (C := RJx4a65c) (T := TJx4a65c) (N := 3) (ref := "java/util/ArrayList") S hKn hD hv rfl (by decide) (by decide) rfl inJx4a65c wd0 (fun _ h9 => h9) dJx4a65c_grow_d5877_2 ?_
  refine lv_iconst (v := (1)) hx hb dJx4a65c_grow_d5877_5 (by decide) ?_
  refine lv_iadd hx hb dJx4a65c_grow_d5877_6 ?_
  obtain ⟨b4, hv, hf⟩ := ob_s hf
  obtain ⟨e9, hk9⟩ := oK_of hv
  cases e9
  obtain ⟨r2, s3, hv, hf⟩ := ob_p hf
  refine hw_V (b := a0) (ci := 0) (T := TJx4a65c) (N := 3) (As := [.int (x1 + (1 : Int32))]) (rest := []) S hKn hRm hD (c_Jx4a65c_grow_92f84 l D G base E hv) (mo_Jx4a65c_grow_92f84 hv) hk9 rfl (by decide) gJx4a65c_grow_d5877_Jx4a65c_grow_92f84 rfl 1 (by decide +kernel) ⟨by rw [hfr]; decide, by rw [hlo]; decide⟩ rfl hl.1 (Nat.le_trans cs_0 (by decide)) rfl dJx4a65c_grow_d5877_7 (fun H locs cells slots hD => ?_)
  refine W.eq (g2 := F0 m 10 ls [va_rf (r2)]) rfl ?_
  obtain ⟨e1, e2⟩ := ret_eq hf
  rw [hQ, ← e1, ← e2]
  exact hw_aret S hlk hret (Or.inr ⟨_, rfl⟩) hD dJx4a65c_grow_d5877_10
set_option maxHeartbeats 4000000 in
set_option maxRecDepth 100000 in
theorem c_Jx4a65c_add_72be8 (l : Launch) (D : va_G) (G : GC) (base : Nat) (E : PE) {a0 : Nat} {p1 : Option Nat} {p2 : Option Nat} {p3 : Int32} {σ0 τ : PS} {rv : Unit} (hF : f_Jx4a65c_add_72be8 E (some a0) p1 p2 p3 σ0 = some (rv, τ)) : Ct l D G base E yJx4a65c_add_72be8 wsJx4a65c_add_72be8 5 147 ([.ref a0, va_rf (p1), va_rf (p2), .int (p3)] : List Value) σ0 none τ := by
  obtain ⟨hf, hmo⟩ := oM_of hF
  refine Ct.of (own := RJx4a65c) [1, 1, 1, 1] (by decide) rfl rfl hmo (ct_R (ct_A (ct_A (ct_I ct_0)))) (by decide) ?_
  intro p e s m below meth c R Q ls H locs cells slots S hKn hRm hfr hlo hlk hret hnm hQ hD hl
  have hx := S.1
  have hb := S.2.1
  have hts := S.2.2.2.2
  have inJx4a65c : ∀ w ∈ u_ws RJx4a65c TJx4a65c 3, w ∈ wsJx4a65c_add_72be8 := by decide +kernel
  have wd0 := hts (.fieldLink RJx4a65c 48 "java/util/ArrayList" "size" "I") (by decide +kernel)
  have hB11 : ∀ (v0 : Option Nat) (v1 : Option Nat) (v2 : Option Nat) (v3 : Int32) (σ : PS) (H : Heap) (locs : List Loc) (cells slots : Nat) (ls : Array Slot), Dy D G base E s.heap σ0 σ H locs cells slots → lv_has ls 4 [(0, va_rf (v0)), (1, va_rf (v1)), (2, va_rf (v2)), (3, .int (v3))] → f_Jx4a65c_add_72be8_B11 E v0 v1 v2 v3 σ = some (rv, τ) → W p l e R s m ([.ref a0, va_rf (p1), va_rf (p2), .int (p3)] : List Value).toArray below meth c H locs cells slots Q (F0 m 11 ls []) := by
    intro v0 v1 v2 v3 σ H locs cells slots ls hD hl hf
    unfold f_Jx4a65c_add_72be8_B11 at hf
    refine hw_aload_n (r := v2) hx hb dJx4a65c_add_72be8_11 rfl (lv_at hl 2 rfl) ?_
    refine lv_iload_n hx hb dJx4a65c_add_72be8_12 rfl (lv_at hl 3 rfl) ?_
    refine hw_aload_n (r := v1) hx hb dJx4a65c_add_72be8_13 rfl (lv_at hl 1 rfl) ?_
    obtain ⟨s5, hv, hf⟩ := ob_s hf
    refine hw_qs S hKn hD hv dJx4a65c_add_72be8_14 (fun H locs hD => ?_)
    refine hw_aload_n (r := v0) hx hb dJx4a65c_add_72be8_15 rfl (lv_at hl 0 rfl) ?_
    refine lv_iload_n hx hb dJx4a65c_add_72be8_16 rfl (lv_at hl 3 rfl) ?_
    refine lv_iconst (v := (1)) hx hb dJx4a65c_add_72be8_17 (by decide) ?_
    refine lv_iadd hx hb dJx4a65c_add_72be8_18 ?_
    obtain ⟨s6, hv, hf⟩ := ob_s hf
    refine hw_pi (C := RJx4a65c) (T := TJx4a65c) (N := 3) (ref := "java/util/ArrayList") S hKn hD hv rfl (by decide) (by decide) rfl inJx4a65c tyJx4a65c tyJx4a65c_ok nmJx4a65c wd0 (fun _ h9 => h9) rfl (by first | rfl | decide) (by first | rfl | decide) dJx4a65c_add_72be8_19 (fun H locs hD => ?_)
    obtain ⟨-, e2⟩ := ret_eq hf
    rw [hQ, ← e2]
    exact hw_vret S hlk hret hD dJx4a65c_add_72be8_22
  have hl : lv_has ls 4 [(0, va_rf (some a0)), (1, va_rf (p1)), (2, va_rf (p2)), (3, .int (p3))] := hl
  unfold g_Jx4a65c_add_72be8 at hf
  refine lv_iload_n hx hb dJx4a65c_add_72be8_0 rfl (lv_at hl 3 rfl) ?_
  refine hw_aload_n (r := p2) hx hb dJx4a65c_add_72be8_1 rfl (lv_at hl 2 rfl) ?_
  obtain ⟨x1, hv, hf⟩ := ob_s hf
  refine hw_ln S hKn hD hv dJx4a65c_add_72be8_2 ?_
  refine lv_icmp_ne (tgt := 11) hx hb dJx4a65c_add_72be8_3 (by decide) (fun hc => ?_) (fun hc => ?_)
  · rw [if_neg hc] at hf
    exact hB11 (some a0) p1 p2 p3 _ _ _ _ _ _ hD (lv_sub hl [0, 1, 2, 3] rfl) hf
  · rw [if_pos hc] at hf
    refine hw_aload_n (r := (some a0)) hx hb dJx4a65c_add_72be8_6 rfl (lv_at hl 0 rfl) ?_
    obtain ⟨b4, hv, hf⟩ := ob_s hf
    obtain ⟨e9, hk9⟩ := oK_of hv
    cases e9
    obtain ⟨r2, s3, hv, hf⟩ := ob_p hf
    refine hw_V (b := a0) (ci := 0) (T := TJx4a65c) (N := 3) (As := []) (rest := []) S hKn hRm hD (c_Jx4a65c_grow_d5877 l D G base E hv) (mo_Jx4a65c_grow_d5877 hv) hk9 rfl (by decide) gJx4a65c_add_72be8_Jx4a65c_grow_d5877 rfl 0 (by decide +kernel) ⟨by rw [hfr]; decide, by rw [hlo]; decide⟩ rfl hl.1 (Nat.le_trans cs_0 (by decide)) rfl dJx4a65c_add_72be8_7 (fun H locs cells slots hD => ?_)
    refine W.eq (g2 := F0 m 10 ls [va_rf (r2)]) rfl ?_
    refine hs_astore_n (i := 2) (lv' := [(2, va_rf (r2)), (0, va_rf ((some a0))), (1, va_rf (p1)), (3, .int (p3))]) hx hb dJx4a65c_add_72be8_10 rfl hl (by decide) (st_okR (st_okR (st_okR (st_okI st_ok0)))) rfl (fun ls hl => ?_)
    exact hB11 (some a0) p1 r2 p3 _ _ _ _ _ _ hD (lv_sub hl [1, 2, 0, 3] rfl) hf
set_option maxHeartbeats 4000000 in
set_option maxRecDepth 100000 in
theorem c_Jx4a65c_add_9ea2d (l : Launch) (D : va_G) (G : GC) (base : Nat) (E : PE) {a0 : Nat} {p1 : Option Nat} {σ0 τ : PS} {rv : Int32} (hF : f_Jx4a65c_add_9ea2d E (some a0) p1 σ0 = some (rv, τ)) : Ct l D G base E yJx4a65c_add_9ea2d wsJx4a65c_add_9ea2d 6 170 ([.ref a0, va_rf (p1)] : List Value) σ0 (some (.int rv)) τ := by
  obtain ⟨hf, hmo⟩ := oM_of hF
  refine Ct.of (own := RJx4a65c) [1, 1] (by decide) rfl rfl hmo (ct_R (ct_A ct_0)) (by decide) ?_
  intro p e s m below meth c R Q ls H locs cells slots S hKn hRm hfr hlo hlk hret hnm hQ hD hl
  have hx := S.1
  have hb := S.2.1
  have hts := S.2.2.2.2
  have inJx4a65c : ∀ w ∈ u_ws RJx4a65c TJx4a65c 3, w ∈ wsJx4a65c_add_9ea2d := by decide +kernel
  have wd0 := hts (.fieldLink RJx4a65c 63 "java/util/ArrayList" "modCount" "I") (by decide +kernel)
  have wd1 := hts (.sameField "java/util/ArrayList" "java/util/AbstractList" "modCount" "I") (by decide +kernel)
  have wd2 := hts (.fieldLink RJx4a65c 9 "java/util/ArrayList" "elementData" "[Ljava/lang/Object;") (by decide +kernel)
  have wd3 := hts (.fieldLink RJx4a65c 48 "java/util/ArrayList" "size" "I") (by decide +kernel)
  have hl : lv_has ls 2 [(0, va_rf (some a0)), (1, va_rf (p1))] := hl
  unfold g_Jx4a65c_add_9ea2d at hf
  refine hw_aload_n (r := (some a0)) hx hb dJx4a65c_add_9ea2d_0 rfl (lv_at hl 0 rfl) ?_
  refine lv_dup hx hb dJx4a65c_add_9ea2d_1 (va_rf_cat _) ?_
  obtain ⟨x1, hv, hf⟩ := ob_s hf
  refine hw_gi (C := RJx4a65c) (T := TJx4a65c) (N := 3) (ref := "java/util/ArrayList") S hKn hD hv rfl (by decide) (by decide) rfl inJx4a65c wd0 (u_same wd1) dJx4a65c_add_9ea2d_2 ?_
  refine lv_iconst (v := (1)) hx hb dJx4a65c_add_9ea2d_5 (by decide) ?_
  refine lv_iadd hx hb dJx4a65c_add_9ea2d_6 ?_
  obtain ⟨s2, hv, hf⟩ := ob_s hf
  refine hw_pi (C := RJx4a65c) (T := TJx4a65c) (N := 3) (ref := "java/util/ArrayList") S hKn hD hv rfl (by decide) (by decide) rfl inJx4a65c tyJx4a65c tyJx4a65c_ok nmJx4a65c wd0 (u_same wd1) rfl (by first | rfl | decide) (by first | rfl | decide) dJx4a65c_add_9ea2d_7 (fun H locs hD => ?_)
  refine hw_aload_n (r := (some a0)) hx hb dJx4a65c_add_9ea2d_10 rfl (lv_at hl 0 rfl) ?_
  refine hw_aload_n (r := p1) hx hb dJx4a65c_add_9ea2d_11 rfl (lv_at hl 1 rfl) ?_
  refine hw_aload_n (r := (some a0)) hx hb dJx4a65c_add_9ea2d_12 rfl (lv_at hl 0 rfl) ?_
  obtain ⟨x3, hv, hf⟩ := ob_s hf
  refine hw_gr (C := RJx4a65c) (T := TJx4a65c) (N := 3) (ref := "java/util/ArrayList") S hKn hD hv rfl (by decide) (by decide) rfl inJx4a65c wd2 (fun _ h9 => h9) dJx4a65c_add_9ea2d_13 ?_
  refine hw_aload_n (r := (some a0)) hx hb dJx4a65c_add_9ea2d_16 rfl (lv_at hl 0 rfl) ?_
  obtain ⟨x4, hv, hf⟩ := ob_s hf
  refine hw_gi (C := RJx4a65c) (T := TJx4a65c) (N := 3) (ref := "java/util/ArrayList") S hKn hD hv rfl (by decide) (by decide) rfl inJx4a65c wd3 (fun _ h9 => h9) dJx4a65c_add_9ea2d_17 ?_
  obtain ⟨b7, hv, hf⟩ := ob_s hf
  obtain ⟨e9, hk9⟩ := oK_of hv
  cases e9
  obtain ⟨r5, s6, hv, hf⟩ := ob_p hf
  refine hw_V (b := a0) (ci := 0) (T := TJx4a65c) (N := 3) (As := [va_rf (p1), va_rf (x3), .int (x4)]) (rest := []) S hKn hRm hD (c_Jx4a65c_add_72be8 l D G base E hv) (mo_Jx4a65c_add_72be8 hv) hk9 rfl (by decide) gJx4a65c_add_9ea2d_Jx4a65c_add_72be8 rfl 3 (by decide +kernel) ⟨by rw [hfr]; decide, by rw [hlo]; decide⟩ rfl hl.1 (Nat.le_trans cs_0 (by decide)) rfl dJx4a65c_add_9ea2d_20 (fun H locs cells slots hD => ?_)
  refine W.eq (g2 := F0 m 23 ls []) rfl ?_
  refine lv_iconst (v := (1)) hx hb dJx4a65c_add_9ea2d_23 (by decide) ?_
  obtain ⟨e1, e2⟩ := ret_eq hf
  rw [hQ, ← e1, ← e2]
  exact hw_iret S hlk hret (by decide) hD dJx4a65c_add_9ea2d_24
set_option maxHeartbeats 4000000 in
set_option maxRecDepth 100000 in
theorem c_X5_entry (l : Launch) (D : va_G) (G : GC) (base : Nat) (E : PE) {a0 : Nat} {p1 : Int32} {σ0 τ : PS} {rv : Int32} (hF : f_X5_entry E (some a0) p1 σ0 = some (rv, τ)) : Ct l D G base E yX5_entry wsX5_entry 7 191 ([.ref a0, .int (p1)] : List Value) σ0 (some (.int rv)) τ := by
  obtain ⟨hf, hmo⟩ := oM_of hF
  refine Ct.of (own := RX5) [1, 1] (by decide) rfl rfl hmo (ct_R (ct_I ct_0)) (by decide) ?_
  intro p e s m below meth c R Q ls H locs cells slots S hKn hRm hfr hlo hlk hret hnm hQ hD hl
  have hx := S.1
  have hb := S.2.1
  have hts := S.2.2.2.2
  have inX5 : ∀ w ∈ u_ws RX5 TX5 8, w ∈ wsX5_entry := by decide +kernel
  have inX1 : ∀ w ∈ u_ws RX1 TX1 6, w ∈ wsX5_entry := by decide +kernel
  have wd0 := hts (.fieldLink RX5 10 "SolidGroups" "entries" "Ljava/util/ArrayList;") (by decide +kernel)
  have wd1 := hts (.classLink RX5 55 RX1) (by decide +kernel)
  have wd2 := hts (.instantiable RX1 6) (by decide +kernel)
  have wd3 := hts (.initialized RX1) (by decide +kernel)
  have wd4 := hts (.methodLink RX5 57 yX1_init) (by decide +kernel)
  have wd5 := hts (.instanceMethod yX1_init) (by decide +kernel)
  have wd6 := hts (.fieldLink RX5 39 "SolidGroups" "packed" "Z") (by decide +kernel)
  have hl : lv_has ls 3 [(0, va_rf (some a0)), (1, .int (p1))] := hl
  unfold g_X5_entry at hf
  refine lv_iload_n hx hb dX5_entry_0 rfl (lv_at hl 1 rfl) ?_
  obtain ⟨r1, s2, hv, hf⟩ := ob_p hf
  refine hw_S (As := [.int (p1)]) (rest := []) S hKn hRm hD (c_X5_isKind l D G base E hv) (mo_X5_isKind hv) gX5_entry_X5_isKind rfl 1 (by decide +kernel) ⟨by rw [hfr]; decide, by rw [hlo]; decide⟩ rfl hl.1 (Nat.le_trans cs_0 (by decide)) rfl dX5_entry_1 (fun H locs cells slots hD => ?_)
  refine W.eq (g2 := F0 m 4 ls [.int (r1)]) rfl ?_
  refine lv_if_ne (tgt := 9) hx hb dX5_entry_4 (by decide) (fun hc => ?_) (fun hc => ?_)
  · rw [if_neg hc] at hf
    refine hw_aload_n (r := (some a0)) hx hb dX5_entry_9 rfl (lv_at hl 0 rfl) ?_
    obtain ⟨x3, hv, hf⟩ := ob_s hf
    refine hw_gr (C := RX5) (T := TX5) (N := 8) (ref := "SolidGroups") S hKn hD hv rfl (by decide) (by decide) rfl inX5 wd0 (fun _ h9 => h9) dX5_entry_10 ?_
    obtain ⟨b6, hv, hf⟩ := ob_s hf
    obtain ⟨e9, hk9⟩ := oK_of hv
    cases e9
    obtain ⟨r4, s5, hv, hf⟩ := ob_p hf
    refine hw_V (b := b6) (ci := 0) (T := TJx4a65c) (N := 3) (As := []) (rest := []) S hKn hRm hD (c_Jx4a65c_size_8abf5 l D G base E hv) (mo_Jx4a65c_size_8abf5 hv) hk9 rfl (by decide) gX5_entry_Jx4a65c_size_8abf5 rfl 0 (by decide +kernel) ⟨by rw [hfr]; decide, by rw [hlo]; decide⟩ rfl hl.1 (Nat.le_trans cs_0 (by decide)) rfl dX5_entry_13 (fun H locs cells slots hD => ?_)
    refine W.eq (g2 := F0 m 16 ls [.int (r4)]) rfl ?_
    refine hs_istore_n (i := 2) (lv' := [(2, .int (r4)), (0, va_rf ((some a0))), (1, .int (p1))]) hx hb dX5_entry_16 rfl hl (by decide) (st_okR (st_okI st_ok0)) rfl (fun ls hl => ?_)
    refine lv_iload_n hx hb dX5_entry_17 rfl (lv_at hl 0 rfl) ?_
    refine lv_bipush (v := (30)) hx hb dX5_entry_18 (by decide) ?_
    refine lv_icmp_lt (tgt := 26) hx hb dX5_entry_20 (by decide) (fun hc => ?_) (fun hc => ?_)
    · rw [if_pos hc] at hf
      refine hw_aload_n (r := (some a0)) hx hb dX5_entry_26 rfl (lv_at hl 1 rfl) ?_
      obtain ⟨x7, hv, hf⟩ := ob_s hf
      refine hw_gr (C := RX5) (T := TX5) (N := 8) (ref := "SolidGroups") S hKn hD hv rfl (by decide) (by decide) rfl inX5 wd0 (fun _ h9 => h9) dX5_entry_27 ?_
      obtain ⟨x8, s9, hv, hf⟩ := ob_p hf
      refine hw_nw (C := RX1) (T := TX1) (N := 6) S hKn hRm hD hv rfl (by decide) inX1 tyX1 tyX1_ok wd1 wd2 wd3 dfX1 dX5_entry_30 (fun H hD => ?_)
      generalize cells + 1 = cells, slots + 6 = slots at hD ⊢
      refine lv_dup hx hb dX5_entry_33 (va_rf_cat _) ?_
      refine lv_iload_n hx hb dX5_entry_34 rfl (lv_at hl 0 rfl) ?_
      refine lv_iload_n hx hb dX5_entry_35 rfl (lv_at hl 2 rfl) ?_
      obtain ⟨b12, hv, hf⟩ := ob_s hf
      obtain ⟨e9, hk9⟩ := oK_of hv
      cases e9
      obtain ⟨r10, s11, hv, hf⟩ := ob_p hf
      refine hw_I (b := b12) (As := [.int (r4), .int (p1)]) (rest := [va_rf ((some b12)), va_rf (x7)]) S hKn hRm hD (c_X1_init l D G base E hv) (mo_X1_init hv) gX5_entry_X1_init rfl 2 wd3 wd4 wd5 rfl (by decide +kernel) ⟨by rw [hfr]; decide, by rw [hlo]; decide⟩ rfl hl.1 (Nat.le_trans (cs_A (cs_A cs_0)) (by decide)) rfl dX5_entry_36 (fun H locs cells slots hD => ?_)
      refine W.eq (g2 := F0 m 39 ls [va_rf ((some b12)), va_rf (x7)]) rfl ?_
      obtain ⟨b15, hv, hf⟩ := ob_s hf
      obtain ⟨e9, hk9⟩ := oK_of hv
      cases e9
      obtain ⟨r13, s14, hv, hf⟩ := ob_p hf
      refine hw_V (b := b15) (ci := 0) (T := TJx4a65c) (N := 3) (As := [va_rf ((some b12))]) (rest := []) S hKn hRm hD (c_Jx4a65c_add_9ea2d l D G base E hv) (mo_Jx4a65c_add_9ea2d hv) hk9 rfl (by decide) gX5_entry_Jx4a65c_add_9ea2d rfl 1 (by decide +kernel) ⟨by rw [hfr]; decide, by rw [hlo]; decide⟩ rfl hl.1 (Nat.le_trans cs_0 (by decide)) rfl dX5_entry_39 (fun H locs cells slots hD => ?_)
      refine W.eq (g2 := F0 m 42 ls [.int (r13)]) rfl ?_
      refine lv_pop hx hb dX5_entry_42 rfl ?_
      refine hw_aload_n (r := (some a0)) hx hb dX5_entry_43 rfl (lv_at hl 1 rfl) ?_
      refine lv_iconst (v := (0)) hx hb dX5_entry_44 (by decide) ?_
      obtain ⟨s16, hv, hf⟩ := ob_s hf
      refine hw_pi (C := RX5) (T := TX5) (N := 8) (ref := "SolidGroups") S hKn hD hv rfl (by decide) (by decide) rfl inX5 tyX5 tyX5_ok nmX5 wd6 (fun _ h9 => h9) rfl (by first | rfl | decide) (by first | rfl | decide) dX5_entry_45 (fun H locs hD => ?_)
      refine lv_iload_n hx hb dX5_entry_48 rfl (lv_at hl 0 rfl) ?_
      obtain ⟨e1, e2⟩ := ret_eq hf
      rw [hQ, ← e1, ← e2]
      exact hw_iret S hlk hret rfl hD dX5_entry_49
    · rw [if_neg hc] at hf
      refine lv_bipush (v := (-3)) hx hb dX5_entry_23 (by decide) ?_
      obtain ⟨e1, e2⟩ := ret_eq hf
      rw [hQ, ← e1, ← e2]
      exact hw_iret S hlk hret rfl hD dX5_entry_25
  · rw [if_pos hc] at hf
    refine lv_iconst (v := (-1)) hx hb dX5_entry_7 (by decide) ?_
    obtain ⟨e1, e2⟩ := ret_eq hf
    rw [hQ, ← e1, ← e2]
    exact hw_iret S hlk hret rfl hD dX5_entry_8
set_option maxHeartbeats 4000000 in
set_option maxRecDepth 100000 in
theorem c_X5_isEntry (l : Launch) (D : va_G) (G : GC) (base : Nat) (E : PE) {a0 : Nat} {p1 : Int32} {σ0 τ : PS} {rv : Int32} (hF : f_X5_isEntry E (some a0) p1 σ0 = some (rv, τ)) : Ct l D G base E yX5_isEntry wsX5_isEntry 1 20 ([.ref a0, .int (p1)] : List Value) σ0 (some (.int rv)) τ := by
  obtain ⟨hf, hmo⟩ := oM_of hF
  refine Ct.of (own := RX5) [1, 1] (by decide) rfl rfl hmo (ct_R (ct_I ct_0)) (by decide) ?_
  intro p e s m below meth c R Q ls H locs cells slots S hKn hRm hfr hlo hlk hret hnm hQ hD hl
  have hx := S.1
  have hb := S.2.1
  have hts := S.2.2.2.2
  have inX5 : ∀ w ∈ u_ws RX5 TX5 8, w ∈ wsX5_isEntry := by decide +kernel
  have wd0 := hts (.fieldLink RX5 10 "SolidGroups" "entries" "Ljava/util/ArrayList;") (by decide +kernel)
  have hB20 : ∀ (w0 : Int32) (σ : PS) (H : Heap) (locs : List Loc) (cells slots : Nat) (ls : Array Slot), Dy D G base E s.heap σ0 σ H locs cells slots → lv_has ls 2 [] → f_X5_isEntry_B20 E w0 σ = some (rv, τ) → W p l e R s m ([.ref a0, .int (p1)] : List Value).toArray below meth c H locs cells slots Q (F0 m 20 ls [.int (w0)]) := by
    intro w0 σ H locs cells slots ls hD hl hf
    unfold f_X5_isEntry_B20 at hf
    by_cases hz : w0 = 0 ∨ w0 = 1
    · rw [if_pos hz] at hf
      obtain ⟨e1, e2⟩ := ret_eq hf
      rw [hQ, ← e1, ← e2]
      exact hw_iret S hlk hret (nar_z hz) hD dX5_isEntry_20
    · rw [if_neg hz] at hf
      cases hf
  have hB19 : ∀ (σ : PS) (H : Heap) (locs : List Loc) (cells slots : Nat) (ls : Array Slot), Dy D G base E s.heap σ0 σ H locs cells slots → lv_has ls 2 [] → f_X5_isEntry_B19 E σ = some (rv, τ) → W p l e R s m ([.ref a0, .int (p1)] : List Value).toArray below meth c H locs cells slots Q (F0 m 19 ls []) := by
    intro σ H locs cells slots ls hD hl hf
    unfold f_X5_isEntry_B19 at hf
    refine lv_iconst (v := (0)) hx hb dX5_isEntry_19 (by decide) ?_
    exact hB20 (0 : Int32) _ _ _ _ _ _ hD (lv_sub hl [] rfl) hf
  have hl : lv_has ls 2 [(0, va_rf (some a0)), (1, .int (p1))] := hl
  unfold g_X5_isEntry at hf
  refine lv_iload_n hx hb dX5_isEntry_0 rfl (lv_at hl 1 rfl) ?_
  refine lv_if_lt (tgt := 19) hx hb dX5_isEntry_1 (by decide) (fun hc => ?_) (fun hc => ?_)
  · rw [if_pos hc] at hf
    exact hB19 _ _ _ _ _ _ hD (lv_sub hl [] rfl) hf
  · rw [if_neg hc] at hf
    refine lv_iload_n hx hb dX5_isEntry_4 rfl (lv_at hl 1 rfl) ?_
    refine hw_aload_n (r := (some a0)) hx hb dX5_isEntry_5 rfl (lv_at hl 0 rfl) ?_
    obtain ⟨x1, hv, hf⟩ := ob_s hf
    refine hw_gr (C := RX5) (T := TX5) (N := 8) (ref := "SolidGroups") S hKn hD hv rfl (by decide) (by decide) rfl inX5 wd0 (fun _ h9 => h9) dX5_isEntry_6 ?_
    obtain ⟨b4, hv, hf⟩ := ob_s hf
    obtain ⟨e9, hk9⟩ := oK_of hv
    cases e9
    obtain ⟨r2, s3, hv, hf⟩ := ob_p hf
    refine hw_V (b := b4) (ci := 0) (T := TJx4a65c) (N := 3) (As := []) (rest := [.int (p1)]) S hKn hRm hD (c_Jx4a65c_size_8abf5 l D G base E hv) (mo_Jx4a65c_size_8abf5 hv) hk9 rfl (by decide) gX5_isEntry_Jx4a65c_size_8abf5 rfl 0 (by decide +kernel) ⟨by rw [hfr]; decide, by rw [hlo]; decide⟩ rfl hl.1 (Nat.le_trans (cs_I cs_0) (by decide)) rfl dX5_isEntry_9 (fun H locs cells slots hD => ?_)
    refine W.eq (g2 := F0 m 12 ls [.int (r2), .int (p1)]) rfl ?_
    refine lv_icmp_ge (tgt := 19) hx hb dX5_isEntry_12 (by decide) (fun hc => ?_) (fun hc => ?_)
    · rw [if_pos hc] at hf
      exact hB19 _ _ _ _ _ _ hD (lv_sub hl [] rfl) hf
    · rw [if_neg hc] at hf
      refine lv_iconst (v := (1)) hx hb dX5_isEntry_15 (by decide) ?_
      refine lv_goto (tgt := 20) hx hb dX5_isEntry_16 (by decide) ?_
      exact hB20 (1 : Int32) _ _ _ _ _ _ hD (lv_sub hl [] rfl) hf
set_option maxHeartbeats 4000000 in
set_option maxRecDepth 100000 in
theorem c_J3_checkIndex_8e157 (l : Launch) (D : va_G) (G : GC) (base : Nat) (E : PE) {p0 : Int32} {p1 : Int32} {p2 : Option Nat} {σ0 τ : PS} {rv : Int32} (hF : f_J3_checkIndex_8e157 E p0 p1 p2 σ0 = some (rv, τ)) : Ct l D G base E yJ3_checkIndex_8e157 wsJ3_checkIndex_8e157 0 0 ([.int (p0), .int (p1), va_rf (p2)] : List Value) σ0 (some (.int rv)) τ := by
  obtain ⟨hf, hmo⟩ := oM_of hF
  refine Ct.of (own := RJ3) [1, 1, 1] (by decide) rfl rfl hmo (ct_I (ct_I (ct_A ct_0))) (by decide) ?_
  intro p e s m below meth c R Q ls H locs cells slots S hKn hRm hfr hlo hlk hret hnm hQ hD hl
  have hx := S.1
  have hb := S.2.1
  have hts := S.2.2.2.2
  have hB9 : ∀ (v0 : Int32) (v1 : Int32) (v2 : Option Nat) (σ : PS) (H : Heap) (locs : List Loc) (cells slots : Nat) (ls : Array Slot), Dy D G base E s.heap σ0 σ H locs cells slots → lv_has ls 3 [(0, .int (v0)), (1, .int (v1)), (2, va_rf (v2))] → f_J3_checkIndex_8e157_B9 E v0 v1 v2 σ = some (rv, τ) → W p l e R s m ([.int (p0), .int (p1), va_rf (p2)] : List Value).toArray below meth c H locs cells slots Q (F0 m 9 ls []) := by
    intro v0 v1 v2 σ H locs cells slots ls hD hl hf
    unfold f_J3_checkIndex_8e157_B9 at hf
    refine hw_aload_n (r := v2) hx hb dJ3_checkIndex_8e157_9 rfl (lv_at hl 2 rfl) ?_
    refine lv_iload_n hx hb dJ3_checkIndex_8e157_10 rfl (lv_at hl 0 rfl) ?_
    refine lv_iload_n hx hb dJ3_checkIndex_8e157_11 rfl (lv_at hl 1 rfl) ?_
    cases hf
  have hl : lv_has ls 3 [(0, .int (p0)), (1, .int (p1)), (2, va_rf (p2))] := hl
  unfold g_J3_checkIndex_8e157 at hf
  refine lv_iload_n hx hb dJ3_checkIndex_8e157_0 rfl (lv_at hl 0 rfl) ?_
  refine lv_if_lt (tgt := 9) hx hb dJ3_checkIndex_8e157_1 (by decide) (fun hc => ?_) (fun hc => ?_)
  · rw [if_pos hc] at hf
    exact hB9 p0 p1 p2 _ _ _ _ _ _ hD (lv_sub hl [0, 1, 2] rfl) hf
  · rw [if_neg hc] at hf
    refine lv_iload_n hx hb dJ3_checkIndex_8e157_4 rfl (lv_at hl 0 rfl) ?_
    refine lv_iload_n hx hb dJ3_checkIndex_8e157_5 rfl (lv_at hl 1 rfl) ?_
    refine lv_icmp_lt (tgt := 16) hx hb dJ3_checkIndex_8e157_6 (by decide) (fun hc => ?_) (fun hc => ?_)
    · rw [if_pos hc] at hf
      refine lv_iload_n hx hb dJ3_checkIndex_8e157_16 rfl (lv_at hl 0 rfl) ?_
      obtain ⟨e1, e2⟩ := ret_eq hf
      rw [hQ, ← e1, ← e2]
      exact hw_iret S hlk hret rfl hD dJ3_checkIndex_8e157_17
    · rw [if_neg hc] at hf
      exact hB9 p0 p1 p2 _ _ _ _ _ _ hD (lv_sub hl [0, 1, 2] rfl) hf
set_option maxHeartbeats 4000000 in
set_option maxRecDepth 100000 in
theorem c_J15_checkIndex_7cf53 (l : Launch) (D : va_G) (G : GC) (base : Nat) (E : PE) {p0 : Int32} {p1 : Int32} {σ0 τ : PS} {rv : Int32} (hF : f_J15_checkIndex_7cf53 E p0 p1 σ0 = some (rv, τ)) : Ct l D G base E yJ15_checkIndex_7cf53 wsJ15_checkIndex_7cf53 1 22 ([.int (p0), .int (p1)] : List Value) σ0 (some (.int rv)) τ := by
  obtain ⟨hf, hmo⟩ := oM_of hF
  refine Ct.of (own := RJ15) [1, 1] (by decide) rfl rfl hmo (ct_I (ct_I ct_0)) (by decide) ?_
  intro p e s m below meth c R Q ls H locs cells slots S hKn hRm hfr hlo hlk hret hnm hQ hD hl
  have hx := S.1
  have hb := S.2.1
  have hts := S.2.2.2.2
  have hl : lv_has ls 2 [(0, .int (p0)), (1, .int (p1))] := hl
  unfold g_J15_checkIndex_7cf53 at hf
  refine lv_iload_n hx hb dJ15_checkIndex_7cf53_0 rfl (lv_at hl 0 rfl) ?_
  refine lv_iload_n hx hb dJ15_checkIndex_7cf53_1 rfl (lv_at hl 1 rfl) ?_
  refine hs_null hx hb dJ15_checkIndex_7cf53_2 ?_
  obtain ⟨r1, s2, hv, hf⟩ := ob_p hf
  refine hw_S (As := [.int (p0), .int (p1), va_rf (none)]) (rest := []) S hKn hRm hD (c_J3_checkIndex_8e157 l D G base E hv) (mo_J3_checkIndex_8e157 hv) gJ15_checkIndex_7cf53_J3_checkIndex_8e157 rfl 3 (by decide +kernel) ⟨by rw [hfr]; decide, by rw [hlo]; decide⟩ rfl hl.1 (Nat.le_trans cs_0 (by decide)) rfl dJ15_checkIndex_7cf53_3 (fun H locs cells slots hD => ?_)
  refine W.eq (g2 := F0 m 6 ls [.int (r1)]) rfl ?_
  obtain ⟨e1, e2⟩ := ret_eq hf
  rw [hQ, ← e1, ← e2]
  exact hw_iret S hlk hret rfl hD dJ15_checkIndex_7cf53_6
set_option maxHeartbeats 4000000 in
set_option maxRecDepth 100000 in
theorem c_Jx4a65c_elementData_915e3 (l : Launch) (D : va_G) (G : GC) (base : Nat) (E : PE) {a0 : Nat} {p1 : Int32} {σ0 τ : PS} {rv : Option Nat} (hF : f_Jx4a65c_elementData_915e3 E (some a0) p1 σ0 = some (rv, τ)) : Ct l D G base E yJx4a65c_elementData_915e3 wsJx4a65c_elementData_915e3 0 0 ([.ref a0, .int (p1)] : List Value) σ0 (some (va_rf rv)) τ := by
  obtain ⟨hf, hmo⟩ := oM_of hF
  refine Ct.of (own := RJx4a65c) [1, 1] (by decide) rfl rfl hmo (ct_R (ct_I ct_0)) (by decide) ?_
  intro p e s m below meth c R Q ls H locs cells slots S hKn hRm hfr hlo hlk hret hnm hQ hD hl
  have hx := S.1
  have hb := S.2.1
  have hts := S.2.2.2.2
  have inJx4a65c : ∀ w ∈ u_ws RJx4a65c TJx4a65c 3, w ∈ wsJx4a65c_elementData_915e3 := by decide +kernel
  have wd0 := hts (.fieldLink RJx4a65c 9 "java/util/ArrayList" "elementData" "[Ljava/lang/Object;") (by decide +kernel)
  have hl : lv_has ls 2 [(0, va_rf (some a0)), (1, .int (p1))] := hl
  unfold g_Jx4a65c_elementData_915e3 at hf
  refine hw_aload_n (r := (some a0)) hx hb dJx4a65c_elementData_915e3_0 rfl (lv_at hl 0 rfl) ?_
  obtain ⟨x1, hv, hf⟩ := ob_s hf
  refine hw_gr (C := RJx4a65c) (T := TJx4a65c) (N := 3) (ref := "java/util/ArrayList") S hKn hD hv rfl (by decide) (by decide) rfl inJx4a65c wd0 (fun _ h9 => h9) dJx4a65c_elementData_915e3_1 ?_
  refine lv_iload_n hx hb dJx4a65c_elementData_915e3_4 rfl (lv_at hl 1 rfl) ?_
  obtain ⟨x2, hv, hf⟩ := ob_s hf
  refine hw_ql S hKn hD hv dJx4a65c_elementData_915e3_5 ?_
  obtain ⟨e1, e2⟩ := ret_eq hf
  rw [hQ, ← e1, ← e2]
  exact hw_aret S hlk hret (Or.inl ⟨_, rfl⟩) hD dJx4a65c_elementData_915e3_6
set_option maxHeartbeats 4000000 in
set_option maxRecDepth 100000 in
theorem c_Jx4a65c_get_915e3 (l : Launch) (D : va_G) (G : GC) (base : Nat) (E : PE) {a0 : Nat} {p1 : Int32} {σ0 τ : PS} {rv : Option Nat} (hF : f_Jx4a65c_get_915e3 E (some a0) p1 σ0 = some (rv, τ)) : Ct l D G base E yJx4a65c_get_915e3 wsJx4a65c_get_915e3 2 43 ([.ref a0, .int (p1)] : List Value) σ0 (some (va_rf rv)) τ := by
  obtain ⟨hf, hmo⟩ := oM_of hF
  refine Ct.of (own := RJx4a65c) [1, 1] (by decide) rfl rfl hmo (ct_R (ct_I ct_0)) (by decide) ?_
  intro p e s m below meth c R Q ls H locs cells slots S hKn hRm hfr hlo hlk hret hnm hQ hD hl
  have hx := S.1
  have hb := S.2.1
  have hts := S.2.2.2.2
  have inJx4a65c : ∀ w ∈ u_ws RJx4a65c TJx4a65c 3, w ∈ wsJx4a65c_get_915e3 := by decide +kernel
  have wd0 := hts (.fieldLink RJx4a65c 48 "java/util/ArrayList" "size" "I") (by decide +kernel)
  have hl : lv_has ls 2 [(0, va_rf (some a0)), (1, .int (p1))] := hl
  unfold g_Jx4a65c_get_915e3 at hf
  refine lv_iload_n hx hb dJx4a65c_get_915e3_0 rfl (lv_at hl 1 rfl) ?_
  refine hw_aload_n (r := (some a0)) hx hb dJx4a65c_get_915e3_1 rfl (lv_at hl 0 rfl) ?_
  obtain ⟨x1, hv, hf⟩ := ob_s hf
  refine hw_gi (C := RJx4a65c) (T := TJx4a65c) (N := 3) (ref := "java/util/ArrayList") S hKn hD hv rfl (by decide) (by decide) rfl inJx4a65c wd0 (fun _ h9 => h9) dJx4a65c_get_915e3_2 ?_
  obtain ⟨r2, s3, hv, hf⟩ := ob_p hf
  refine hw_S (As := [.int (p1), .int (x1)]) (rest := []) S hKn hRm hD (c_J15_checkIndex_7cf53 l D G base E hv) (mo_J15_checkIndex_7cf53 hv) gJx4a65c_get_915e3_J15_checkIndex_7cf53 rfl 2 (by decide +kernel) ⟨by rw [hfr]; decide, by rw [hlo]; decide⟩ rfl hl.1 (Nat.le_trans cs_0 (by decide)) rfl dJx4a65c_get_915e3_5 (fun H locs cells slots hD => ?_)
  refine W.eq (g2 := F0 m 8 ls [.int (r2)]) rfl ?_
  refine lv_pop hx hb dJx4a65c_get_915e3_8 rfl ?_
  refine hw_aload_n (r := (some a0)) hx hb dJx4a65c_get_915e3_9 rfl (lv_at hl 0 rfl) ?_
  refine lv_iload_n hx hb dJx4a65c_get_915e3_10 rfl (lv_at hl 1 rfl) ?_
  obtain ⟨b6, hv, hf⟩ := ob_s hf
  obtain ⟨e9, hk9⟩ := oK_of hv
  cases e9
  obtain ⟨r4, s5, hv, hf⟩ := ob_p hf
  refine hw_V (b := a0) (ci := 0) (T := TJx4a65c) (N := 3) (As := [.int (p1)]) (rest := []) S hKn hRm hD (c_Jx4a65c_elementData_915e3 l D G base E hv) (mo_Jx4a65c_elementData_915e3 hv) hk9 rfl (by decide) gJx4a65c_get_915e3_Jx4a65c_elementData_915e3 rfl 1 (by decide +kernel) ⟨by rw [hfr]; decide, by rw [hlo]; decide⟩ rfl hl.1 (Nat.le_trans cs_0 (by decide)) rfl dJx4a65c_get_915e3_11 (fun H locs cells slots hD => ?_)
  refine W.eq (g2 := F0 m 14 ls [va_rf (r4)]) rfl ?_
  obtain ⟨e1, e2⟩ := ret_eq hf
  rw [hQ, ← e1, ← e2]
  exact hw_aret S hlk hret (Or.inl ⟨_, rfl⟩) hD dJx4a65c_get_915e3_14
set_option maxHeartbeats 4000000 in
set_option maxRecDepth 100000 in
theorem c_X1_countMarks (l : Launch) (D : va_G) (G : GC) (base : Nat) (E : PE) {a0 : Nat} {σ0 τ : PS} {rv : Unit} (hF : f_X1_countMarks E (some a0) σ0 = some (rv, τ)) : Ct l D G base E yX1_countMarks wsX1_countMarks 0 0 ([.ref a0] : List Value) σ0 none τ := by
  obtain ⟨hf, hmo⟩ := oM_of hF
  refine Ct.of (own := RX1) [1] (by decide) rfl rfl hmo (ct_R ct_0) (by decide) ?_
  intro p e s m below meth c R Q ls H locs cells slots S hKn hRm hfr hlo hlk hret hnm hQ hD hl
  have hx := S.1
  have hb := S.2.1
  have hts := S.2.2.2.2
  have inX1 : ∀ w ∈ u_ws RX1 TX1 6, w ∈ wsX1_countMarks := by decide +kernel
  have wd0 := hts (.fieldLink RX1 15 "SolidGroups$Entry" "marks" "[I") (by decide +kernel)
  have wd1 := hts (.fieldLink RX1 18 "SolidGroups$Entry" "length" "I") (by decide +kernel)
  have wd2 := hts (.fieldLink RX1 9 "SolidGroups$Entry" "bytes" "[I") (by decide +kernel)
  have hL23 : ∀ (n : Nat), ∀ (v0 : Option Nat) (v1 : Int32) (σ : PS) (H : Heap) (locs : List Loc) (cells slots : Nat) (ls : Array Slot), Dy D G base E s.heap σ0 σ H locs cells slots → lv_has ls 2 [(0, va_rf (v0)), (1, .int (v1))] → f_X1_countMarks_L23 E n v0 v1 σ = some (rv, τ) → W p l e R s m ([.ref a0] : List Value).toArray below meth c H locs cells slots Q (F0 m 23 ls []) := by
    intro n
    induction n with
    | zero =>
      intro v0 v1 σ H locs cells slots ls hD hl hf
      rw [f_X1_countMarks_L23] at hf
      cases hf
    | succ n ih =>
      intro v0 v1 σ H locs cells slots ls hD hl hf
      rw [f_X1_countMarks_L23] at hf
      refine lv_iload_n hx hb dX1_countMarks_23 rfl (lv_at hl 1 rfl) ?_
      refine lv_iconst (v := (2)) hx hb dX1_countMarks_24 (by decide) ?_
      refine lv_iadd hx hb dX1_countMarks_25 ?_
      refine hw_aload_n (r := v0) hx hb dX1_countMarks_26 rfl (lv_at hl 0 rfl) ?_
      obtain ⟨x3, hv, hf⟩ := ob_s hf
      refine hw_gi (C := RX1) (T := TX1) (N := 6) (ref := "SolidGroups$Entry") S hKn hD hv rfl (by decide) (by decide) rfl inX1 wd1 (fun _ h9 => h9) dX1_countMarks_27 ?_
      refine lv_icmp_ge (tgt := 82) hx hb dX1_countMarks_30 (by decide) (fun hc => ?_) (fun hc => ?_)
      · rw [if_pos hc] at hf
        obtain ⟨-, e2⟩ := ret_eq hf
        rw [hQ, ← e2]
        exact hw_vret S hlk hret hD dX1_countMarks_82
      · rw [if_neg hc] at hf
        refine hw_aload_n (r := v0) hx hb dX1_countMarks_33 rfl (lv_at hl 0 rfl) ?_
        obtain ⟨x4, hv, hf⟩ := ob_s hf
        refine hw_gr (C := RX1) (T := TX1) (N := 6) (ref := "SolidGroups$Entry") S hKn hD hv rfl (by decide) (by decide) rfl inX1 wd0 (fun _ h9 => h9) dX1_countMarks_34 ?_
        refine lv_bipush (v := (7)) hx hb dX1_countMarks_37 (by decide) ?_
        refine hw_aload_n (r := v0) hx hb dX1_countMarks_39 rfl (lv_at hl 0 rfl) ?_
        obtain ⟨x5, hv, hf⟩ := ob_s hf
        refine hw_gr (C := RX1) (T := TX1) (N := 6) (ref := "SolidGroups$Entry") S hKn hD hv rfl (by decide) (by decide) rfl inX1 wd2 (fun _ h9 => h9) dX1_countMarks_40 ?_
        refine lv_iload_n hx hb dX1_countMarks_43 rfl (lv_at hl 1 rfl) ?_
        obtain ⟨x6, hv, hf⟩ := ob_s hf
        refine hw_al S hKn hD hv dX1_countMarks_44 ?_
        refine lv_imul hx hb dX1_countMarks_45 ?_
        refine lv_iconst (v := (5)) hx hb dX1_countMarks_46 (by decide) ?_
        refine hw_aload_n (r := v0) hx hb dX1_countMarks_47 rfl (lv_at hl 0 rfl) ?_
        obtain ⟨x7, hv, hf⟩ := ob_s hf
        refine hw_gr (C := RX1) (T := TX1) (N := 6) (ref := "SolidGroups$Entry") S hKn hD hv rfl (by decide) (by decide) rfl inX1 wd2 (fun _ h9 => h9) dX1_countMarks_48 ?_
        refine lv_iload_n hx hb dX1_countMarks_51 rfl (lv_at hl 1 rfl) ?_
        refine lv_iconst (v := (1)) hx hb dX1_countMarks_52 (by decide) ?_
        refine lv_iadd hx hb dX1_countMarks_53 ?_
        obtain ⟨x8, hv, hf⟩ := ob_s hf
        refine hw_al S hKn hD hv dX1_countMarks_54 ?_
        refine lv_imul hx hb dX1_countMarks_55 ?_
        refine lv_iadd hx hb dX1_countMarks_56 ?_
        refine lv_iconst (v := (3)) hx hb dX1_countMarks_57 (by decide) ?_
        refine hw_aload_n (r := v0) hx hb dX1_countMarks_58 rfl (lv_at hl 0 rfl) ?_
        obtain ⟨x9, hv, hf⟩ := ob_s hf
        refine hw_gr (C := RX1) (T := TX1) (N := 6) (ref := "SolidGroups$Entry") S hKn hD hv rfl (by decide) (by decide) rfl inX1 wd2 (fun _ h9 => h9) dX1_countMarks_59 ?_
        refine lv_iload_n hx hb dX1_countMarks_62 rfl (lv_at hl 1 rfl) ?_
        refine lv_iconst (v := (2)) hx hb dX1_countMarks_63 (by decide) ?_
        refine lv_iadd hx hb dX1_countMarks_64 ?_
        obtain ⟨x10, hv, hf⟩ := ob_s hf
        refine hw_al S hKn hD hv dX1_countMarks_65 ?_
        refine lv_imul hx hb dX1_countMarks_66 ?_
        refine lv_iadd hx hb dX1_countMarks_67 ?_
        refine lv_bipush (v := (31)) hx hb dX1_countMarks_68 (by decide) ?_
        refine lv_iand hx hb dX1_countMarks_70 ?_
        refine lv_dup2_11 hx hb dX1_countMarks_71 rfl (va_rf_cat _) ?_
        obtain ⟨x11, hv, hf⟩ := ob_s hf
        refine hw_al S hKn hD hv dX1_countMarks_72 ?_
        refine lv_iconst (v := (1)) hx hb dX1_countMarks_73 (by decide) ?_
        refine lv_iadd hx hb dX1_countMarks_74 ?_
        obtain ⟨s12, hv, hf⟩ := ob_s hf
        refine hw_as S hKn hD hv dX1_countMarks_75 (fun H locs hD => ?_)
        refine hs_iinc (i := 1) (k := 1) (v := v1 + 1) (lv' := [(1, .int (v1 + 1)), (0, va_rf (v0))]) hx hb dX1_countMarks_76 hl rfl (congrArg (fun z => v1 + z) (by decide)) (by decide) (st_okR (st_okI st_ok0)) rfl (fun ls hl => ?_)
        refine lv_goto (tgt := 23) hx hb dX1_countMarks_79 (by decide) ?_
        exact ih v0 (v1 + 1) _ _ _ _ _ _ hD (lv_sub hl [1, 0] rfl) hf
  have hL2 : ∀ (n : Nat), ∀ (v0 : Option Nat) (v1 : Int32) (σ : PS) (H : Heap) (locs : List Loc) (cells slots : Nat) (ls : Array Slot), Dy D G base E s.heap σ0 σ H locs cells slots → lv_has ls 2 [(0, va_rf (v0)), (1, .int (v1))] → f_X1_countMarks_L2 E n v0 v1 σ = some (rv, τ) → W p l e R s m ([.ref a0] : List Value).toArray below meth c H locs cells slots Q (F0 m 2 ls []) := by
    intro n
    induction n with
    | zero =>
      intro v0 v1 σ H locs cells slots ls hD hl hf
      rw [f_X1_countMarks_L2] at hf
      cases hf
    | succ n ih =>
      intro v0 v1 σ H locs cells slots ls hD hl hf
      rw [f_X1_countMarks_L2] at hf
      refine lv_iload_n hx hb dX1_countMarks_2 rfl (lv_at hl 1 rfl) ?_
      refine lv_bipush (v := (32)) hx hb dX1_countMarks_3 (by decide) ?_
      refine lv_icmp_ge (tgt := 21) hx hb dX1_countMarks_5 (by decide) (fun hc => ?_) (fun hc => ?_)
      · rw [if_pos hc] at hf
        refine lv_iconst (v := (0)) hx hb dX1_countMarks_21 (by decide) ?_
        refine hs_istore_n (i := 1) (lv' := [(1, .int ((0 : Int32))), (0, va_rf (v0))]) hx hb dX1_countMarks_22 rfl hl (by decide) (st_okR (st_okI st_ok0)) rfl (fun ls hl => ?_)
        exact hL23 _ v0 (0 : Int32) _ _ _ _ _ _ hD (lv_sub hl [1, 0] rfl) hf
      · rw [if_neg hc] at hf
        refine hw_aload_n (r := v0) hx hb dX1_countMarks_8 rfl (lv_at hl 0 rfl) ?_
        obtain ⟨x1, hv, hf⟩ := ob_s hf
        refine hw_gr (C := RX1) (T := TX1) (N := 6) (ref := "SolidGroups$Entry") S hKn hD hv rfl (by decide) (by decide) rfl inX1 wd0 (fun _ h9 => h9) dX1_countMarks_9 ?_
        refine lv_iload_n hx hb dX1_countMarks_12 rfl (lv_at hl 1 rfl) ?_
        refine lv_iconst (v := (0)) hx hb dX1_countMarks_13 (by decide) ?_
        obtain ⟨s2, hv, hf⟩ := ob_s hf
        refine hw_as S hKn hD hv dX1_countMarks_14 (fun H locs hD => ?_)
        refine hs_iinc (i := 1) (k := 1) (v := v1 + 1) (lv' := [(1, .int (v1 + 1)), (0, va_rf (v0))]) hx hb dX1_countMarks_15 hl rfl (congrArg (fun z => v1 + z) (by decide)) (by decide) (st_okR (st_okI st_ok0)) rfl (fun ls hl => ?_)
        refine lv_goto (tgt := 2) hx hb dX1_countMarks_18 (by decide) ?_
        exact ih v0 (v1 + 1) _ _ _ _ _ _ hD (lv_sub hl [1, 0] rfl) hf
  have hl : lv_has ls 2 [(0, va_rf (some a0))] := hl
  unfold g_X1_countMarks at hf
  refine lv_iconst (v := (0)) hx hb dX1_countMarks_0 (by decide) ?_
  refine hs_istore_n (i := 1) (lv' := [(1, .int ((0 : Int32))), (0, va_rf ((some a0)))]) hx hb dX1_countMarks_1 rfl hl (by decide) (st_okR st_ok0) rfl (fun ls hl => ?_)
  exact hL2 _ (some a0) (0 : Int32) _ _ _ _ _ _ hD (lv_sub hl [1, 0] rfl) hf
