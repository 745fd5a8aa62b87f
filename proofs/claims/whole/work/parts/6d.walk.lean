set_option maxHeartbeats 4000000 in
set_option maxRecDepth 100000 in
theorem c_X4_addCopy (l : Launch) (D : va_G) (G : GC) (base : Nat) (E : PE) {a0 : Nat} {p1 : Int32} {p2 : Int32} {σ0 τ : PS} {rv : Unit} (hF : f_X4_addCopy E (some a0) p1 p2 σ0 = some (rv, τ)) : Ct l D G base E yX4_addCopy wsX4_addCopy 1 23 ([.ref a0, .int (p1), .int (p2)] : List Value) σ0 none τ := by
  obtain ⟨hf, hmo⟩ := oM_of hF
  refine Ct.of (own := RX4) [1, 1, 1] (by decide) rfl rfl hmo (ct_R (ct_I (ct_I ct_0))) (by decide) ?_
  intro p e s m below meth c R Q ls H locs cells slots S hKn hRm hfr hlo hlk hret hnm hQ hD hl
  have hx := S.1
  have hb := S.2.1
  have hts := S.2.2.2.2
  have inX4 : ∀ w ∈ u_ws RX4 TX4 5, w ∈ wsX4_addCopy := by decide +kernel
  have wd0 := hts (.fieldLink RX4 25 "SolidGroups$TokenRow" "size" "I") (by decide +kernel)
  have hl : lv_has ls 3 [(0, va_rf (some a0)), (1, .int (p1)), (2, .int (p2))] := hl
  unfold g_X4_addCopy at hf
  refine hw_aload_n (r := (some a0)) hx hb dX4_addCopy_0 rfl (lv_at hl 0 rfl) ?_
  refine lv_iconst (v := (-1)) hx hb dX4_addCopy_1 (by decide) ?_
  refine lv_iload_n hx hb dX4_addCopy_2 rfl (lv_at hl 1 rfl) ?_
  refine lv_iload_n hx hb dX4_addCopy_3 rfl (lv_at hl 2 rfl) ?_
  obtain ⟨b3, hv, hf⟩ := ob_s hf
  obtain ⟨e9, hk9⟩ := oK_of hv
  cases e9
  obtain ⟨r1, s2, hv, hf⟩ := ob_p hf
  refine hw_V (b := a0) (ci := 5) (T := TX4) (N := 5) (As := [.int ((-1 : Int32)), .int (p1), .int (p2)]) (rest := []) S hKn hRm hD (c_X4_addToken l D G base E hv) (mo_X4_addToken hv) hk9 rfl (by decide) gX4_addCopy_X4_addToken rfl 3 (by decide +kernel) ⟨by rw [hfr]; decide, by rw [hlo]; decide⟩ rfl hl.1 (Nat.le_trans cs_0 (by decide)) rfl dX4_addCopy_4 (fun H locs cells slots hD => ?_)
  refine W.eq (g2 := F0 m 7 ls []) rfl ?_
  refine hw_aload_n (r := (some a0)) hx hb dX4_addCopy_7 rfl (lv_at hl 0 rfl) ?_
  refine lv_dup hx hb dX4_addCopy_8 (va_rf_cat _) ?_
  obtain ⟨x4, hv, hf⟩ := ob_s hf
  refine hw_gi (C := RX4) (T := TX4) (N := 5) (ref := "SolidGroups$TokenRow") S hKn hD hv rfl (by decide) (by decide) rfl inX4 wd0 (fun _ h9 => h9) dX4_addCopy_9 ?_
  refine lv_iconst (v := (3)) hx hb dX4_addCopy_12 (by decide) ?_
  refine lv_iadd hx hb dX4_addCopy_13 ?_
  obtain ⟨s5, hv, hf⟩ := ob_s hf
  refine hw_pi (C := RX4) (T := TX4) (N := 5) (ref := "SolidGroups$TokenRow") S hKn hD hv rfl (by decide) (by decide) rfl inX4 tyX4 tyX4_ok nmX4 wd0 (fun _ h9 => h9) rfl (by first | rfl | decide) (by first | rfl | decide) dX4_addCopy_14 (fun H locs hD => ?_)
  obtain ⟨-, e2⟩ := ret_eq hf
  rw [hQ, ← e2]
  exact hw_vret S hlk hret hD dX4_addCopy_17
set_option maxHeartbeats 4000000 in
set_option maxRecDepth 100000 in
theorem c_X4_addByte (l : Launch) (D : va_G) (G : GC) (base : Nat) (E : PE) {a0 : Nat} {p1 : Int32} {σ0 τ : PS} {rv : Unit} (hF : f_X4_addByte E (some a0) p1 σ0 = some (rv, τ)) : Ct l D G base E yX4_addByte wsX4_addByte 1 23 ([.ref a0, .int (p1)] : List Value) σ0 none τ := by
  obtain ⟨hf, hmo⟩ := oM_of hF
  refine Ct.of (own := RX4) [1, 1] (by decide) rfl rfl hmo (ct_R (ct_I ct_0)) (by decide) ?_
  intro p e s m below meth c R Q ls H locs cells slots S hKn hRm hfr hlo hlk hret hnm hQ hD hl
  have hx := S.1
  have hb := S.2.1
  have hts := S.2.2.2.2
  have inX4 : ∀ w ∈ u_ws RX4 TX4 5, w ∈ wsX4_addByte := by decide +kernel
  have wd0 := hts (.fieldLink RX4 25 "SolidGroups$TokenRow" "size" "I") (by decide +kernel)
  have hl : lv_has ls 2 [(0, va_rf (some a0)), (1, .int (p1))] := hl
  unfold g_X4_addByte at hf
  refine hw_aload_n (r := (some a0)) hx hb dX4_addByte_0 rfl (lv_at hl 0 rfl) ?_
  refine lv_iload_n hx hb dX4_addByte_1 rfl (lv_at hl 1 rfl) ?_
  refine lv_iconst (v := (0)) hx hb dX4_addByte_2 (by decide) ?_
  refine lv_iconst (v := (1)) hx hb dX4_addByte_3 (by decide) ?_
  obtain ⟨b3, hv, hf⟩ := ob_s hf
  obtain ⟨e9, hk9⟩ := oK_of hv
  cases e9
  obtain ⟨r1, s2, hv, hf⟩ := ob_p hf
  refine hw_V (b := a0) (ci := 5) (T := TX4) (N := 5) (As := [.int (p1), .int ((0 : Int32)), .int ((1 : Int32))]) (rest := []) S hKn hRm hD (c_X4_addToken l D G base E hv) (mo_X4_addToken hv) hk9 rfl (by decide) gX4_addByte_X4_addToken rfl 3 (by decide +kernel) ⟨by rw [hfr]; decide, by rw [hlo]; decide⟩ rfl hl.1 (Nat.le_trans cs_0 (by decide)) rfl dX4_addByte_4 (fun H locs cells slots hD => ?_)
  refine W.eq (g2 := F0 m 7 ls []) rfl ?_
  refine hw_aload_n (r := (some a0)) hx hb dX4_addByte_7 rfl (lv_at hl 0 rfl) ?_
  refine lv_dup hx hb dX4_addByte_8 (va_rf_cat _) ?_
  obtain ⟨x4, hv, hf⟩ := ob_s hf
  refine hw_gi (C := RX4) (T := TX4) (N := 5) (ref := "SolidGroups$TokenRow") S hKn hD hv rfl (by decide) (by decide) rfl inX4 wd0 (fun _ h9 => h9) dX4_addByte_9 ?_
  refine lv_iconst (v := (1)) hx hb dX4_addByte_12 (by decide) ?_
  refine lv_iadd hx hb dX4_addByte_13 ?_
  obtain ⟨s5, hv, hf⟩ := ob_s hf
  refine hw_pi (C := RX4) (T := TX4) (N := 5) (ref := "SolidGroups$TokenRow") S hKn hD hv rfl (by decide) (by decide) rfl inX4 tyX4 tyX4_ok nmX4 wd0 (fun _ h9 => h9) rfl (by first | rfl | decide) (by first | rfl | decide) dX4_addByte_14 (fun H locs hD => ?_)
  obtain ⟨-, e2⟩ := ret_eq hf
  rw [hQ, ← e2]
  exact hw_vret S hlk hret hD dX4_addByte_17
set_option maxHeartbeats 4000000 in
set_option maxRecDepth 100000 in
theorem c_X3_makeRow (l : Launch) (D : va_G) (G : GC) (base : Nat) (E : PE) {a0 : Nat} {p1 : Option Nat} {σ0 τ : PS} {rv : Unit} (hF : f_X3_makeRow E (some a0) p1 σ0 = some (rv, τ)) : Ct l D G base E yX3_makeRow wsX3_makeRow 4 88 ([.ref a0, va_rf (p1)] : List Value) σ0 none τ := by
  obtain ⟨hf, hmo⟩ := oM_of hF
  refine Ct.of (own := RX3) [1, 1] (by decide) rfl rfl hmo (ct_R (ct_A ct_0)) (by decide) ?_
  intro p e s m below meth c R Q ls H locs cells slots S hKn hRm hfr hlo hlk hret hnm hQ hD hl
  have hx := S.1
  have hb := S.2.1
  have hts := S.2.2.2.2
  have inX2 : ∀ w ∈ u_ws RX2 TX2 4, w ∈ wsX3_makeRow := by decide +kernel
  have inX3 : ∀ w ∈ u_ws RX3 TX3 4, w ∈ wsX3_makeRow := by decide +kernel
  have wd0 := hts (.fieldLink RX3 25 "SolidGroups$Group" "members" "Ljava/util/ArrayList;") (by decide +kernel)
  have wd1 := hts (.fieldLink RX3 35 "SolidGroups$Group" "row" "LSolidGroups$TokenRow;") (by decide +kernel)
  have wd2 := hts (.fieldLink RX3 15 "SolidGroups$RowMaker" "length" "I") (by decide +kernel)
  have wd3 := hts (.fieldLink RX3 22 "SolidGroups$RowMaker" "foundMany" "I") (by decide +kernel)
  have wd4 := hts (.fieldLink RX3 9 "SolidGroups$RowMaker" "content" "[I") (by decide +kernel)
  have wd5 := hts (.fieldLink RX3 19 "SolidGroups$RowMaker" "foundBack" "I") (by decide +kernel)
  have hL17 : ∀ (n : Nat), ∀ (v0 : Option Nat) (v1 : Option Nat) (v2 : Int32) (σ : PS) (H : Heap) (locs : List Loc) (cells slots : Nat) (ls : Array Slot), Dy D G base E s.heap σ0 σ H locs cells slots → lv_has ls 3 [(0, va_rf (v0)), (1, va_rf (v1)), (2, .int (v2))] → f_X3_makeRow_L17 E n v0 v1 v2 σ = some (rv, τ) → W p l e R s m ([.ref a0, va_rf (p1)] : List Value).toArray below meth c H locs cells slots Q (F0 m 17 ls []) := by
    intro n
    induction n with
    | zero =>
      intro v0 v1 v2 σ H locs cells slots ls hD hl hf
      rw [f_X3_makeRow_L17] at hf
      cases hf
    | succ n ih =>
      intro v0 v1 v2 σ H locs cells slots ls hD hl hf
      rw [f_X3_makeRow_L17] at hf
      refine lv_iload_n hx hb dX3_makeRow_17 rfl (lv_at hl 2 rfl) ?_
      refine hw_aload_n (r := v0) hx hb dX3_makeRow_18 rfl (lv_at hl 0 rfl) ?_
      obtain ⟨x9, hv, hf⟩ := ob_s hf
      refine hw_gi (C := RX3) (T := TX3) (N := 4) (ref := "SolidGroups$RowMaker") S hKn hD hv rfl (by decide) (by decide) rfl inX3 wd2 (fun _ h9 => h9) dX3_makeRow_19 ?_
      refine lv_icmp_ge (tgt := 82) hx hb dX3_makeRow_22 (by decide) (fun hc => ?_) (fun hc => ?_)
      · rw [if_pos hc] at hf
        obtain ⟨-, e2⟩ := ret_eq hf
        rw [hQ, ← e2]
        exact hw_vret S hlk hret hD dX3_makeRow_82
      · rw [if_neg hc] at hf
        refine hw_aload_n (r := v0) hx hb dX3_makeRow_25 rfl (lv_at hl 0 rfl) ?_
        refine lv_iload_n hx hb dX3_makeRow_26 rfl (lv_at hl 2 rfl) ?_
        obtain ⟨b12, hv, hf⟩ := ob_s hf
        obtain ⟨e9, hk9⟩ := oK_of hv
        cases e9
        obtain ⟨r10, s11, hv, hf⟩ := ob_p hf
        refine hw_V (b := b12) (ci := 4) (T := TX3) (N := 4) (As := [.int (v2)]) (rest := []) S hKn hRm hD (c_X3_findCopy l D G base E hv) (mo_X3_findCopy hv) hk9 rfl (by decide) gX3_makeRow_X3_findCopy rfl 1 (by decide +kernel) ⟨by rw [hfr]; decide, by rw [hlo]; decide⟩ rfl hl.1 (Nat.le_trans cs_0 (by decide)) rfl dX3_makeRow_27 (fun H locs cells slots hD => ?_)
        refine W.eq (g2 := F0 m 30 ls []) rfl ?_
        refine hw_aload_n (r := (some b12)) hx hb dX3_makeRow_30 rfl (lv_at hl 0 rfl) ?_
        obtain ⟨x13, hv, hf⟩ := ob_s hf
        refine hw_gi (C := RX3) (T := TX3) (N := 4) (ref := "SolidGroups$RowMaker") S hKn hD hv rfl (by decide) (by decide) rfl inX3 wd3 (fun _ h9 => h9) dX3_makeRow_31 ?_
        refine lv_iconst (v := (4)) hx hb dX3_makeRow_34 (by decide) ?_
        refine lv_icmp_lt (tgt := 63) hx hb dX3_makeRow_35 (by decide) (fun hc => ?_) (fun hc => ?_)
        · rw [if_pos hc] at hf
          refine hw_aload_n (r := v1) hx hb dX3_makeRow_63 rfl (lv_at hl 1 rfl) ?_
          obtain ⟨x14, hv, hf⟩ := ob_s hf
          refine hw_gr (C := RX2) (T := TX2) (N := 4) (ref := "SolidGroups$Group") S hKn hD hv rfl (by decide) (by decide) rfl inX2 wd1 (fun _ h9 => h9) dX3_makeRow_64 ?_
          refine hw_aload_n (r := (some b12)) hx hb dX3_makeRow_67 rfl (lv_at hl 0 rfl) ?_
          obtain ⟨x15, hv, hf⟩ := ob_s hf
          refine hw_gr (C := RX3) (T := TX3) (N := 4) (ref := "SolidGroups$RowMaker") S hKn hD hv rfl (by decide) (by decide) rfl inX3 wd4 (fun _ h9 => h9) dX3_makeRow_68 ?_
          refine lv_iload_n hx hb dX3_makeRow_71 rfl (lv_at hl 2 rfl) ?_
          obtain ⟨x16, hv, hf⟩ := ob_s hf
          refine hw_al S hKn hD hv dX3_makeRow_72 ?_
          obtain ⟨b19, hv, hf⟩ := ob_s hf
          obtain ⟨e9, hk9⟩ := oK_of hv
          cases e9
          obtain ⟨r17, s18, hv, hf⟩ := ob_p hf
          refine hw_V (b := b19) (ci := 5) (T := TX4) (N := 5) (As := [.int (x16)]) (rest := []) S hKn hRm hD (c_X4_addByte l D G base E hv) (mo_X4_addByte hv) hk9 rfl (by decide) gX3_makeRow_X4_addByte rfl 1 (by decide +kernel) ⟨by rw [hfr]; decide, by rw [hlo]; decide⟩ rfl hl.1 (Nat.le_trans cs_0 (by decide)) rfl dX3_makeRow_73 (fun H locs cells slots hD => ?_)
          refine W.eq (g2 := F0 m 76 ls []) rfl ?_
          refine hs_iinc (i := 2) (k := 2) (v := v2 + 1) (lv' := [(2, .int (v2 + 1)), (0, va_rf ((some b12))), (1, va_rf (v1))]) hx hb dX3_makeRow_76 hl rfl (congrArg (fun z => v2 + z) (by decide)) (by decide) (st_okR (st_okR (st_okI st_ok0))) rfl (fun ls hl => ?_)
          refine lv_goto (tgt := 17) hx hb dX3_makeRow_79 (by decide) ?_
          exact ih (some b12) v1 (v2 + 1) _ _ _ _ _ _ hD (lv_sub hl [1, 2, 0] rfl) hf
        · rw [if_neg hc] at hf
          refine hw_aload_n (r := v1) hx hb dX3_makeRow_38 rfl (lv_at hl 1 rfl) ?_
          obtain ⟨x20, hv, hf⟩ := ob_s hf
          refine hw_gr (C := RX2) (T := TX2) (N := 4) (ref := "SolidGroups$Group") S hKn hD hv rfl (by decide) (by decide) rfl inX2 wd1 (fun _ h9 => h9) dX3_makeRow_39 ?_
          refine hw_aload_n (r := (some b12)) hx hb dX3_makeRow_42 rfl (lv_at hl 0 rfl) ?_
          obtain ⟨x21, hv, hf⟩ := ob_s hf
          refine hw_gi (C := RX3) (T := TX3) (N := 4) (ref := "SolidGroups$RowMaker") S hKn hD hv rfl (by decide) (by decide) rfl inX3 wd5 (fun _ h9 => h9) dX3_makeRow_43 ?_
          refine hw_aload_n (r := (some b12)) hx hb dX3_makeRow_46 rfl (lv_at hl 0 rfl) ?_
          obtain ⟨x22, hv, hf⟩ := ob_s hf
          refine hw_gi (C := RX3) (T := TX3) (N := 4) (ref := "SolidGroups$RowMaker") S hKn hD hv rfl (by decide) (by decide) rfl inX3 wd3 (fun _ h9 => h9) dX3_makeRow_47 ?_
          obtain ⟨b25, hv, hf⟩ := ob_s hf
          obtain ⟨e9, hk9⟩ := oK_of hv
          cases e9
          obtain ⟨r23, s24, hv, hf⟩ := ob_p hf
          refine hw_V (b := b25) (ci := 5) (T := TX4) (N := 5) (As := [.int (x21), .int (x22)]) (rest := []) S hKn hRm hD (c_X4_addCopy l D G base E hv) (mo_X4_addCopy hv) hk9 rfl (by decide) gX3_makeRow_X4_addCopy rfl 2 (by decide +kernel) ⟨by rw [hfr]; decide, by rw [hlo]; decide⟩ rfl hl.1 (Nat.le_trans cs_0 (by decide)) rfl dX3_makeRow_50 (fun H locs cells slots hD => ?_)
          refine W.eq (g2 := F0 m 53 ls []) rfl ?_
          refine lv_iload_n hx hb dX3_makeRow_53 rfl (lv_at hl 2 rfl) ?_
          refine hw_aload_n (r := (some b12)) hx hb dX3_makeRow_54 rfl (lv_at hl 0 rfl) ?_
          obtain ⟨x26, hv, hf⟩ := ob_s hf
          refine hw_gi (C := RX3) (T := TX3) (N := 4) (ref := "SolidGroups$RowMaker") S hKn hD hv rfl (by decide) (by decide) rfl inX3 wd3 (fun _ h9 => h9) dX3_makeRow_55 ?_
          refine lv_iadd hx hb dX3_makeRow_58 ?_
          refine hs_istore_n (i := 2) (lv' := [(2, .int (v2 + x26)), (0, va_rf ((some b12))), (1, va_rf (v1))]) hx hb dX3_makeRow_59 rfl hl (by decide) (st_okR (st_okR (st_okI st_ok0))) rfl (fun ls hl => ?_)
          refine lv_goto (tgt := 17) hx hb dX3_makeRow_60 (by decide) ?_
          exact ih (some b12) v1 (v2 + x26) _ _ _ _ _ _ hD (lv_sub hl [1, 2, 0] rfl) hf
  have hl : lv_has ls 3 [(0, va_rf (some a0)), (1, va_rf (p1))] := hl
  unfold g_X3_makeRow at hf
  refine hw_aload_n (r := (some a0)) hx hb dX3_makeRow_0 rfl (lv_at hl 0 rfl) ?_
  refine hw_aload_n (r := p1) hx hb dX3_makeRow_1 rfl (lv_at hl 1 rfl) ?_
  obtain ⟨x1, hv, hf⟩ := ob_s hf
  refine hw_gr (C := RX2) (T := TX2) (N := 4) (ref := "SolidGroups$Group") S hKn hD hv rfl (by decide) (by decide) rfl inX2 wd0 (fun _ h9 => h9) dX3_makeRow_2 ?_
  obtain ⟨b4, hv, hf⟩ := ob_s hf
  obtain ⟨e9, hk9⟩ := oK_of hv
  cases e9
  obtain ⟨r2, s3, hv, hf⟩ := ob_p hf
  refine hw_V (b := a0) (ci := 4) (T := TX3) (N := 4) (As := [va_rf (x1)]) (rest := []) S hKn hRm hD (c_X3_gather l D G base E hv) (mo_X3_gather hv) hk9 rfl (by decide) gX3_makeRow_X3_gather rfl 1 (by decide +kernel) ⟨by rw [hfr]; decide, by rw [hlo]; decide⟩ rfl hl.1 (Nat.le_trans cs_0 (by decide)) rfl dX3_makeRow_5 (fun H locs cells slots hD => ?_)
  refine W.eq (g2 := F0 m 8 ls []) rfl ?_
  refine hw_aload_n (r := p1) hx hb dX3_makeRow_8 rfl (lv_at hl 1 rfl) ?_
  obtain ⟨x5, hv, hf⟩ := ob_s hf
  refine hw_gr (C := RX2) (T := TX2) (N := 4) (ref := "SolidGroups$Group") S hKn hD hv rfl (by decide) (by decide) rfl inX2 wd1 (fun _ h9 => h9) dX3_makeRow_9 ?_
  obtain ⟨b8, hv, hf⟩ := ob_s hf
  obtain ⟨e9, hk9⟩ := oK_of hv
  cases e9
  obtain ⟨r6, s7, hv, hf⟩ := ob_p hf
  refine hw_V (b := b8) (ci := 5) (T := TX4) (N := 5) (As := []) (rest := []) S hKn hRm hD (c_X4_clear l D G base E hv) (mo_X4_clear hv) hk9 rfl (by decide) gX3_makeRow_X4_clear rfl 0 (by decide +kernel) ⟨by rw [hfr]; decide, by rw [hlo]; decide⟩ rfl hl.1 (Nat.le_trans cs_0 (by decide)) rfl dX3_makeRow_12 (fun H locs cells slots hD => ?_)
  refine W.eq (g2 := F0 m 15 ls []) rfl ?_
  refine lv_iconst (v := (0)) hx hb dX3_makeRow_15 (by decide) ?_
  refine hs_istore_n (i := 2) (lv' := [(2, .int ((0 : Int32))), (0, va_rf ((some a0))), (1, va_rf (p1))]) hx hb dX3_makeRow_16 rfl hl (by decide) (st_okR (st_okR st_ok0)) rfl (fun ls hl => ?_)
  exact hL17 _ (some a0) p1 (0 : Int32) _ _ _ _ _ _ hD (lv_sub hl [1, 2, 0] rfl) hf
set_option maxHeartbeats 4000000 in
set_option maxRecDepth 100000 in
theorem c_X5_packChanged (l : Launch) (D : va_G) (G : GC) (base : Nat) (E : PE) {a0 : Nat} {p1 : Option Nat} {σ0 τ : PS} {rv : Unit} (hF : f_X5_packChanged E (some a0) p1 σ0 = some (rv, τ)) : Ct l D G base E yX5_packChanged wsX5_packChanged 9 238 ([.ref a0, va_rf (p1)] : List Value) σ0 none τ := by
  obtain ⟨hf, hmo⟩ := oM_of hF
  refine Ct.of (own := RX5) [1, 1] (by decide) rfl rfl hmo (ct_R (ct_A ct_0)) (by decide) ?_
  intro p e s m below meth c R Q ls H locs cells slots S hKn hRm hfr hlo hlk hret hnm hQ hD hl
  have hx := S.1
  have hb := S.2.1
  have hts := S.2.2.2.2
  have inX5 : ∀ w ∈ u_ws RX5 TX5 8, w ∈ wsX5_packChanged := by decide +kernel
  have inX2 : ∀ w ∈ u_ws RX2 TX2 4, w ∈ wsX5_packChanged := by decide +kernel
  have wd0 := hts (.fieldLink RX5 35 "SolidGroups" "rowMaker" "LSolidGroups$RowMaker;") (by decide +kernel)
  have wd1 := hts (.fieldLink RX5 176 "SolidGroups$Group" "madeAnew" "I") (by decide +kernel)
  have hB28 : ∀ (σ : PS) (H : Heap) (locs : List Loc) (cells slots : Nat) (ls : Array Slot), Dy D G base E s.heap σ0 σ H locs cells slots → lv_has ls 3 [] → f_X5_packChanged_B28 E σ = some (rv, τ) → W p l e R s m ([.ref a0, va_rf (p1)] : List Value).toArray below meth c H locs cells slots Q (F0 m 28 ls []) := by
    intro σ H locs cells slots ls hD hl hf
    unfold f_X5_packChanged_B28 at hf
    obtain ⟨-, e2⟩ := ret_eq hf
    rw [hQ, ← e2]
    exact hw_vret S hlk hret hD dX5_packChanged_28
  have hl : lv_has ls 3 [(0, va_rf (some a0)), (1, va_rf (p1))] := hl
  unfold g_X5_packChanged at hf
  refine hw_aload_n (r := (some a0)) hx hb dX5_packChanged_0 rfl (lv_at hl 0 rfl) ?_
  refine hw_aload_n (r := p1) hx hb dX5_packChanged_1 rfl (lv_at hl 1 rfl) ?_
  obtain ⟨b3, hv, hf⟩ := ob_s hf
  obtain ⟨e9, hk9⟩ := oK_of hv
  cases e9
  obtain ⟨r1, s2, hv, hf⟩ := ob_p hf
  refine hw_V (b := a0) (ci := 6) (T := TX5) (N := 8) (As := [va_rf (p1)]) (rest := []) S hKn hRm hD (c_X5_homeOfChanged l D G base E hv) (mo_X5_homeOfChanged hv) hk9 rfl (by decide) gX5_packChanged_X5_homeOfChanged rfl 1 (by decide +kernel) ⟨by rw [hfr]; decide, by rw [hlo]; decide⟩ rfl hl.1 (Nat.le_trans cs_0 (by decide)) rfl dX5_packChanged_2 (fun H locs cells slots hD => ?_)
  refine W.eq (g2 := F0 m 5 ls [va_rf (r1)]) rfl ?_
  refine hs_astore_n (i := 2) (lv' := [(2, va_rf (r1)), (0, va_rf ((some a0))), (1, va_rf (p1))]) hx hb dX5_packChanged_5 rfl hl (by decide) (st_okR (st_okR st_ok0)) rfl (fun ls hl => ?_)
  refine hw_aload_n (r := r1) hx hb dX5_packChanged_6 rfl (lv_at hl 0 rfl) ?_
  refine hw_ifnull (tgt := 28) hx hb dX5_packChanged_7 (by decide) (fun hc => ?_) (fun hc => ?_)
  · rw [if_pos hc] at hf
    exact hB28 _ _ _ _ _ _ hD (lv_sub hl [] rfl) hf
  · rw [if_neg hc] at hf
    refine hw_aload_n (r := (some a0)) hx hb dX5_packChanged_10 rfl (lv_at hl 1 rfl) ?_
    obtain ⟨x4, hv, hf⟩ := ob_s hf
    refine hw_gr (C := RX5) (T := TX5) (N := 8) (ref := "SolidGroups") S hKn hD hv rfl (by decide) (by decide) rfl inX5 wd0 (fun _ h9 => h9) dX5_packChanged_11 ?_
    refine hw_aload_n (r := r1) hx hb dX5_packChanged_14 rfl (lv_at hl 0 rfl) ?_
    obtain ⟨b7, hv, hf⟩ := ob_s hf
    obtain ⟨e9, hk9⟩ := oK_of hv
    cases e9
    obtain ⟨r5, s6, hv, hf⟩ := ob_p hf
    refine hw_V (b := b7) (ci := 4) (T := TX3) (N := 4) (As := [va_rf (r1)]) (rest := []) S hKn hRm hD (c_X3_makeRow l D G base E hv) (mo_X3_makeRow hv) hk9 rfl (by decide) gX5_packChanged_X3_makeRow rfl 1 (by decide +kernel) ⟨by rw [hfr]; decide, by rw [hlo]; decide⟩ rfl hl.1 (Nat.le_trans cs_0 (by decide)) rfl dX5_packChanged_15 (fun H locs cells slots hD => ?_)
    refine W.eq (g2 := F0 m 18 ls []) rfl ?_
    refine hw_aload_n (r := r1) hx hb dX5_packChanged_18 rfl (lv_at hl 0 rfl) ?_
    refine lv_dup hx hb dX5_packChanged_19 (va_rf_cat _) ?_
    obtain ⟨x8, hv, hf⟩ := ob_s hf
    refine hw_gi (C := RX2) (T := TX2) (N := 4) (ref := "SolidGroups$Group") S hKn hD hv rfl (by decide) (by decide) rfl inX2 wd1 (fun _ h9 => h9) dX5_packChanged_20 ?_
    refine lv_iconst (v := (1)) hx hb dX5_packChanged_23 (by decide) ?_
    refine lv_iadd hx hb dX5_packChanged_24 ?_
    obtain ⟨s9, hv, hf⟩ := ob_s hf
    refine hw_pi (C := RX2) (T := TX2) (N := 4) (ref := "SolidGroups$Group") S hKn hD hv rfl (by decide) (by decide) rfl inX2 tyX2 tyX2_ok nmX2 wd1 (fun _ h9 => h9) rfl (by first | rfl | decide) (by first | rfl | decide) dX5_packChanged_25 (fun H locs hD => ?_)
    exact hB28 _ _ _ _ _ _ hD (lv_sub hl [] rfl) hf
set_option maxHeartbeats 4000000 in
set_option maxRecDepth 100000 in
theorem c_X5_change (l : Launch) (D : va_G) (G : GC) (base : Nat) (E : PE) {a0 : Nat} {p1 : Int32} {p2 : Int32} {p3 : Int32} {σ0 τ : PS} {rv : Int32} (hF : f_X5_change E (some a0) p1 p2 p3 σ0 = some (rv, τ)) : Ct l D G base E yX5_change wsX5_change 10 260 ([.ref a0, .int (p1), .int (p2), .int (p3)] : List Value) σ0 (some (.int rv)) τ := by
  obtain ⟨hf, hmo⟩ := oM_of hF
  refine Ct.of (own := RX5) [1, 1, 1, 1] (by decide) rfl rfl hmo (ct_R (ct_I (ct_I (ct_I ct_0)))) (by decide) ?_
  intro p e s m below meth c R Q ls H locs cells slots S hKn hRm hfr hlo hlk hret hnm hQ hD hl
  have hx := S.1
  have hb := S.2.1
  have hts := S.2.2.2.2
  have inX5 : ∀ w ∈ u_ws RX5 TX5 8, w ∈ wsX5_change := by decide +kernel
  have inX1 : ∀ w ∈ u_ws RX1 TX1 6, w ∈ wsX5_change := by decide +kernel
  have wd0 := hts (.fieldLink RX5 10 "SolidGroups" "entries" "Ljava/util/ArrayList;") (by decide +kernel)
  have wd1 := hts (.classLink RX5 55 "SolidGroups$Entry") (by decide +kernel)
  have wd2 := hts (.fieldLink RX5 82 "SolidGroups$Entry" "bytes" "[I") (by decide +kernel)
  have wd3 := hts (.fieldLink RX5 39 "SolidGroups" "packed" "Z") (by decide +kernel)
  have hB20 : ∀ (σ : PS) (H : Heap) (locs : List Loc) (cells slots : Nat) (ls : Array Slot), Dy D G base E s.heap σ0 σ H locs cells slots → lv_has ls 6 [] → f_X5_change_B20 E σ = some (rv, τ) → W p l e R s m ([.ref a0, .int (p1), .int (p2), .int (p3)] : List Value).toArray below meth c H locs cells slots Q (F0 m 20 ls []) := by
    intro σ H locs cells slots ls hD hl hf
    unfold f_X5_change_B20 at hf
    refine lv_iconst (v := (-1)) hx hb dX5_change_20 (by decide) ?_
    obtain ⟨e1, e2⟩ := ret_eq hf
    rw [hQ, ← e1, ← e2]
    exact hw_iret S hlk hret rfl hD dX5_change_21
  have hB70 : ∀ (v5 : Int32) (σ : PS) (H : Heap) (locs : List Loc) (cells slots : Nat) (ls : Array Slot), Dy D G base E s.heap σ0 σ H locs cells slots → lv_has ls 6 [(5, .int (v5))] → f_X5_change_B70 E v5 σ = some (rv, τ) → W p l e R s m ([.ref a0, .int (p1), .int (p2), .int (p3)] : List Value).toArray below meth c H locs cells slots Q (F0 m 70 ls []) := by
    intro v5 σ H locs cells slots ls hD hl hf
    unfold f_X5_change_B70 at hf
    refine lv_iload hx hb dX5_change_70 (lv_at hl 0 rfl) ?_
    obtain ⟨e1, e2⟩ := ret_eq hf
    rw [hQ, ← e1, ← e2]
    exact hw_iret S hlk hret rfl hD dX5_change_72
  have hl : lv_has ls 6 [(0, va_rf (some a0)), (1, .int (p1)), (2, .int (p2)), (3, .int (p3))] := hl
  unfold g_X5_change at hf
  refine hw_aload_n (r := (some a0)) hx hb dX5_change_0 rfl (lv_at hl 0 rfl) ?_
  refine lv_iload_n hx hb dX5_change_1 rfl (lv_at hl 1 rfl) ?_
  refine lv_iload_n hx hb dX5_change_2 rfl (lv_at hl 2 rfl) ?_
  obtain ⟨b3, hv, hf⟩ := ob_s hf
  obtain ⟨e9, hk9⟩ := oK_of hv
  cases e9
  obtain ⟨r1, s2, hv, hf⟩ := ob_p hf
  refine hw_V (b := a0) (ci := 6) (T := TX5) (N := 8) (As := [.int (p1), .int (p2)]) (rest := []) S hKn hRm hD (c_X5_isByteOf l D G base E hv) (mo_X5_isByteOf hv) hk9 rfl (by decide) gX5_change_X5_isByteOf rfl 2 (by decide +kernel) ⟨by rw [hfr]; decide, by rw [hlo]; decide⟩ rfl hl.1 (Nat.le_trans cs_0 (by decide)) rfl dX5_change_3 (fun H locs cells slots hD => ?_)
  refine W.eq (g2 := F0 m 6 ls [.int (r1)]) rfl ?_
  refine lv_if_eq (tgt := 20) hx hb dX5_change_6 (by decide) (fun hc => ?_) (fun hc => ?_)
  · rw [if_pos hc] at hf
    exact hB20 _ _ _ _ _ _ hD (lv_sub hl [] rfl) hf
  · rw [if_neg hc] at hf
    refine lv_iload_n hx hb dX5_change_9 rfl (lv_at hl 3 rfl) ?_
    refine lv_if_lt (tgt := 20) hx hb dX5_change_10 (by decide) (fun hc => ?_) (fun hc => ?_)
    · rw [if_pos hc] at hf
      exact hB20 _ _ _ _ _ _ hD (lv_sub hl [] rfl) hf
    · rw [if_neg hc] at hf
      refine lv_iload_n hx hb dX5_change_13 rfl (lv_at hl 3 rfl) ?_
      refine lv_sipush (v := (256)) hx hb dX5_change_14 (by decide) ?_
      refine lv_icmp_lt (tgt := 22) hx hb dX5_change_17 (by decide) (fun hc => ?_) (fun hc => ?_)
      · rw [if_pos hc] at hf
        refine hw_aload_n (r := (some a0)) hx hb dX5_change_22 rfl (lv_at hl 0 rfl) ?_
        obtain ⟨x4, hv, hf⟩ := ob_s hf
        refine hw_gr (C := RX5) (T := TX5) (N := 8) (ref := "SolidGroups") S hKn hD hv rfl (by decide) (by decide) rfl inX5 wd0 (fun _ h9 => h9) dX5_change_23 ?_
        refine lv_iload_n hx hb dX5_change_26 rfl (lv_at hl 1 rfl) ?_
        obtain ⟨b7, hv, hf⟩ := ob_s hf
        obtain ⟨e9, hk9⟩ := oK_of hv
        cases e9
        obtain ⟨r5, s6, hv, hf⟩ := ob_p hf
        refine hw_V (b := b7) (ci := 0) (T := TJx4a65c) (N := 3) (As := [.int (p1)]) (rest := []) S hKn hRm hD (c_Jx4a65c_get_915e3 l D G base E hv) (mo_Jx4a65c_get_915e3 hv) hk9 rfl (by decide) gX5_change_Jx4a65c_get_915e3 rfl 1 (by decide +kernel) ⟨by rw [hfr]; decide, by rw [hlo]; decide⟩ rfl hl.1 (Nat.le_trans cs_0 (by decide)) rfl dX5_change_27 (fun H locs cells slots hD => ?_)
        refine W.eq (g2 := F0 m 30 ls [va_rf (r5)]) rfl ?_
        obtain ⟨u8, hv, hf⟩ := ob_s hf
        refine hw_ca (C := RX1) (T := TX1) (N := 6) S hKn hD hv rfl (by decide) wd1 dX5_change_30 ?_
        refine hs_astore (i := 4) (lv' := [(4, va_rf (r5)), (0, va_rf ((some a0))), (1, .int (p1)), (2, .int (p2)), (3, .int (p3))]) hx hb dX5_change_33 hl (by decide) (st_okR (st_okI (st_okI (st_okI st_ok0)))) rfl (fun ls hl => ?_)
        refine hw_aload (r := r5) hx hb dX5_change_35 (lv_at hl 0 rfl) ?_
        obtain ⟨x9, hv, hf⟩ := ob_s hf
        refine hw_gr (C := RX1) (T := TX1) (N := 6) (ref := "SolidGroups$Entry") S hKn hD hv rfl (by decide) (by decide) rfl inX1 wd2 (fun _ h9 => h9) dX5_change_37 ?_
        refine lv_iload_n hx hb dX5_change_40 rfl (lv_at hl 3 rfl) ?_
        obtain ⟨x10, hv, hf⟩ := ob_s hf
        refine hw_al S hKn hD hv dX5_change_41 ?_
        refine hs_istore (i := 5) (lv' := [(5, .int (x10)), (4, va_rf (r5)), (0, va_rf ((some a0))), (1, .int (p1)), (2, .int (p2)), (3, .int (p3))]) hx hb dX5_change_42 hl (by decide) (st_okR (st_okR (st_okI (st_okI (st_okI st_ok0))))) rfl (fun ls hl => ?_)
        refine lv_iload hx hb dX5_change_44 (lv_at hl 0 rfl) ?_
        refine lv_iload_n hx hb dX5_change_46 rfl (lv_at hl 5 rfl) ?_
        refine lv_icmp_eq (tgt := 70) hx hb dX5_change_47 (by decide) (fun hc => ?_) (fun hc => ?_)
        · rw [if_pos hc] at hf
          exact hB70 x10 _ _ _ _ _ _ hD (lv_sub hl [0] rfl) hf
        · rw [if_neg hc] at hf
          refine hw_aload (r := r5) hx hb dX5_change_50 (lv_at hl 1 rfl) ?_
          refine lv_iload_n hx hb dX5_change_52 rfl (lv_at hl 4 rfl) ?_
          refine lv_iload_n hx hb dX5_change_53 rfl (lv_at hl 5 rfl) ?_
          obtain ⟨b13, hv, hf⟩ := ob_s hf
          obtain ⟨e9, hk9⟩ := oK_of hv
          cases e9
          obtain ⟨r11, s12, hv, hf⟩ := ob_p hf
          refine hw_V (b := b13) (ci := 2) (T := TX1) (N := 6) (As := [.int (p2), .int (p3)]) (rest := []) S hKn hRm hD (c_X1_replace l D G base E hv) (mo_X1_replace hv) hk9 rfl (by decide) gX5_change_X1_replace rfl 2 (by decide +kernel) ⟨by rw [hfr]; decide, by rw [hlo]; decide⟩ rfl hl.1 (Nat.le_trans cs_0 (by decide)) rfl dX5_change_54 (fun H locs cells slots hD => ?_)
          refine W.eq (g2 := F0 m 57 ls []) rfl ?_
          refine hw_aload_n (r := (some a0)) hx hb dX5_change_57 rfl (lv_at hl 2 rfl) ?_
          obtain ⟨x14, hv, hf⟩ := ob_s hf
          refine hw_gi (C := RX5) (T := TX5) (N := 8) (ref := "SolidGroups") S hKn hD hv rfl (by decide) (by decide) rfl inX5 wd3 (fun _ h9 => h9) dX5_change_58 ?_
          refine lv_if_eq (tgt := 70) hx hb dX5_change_61 (by decide) (fun hc => ?_) (fun hc => ?_)
          · rw [if_pos hc] at hf
            exact hB70 x10 _ _ _ _ _ _ hD (lv_sub hl [0] rfl) hf
          · rw [if_neg hc] at hf
            refine hw_aload_n (r := (some a0)) hx hb dX5_change_64 rfl (lv_at hl 2 rfl) ?_
            refine hw_aload (r := (some b13)) hx hb dX5_change_65 (lv_at hl 1 rfl) ?_
            obtain ⟨b17, hv, hf⟩ := ob_s hf
            obtain ⟨e9, hk9⟩ := oK_of hv
            cases e9
            obtain ⟨r15, s16, hv, hf⟩ := ob_p hf
            refine hw_V (b := a0) (ci := 6) (T := TX5) (N := 8) (As := [va_rf ((some b13))]) (rest := []) S hKn hRm hD (c_X5_packChanged l D G base E hv) (mo_X5_packChanged hv) hk9 rfl (by decide) gX5_change_X5_packChanged rfl 1 (by decide +kernel) ⟨by rw [hfr]; decide, by rw [hlo]; decide⟩ rfl hl.1 (Nat.le_trans cs_0 (by decide)) rfl dX5_change_67 (fun H locs cells slots hD => ?_)
            refine W.eq (g2 := F0 m 70 ls []) rfl ?_
            exact hB70 x10 _ _ _ _ _ _ hD (lv_sub hl [0] rfl) hf
      · rw [if_neg hc] at hf
        exact hB20 _ _ _ _ _ _ hD (lv_sub hl [] rfl) hf
set_option maxHeartbeats 4000000 in
set_option maxRecDepth 100000 in
theorem c_X1_isLike (l : Launch) (D : va_G) (G : GC) (base : Nat) (E : PE) {a0 : Nat} {p1 : Option Nat} {σ0 τ : PS} {rv : Int32} (hF : f_X1_isLike E (some a0) p1 σ0 = some (rv, τ)) : Ct l D G base E yX1_isLike wsX1_isLike 0 0 ([.ref a0, va_rf (p1)] : List Value) σ0 (some (.int rv)) τ := by
  obtain ⟨hf, hmo⟩ := oM_of hF
  refine Ct.of (own := RX1) [1, 1] (by decide) rfl rfl hmo (ct_R (ct_A ct_0)) (by decide) ?_
  intro p e s m below meth c R Q ls H locs cells slots S hKn hRm hfr hlo hlk hret hnm hQ hD hl
  have hx := S.1
  have hb := S.2.1
  have hts := S.2.2.2.2
  have inX1 : ∀ w ∈ u_ws RX1 TX1 6, w ∈ wsX1_isLike := by decide +kernel
  have wd0 := hts (.fieldLink RX1 25 "SolidGroups$Entry" "kind" "I") (by decide +kernel)
  have wd1 := hts (.fieldLink RX1 18 "SolidGroups$Entry" "length" "I") (by decide +kernel)
  have wd2 := hts (.fieldLink RX1 9 "SolidGroups$Entry" "bytes" "[I") (by decide +kernel)
  have hB22 : ∀ (σ : PS) (H : Heap) (locs : List Loc) (cells slots : Nat) (ls : Array Slot), Dy D G base E s.heap σ0 σ H locs cells slots → lv_has ls 3 [] → f_X1_isLike_B22 E σ = some (rv, τ) → W p l e R s m ([.ref a0, va_rf (p1)] : List Value).toArray below meth c H locs cells slots Q (F0 m 22 ls []) := by
    intro σ H locs cells slots ls hD hl hf
    unfold f_X1_isLike_B22 at hf
    refine lv_iconst (v := (0)) hx hb dX1_isLike_22 (by decide) ?_
    obtain ⟨e1, e2⟩ := ret_eq hf
    rw [hQ, ← e1, ← e2]
    exact hw_iret S hlk hret (by decide) hD dX1_isLike_23
  have hL26 : ∀ (n : Nat), ∀ (v0 : Option Nat) (v1 : Option Nat) (v2 : Int32) (σ : PS) (H : Heap) (locs : List Loc) (cells slots : Nat) (ls : Array Slot), Dy D G base E s.heap σ0 σ H locs cells slots → lv_has ls 3 [(0, va_rf (v0)), (1, va_rf (v1)), (2, .int (v2))] → f_X1_isLike_L26 E n v0 v1 v2 σ = some (rv, τ) → W p l e R s m ([.ref a0, va_rf (p1)] : List Value).toArray below meth c H locs cells slots Q (F0 m 26 ls []) := by
    intro n
    induction n with
    | zero =>
      intro v0 v1 v2 σ H locs cells slots ls hD hl hf
      rw [f_X1_isLike_L26] at hf
      cases hf
    | succ n ih =>
      intro v0 v1 v2 σ H locs cells slots ls hD hl hf
      rw [f_X1_isLike_L26] at hf
      refine lv_iload_n hx hb dX1_isLike_26 rfl (lv_at hl 2 rfl) ?_
      refine hw_aload_n (r := v0) hx hb dX1_isLike_27 rfl (lv_at hl 0 rfl) ?_
      obtain ⟨x5, hv, hf⟩ := ob_s hf
      refine hw_gi (C := RX1) (T := TX1) (N := 6) (ref := "SolidGroups$Entry") S hKn hD hv rfl (by decide) (by decide) rfl inX1 wd1 (fun _ h9 => h9) dX1_isLike_28 ?_
      refine lv_icmp_ge (tgt := 57) hx hb dX1_isLike_31 (by decide) (fun hc => ?_) (fun hc => ?_)
      · rw [if_pos hc] at hf
        refine lv_iconst (v := (1)) hx hb dX1_isLike_57 (by decide) ?_
        obtain ⟨e1, e2⟩ := ret_eq hf
        rw [hQ, ← e1, ← e2]
        exact hw_iret S hlk hret (by decide) hD dX1_isLike_58
      · rw [if_neg hc] at hf
        refine hw_aload_n (r := v0) hx hb dX1_isLike_34 rfl (lv_at hl 0 rfl) ?_
        obtain ⟨x6, hv, hf⟩ := ob_s hf
        refine hw_gr (C := RX1) (T := TX1) (N := 6) (ref := "SolidGroups$Entry") S hKn hD hv rfl (by decide) (by decide) rfl inX1 wd2 (fun _ h9 => h9) dX1_isLike_35 ?_
        refine lv_iload_n hx hb dX1_isLike_38 rfl (lv_at hl 2 rfl) ?_
        obtain ⟨x7, hv, hf⟩ := ob_s hf
        refine hw_al S hKn hD hv dX1_isLike_39 ?_
        refine hw_aload_n (r := v1) hx hb dX1_isLike_40 rfl (lv_at hl 1 rfl) ?_
        obtain ⟨x8, hv, hf⟩ := ob_s hf
        refine hw_gr (C := RX1) (T := TX1) (N := 6) (ref := "SolidGroups$Entry") S hKn hD hv rfl (by decide) (by decide) rfl inX1 wd2 (fun _ h9 => h9) dX1_isLike_41 ?_
        refine lv_iload_n hx hb dX1_isLike_44 rfl (lv_at hl 2 rfl) ?_
        obtain ⟨x9, hv, hf⟩ := ob_s hf
        refine hw_al S hKn hD hv dX1_isLike_45 ?_
        refine lv_icmp_eq (tgt := 51) hx hb dX1_isLike_46 (by decide) (fun hc => ?_) (fun hc => ?_)
        · rw [if_pos hc] at hf
          refine hs_iinc (i := 2) (k := 2) (v := v2 + 1) (lv' := [(2, .int (v2 + 1)), (0, va_rf (v0)), (1, va_rf (v1))]) hx hb dX1_isLike_51 hl rfl (congrArg (fun z => v2 + z) (by decide)) (by decide) (st_okR (st_okR (st_okI st_ok0))) rfl (fun ls hl => ?_)
          refine lv_goto (tgt := 26) hx hb dX1_isLike_54 (by decide) ?_
          exact ih v0 v1 (v2 + 1) _ _ _ _ _ _ hD (lv_sub hl [1, 2, 0] rfl) hf
        · rw [if_neg hc] at hf
          refine lv_iconst (v := (0)) hx hb dX1_isLike_49 (by decide) ?_
          obtain ⟨e1, e2⟩ := ret_eq hf
          rw [hQ, ← e1, ← e2]
          exact hw_iret S hlk hret (by decide) hD dX1_isLike_50
  have hl : lv_has ls 3 [(0, va_rf (some a0)), (1, va_rf (p1))] := hl
  unfold g_X1_isLike at hf
  refine hw_aload_n (r := (some a0)) hx hb dX1_isLike_0 rfl (lv_at hl 0 rfl) ?_
  obtain ⟨x1, hv, hf⟩ := ob_s hf
  refine hw_gi (C := RX1) (T := TX1) (N := 6) (ref := "SolidGroups$Entry") S hKn hD hv rfl (by decide) (by decide) rfl inX1 wd0 (fun _ h9 => h9) dX1_isLike_1 ?_
  refine hw_aload_n (r := p1) hx hb dX1_isLike_4 rfl (lv_at hl 1 rfl) ?_
  obtain ⟨x2, hv, hf⟩ := ob_s hf
  refine hw_gi (C := RX1) (T := TX1) (N := 6) (ref := "SolidGroups$Entry") S hKn hD hv rfl (by decide) (by decide) rfl inX1 wd0 (fun _ h9 => h9) dX1_isLike_5 ?_
  refine lv_icmp_ne (tgt := 22) hx hb dX1_isLike_8 (by decide) (fun hc => ?_) (fun hc => ?_)
  · rw [if_neg hc] at hf
    exact hB22 _ _ _ _ _ _ hD (lv_sub hl [] rfl) hf
  · rw [if_pos hc] at hf
    refine hw_aload_n (r := (some a0)) hx hb dX1_isLike_11 rfl (lv_at hl 0 rfl) ?_
    obtain ⟨x3, hv, hf⟩ := ob_s hf
    refine hw_gi (C := RX1) (T := TX1) (N := 6) (ref := "SolidGroups$Entry") S hKn hD hv rfl (by decide) (by decide) rfl inX1 wd1 (fun _ h9 => h9) dX1_isLike_12 ?_
    refine hw_aload_n (r := p1) hx hb dX1_isLike_15 rfl (lv_at hl 1 rfl) ?_
    obtain ⟨x4, hv, hf⟩ := ob_s hf
    refine hw_gi (C := RX1) (T := TX1) (N := 6) (ref := "SolidGroups$Entry") S hKn hD hv rfl (by decide) (by decide) rfl inX1 wd1 (fun _ h9 => h9) dX1_isLike_16 ?_
    refine lv_icmp_eq (tgt := 24) hx hb dX1_isLike_19 (by decide) (fun hc => ?_) (fun hc => ?_)
    · rw [if_pos hc] at hf
      refine lv_iconst (v := (0)) hx hb dX1_isLike_24 (by decide) ?_
      refine hs_istore_n (i := 2) (lv' := [(2, .int ((0 : Int32))), (0, va_rf ((some a0))), (1, va_rf (p1))]) hx hb dX1_isLike_25 rfl hl (by decide) (st_okR (st_okR st_ok0)) rfl (fun ls hl => ?_)
      exact hL26 _ (some a0) p1 (0 : Int32) _ _ _ _ _ _ hD (lv_sub hl [1, 2, 0] rfl) hf
    · rw [if_neg hc] at hf
      exact hB22 _ _ _ _ _ _ hD (lv_sub hl [] rfl) hf
set_option maxHeartbeats 4000000 in
set_option maxRecDepth 100000 in
theorem c_X5_firstLike (l : Launch) (D : va_G) (G : GC) (base : Nat) (E : PE) {a0 : Nat} {p1 : Option Nat} {σ0 τ : PS} {rv : Int32} (hF : f_X5_firstLike E (some a0) p1 σ0 = some (rv, τ)) : Ct l D G base E yX5_firstLike wsX5_firstLike 3 64 ([.ref a0, va_rf (p1)] : List Value) σ0 (some (.int rv)) τ := by
  obtain ⟨hf, hmo⟩ := oM_of hF
  refine Ct.of (own := RX5) [1, 1] (by decide) rfl rfl hmo (ct_R (ct_A ct_0)) (by decide) ?_
  intro p e s m below meth c R Q ls H locs cells slots S hKn hRm hfr hlo hlk hret hnm hQ hD hl
  have hx := S.1
  have hb := S.2.1
  have hts := S.2.2.2.2
  have inX1 : ∀ w ∈ u_ws RX1 TX1 6, w ∈ wsX5_firstLike := by decide +kernel
  have inX5 : ∀ w ∈ u_ws RX5 TX5 8, w ∈ wsX5_firstLike := by decide +kernel
  have wd0 := hts (.fieldLink RX5 136 "SolidGroups$Entry" "number" "I") (by decide +kernel)
  have wd1 := hts (.fieldLink RX5 10 "SolidGroups" "entries" "Ljava/util/ArrayList;") (by decide +kernel)
  have wd2 := hts (.classLink RX5 55 "SolidGroups$Entry") (by decide +kernel)
  have hB38 : ∀ (k2 : Option Nat → Option Nat → Int32 → PS → Option (Int32 × PS)) (hk2 : ∀ (z0 : Option Nat) (z1 : Option Nat) (z2 : Int32) (σ : PS) (H : Heap) (locs : List Loc) (cells slots : Nat) (ls : Array Slot), Dy D G base E s.heap σ0 σ H locs cells slots → lv_has ls 3 [(0, va_rf (z0)), (1, va_rf (z1)), (2, .int (z2))] → k2 z0 z1 z2 σ = some (rv, τ) → W p l e R s m ([.ref a0, va_rf (p1)] : List Value).toArray below meth c H locs cells slots Q (F0 m 2 ls [])), ∀ (v0 : Option Nat) (v1 : Option Nat) (v2 : Int32) (σ : PS) (H : Heap) (locs : List Loc) (cells slots : Nat) (ls : Array Slot), Dy D G base E s.heap σ0 σ H locs cells slots → lv_has ls 3 [(0, va_rf (v0)), (1, va_rf (v1)), (2, .int (v2))] → f_X5_firstLike_B38 E k2 v0 v1 v2 σ = some (rv, τ) → W p l e R s m ([.ref a0, va_rf (p1)] : List Value).toArray below meth c H locs cells slots Q (F0 m 38 ls []) := by
    intro k2 hk2 v0 v1 v2 σ H locs cells slots ls hD hl hf
    unfold f_X5_firstLike_B38 at hf
    refine hs_iinc (i := 2) (k := 2) (v := v2 + 1) (lv' := [(2, .int (v2 + 1)), (0, va_rf (v0)), (1, va_rf (v1))]) hx hb dX5_firstLike_38 hl rfl (congrArg (fun z => v2 + z) (by decide)) (by decide) (st_okR (st_okR (st_okI st_ok0))) rfl (fun ls hl => ?_)
    refine lv_goto (tgt := 2) hx hb dX5_firstLike_41 (by decide) ?_
    exact hk2 v0 v1 (v2 + 1) _ _ _ _ _ _ hD (lv_sub hl [1, 2, 0] rfl) hf
  have hL2 : ∀ (n : Nat), ∀ (v0 : Option Nat) (v1 : Option Nat) (v2 : Int32) (σ : PS) (H : Heap) (locs : List Loc) (cells slots : Nat) (ls : Array Slot), Dy D G base E s.heap σ0 σ H locs cells slots → lv_has ls 3 [(0, va_rf (v0)), (1, va_rf (v1)), (2, .int (v2))] → f_X5_firstLike_L2 E n v0 v1 v2 σ = some (rv, τ) → W p l e R s m ([.ref a0, va_rf (p1)] : List Value).toArray below meth c H locs cells slots Q (F0 m 2 ls []) := by
    intro n
    induction n with
    | zero =>
      intro v0 v1 v2 σ H locs cells slots ls hD hl hf
      rw [f_X5_firstLike_L2] at hf
      cases hf
    | succ n ih =>
      intro v0 v1 v2 σ H locs cells slots ls hD hl hf
      rw [f_X5_firstLike_L2] at hf
      refine lv_iload_n hx hb dX5_firstLike_2 rfl (lv_at hl 2 rfl) ?_
      refine hw_aload_n (r := v1) hx hb dX5_firstLike_3 rfl (lv_at hl 1 rfl) ?_
      obtain ⟨x1, hv, hf⟩ := ob_s hf
      refine hw_gi (C := RX1) (T := TX1) (N := 6) (ref := "SolidGroups$Entry") S hKn hD hv rfl (by decide) (by decide) rfl inX1 wd0 (fun _ h9 => h9) dX5_firstLike_4 ?_
      refine lv_icmp_ge (tgt := 44) hx hb dX5_firstLike_7 (by decide) (fun hc => ?_) (fun hc => ?_)
      · rw [if_pos hc] at hf
        refine hw_aload_n (r := v1) hx hb dX5_firstLike_44 rfl (lv_at hl 1 rfl) ?_
        obtain ⟨x2, hv, hf⟩ := ob_s hf
        refine hw_gi (C := RX1) (T := TX1) (N := 6) (ref := "SolidGroups$Entry") S hKn hD hv rfl (by decide) (by decide) rfl inX1 wd0 (fun _ h9 => h9) dX5_firstLike_45 ?_
        obtain ⟨e1, e2⟩ := ret_eq hf
        rw [hQ, ← e1, ← e2]
        exact hw_iret S hlk hret rfl hD dX5_firstLike_48
      · rw [if_neg hc] at hf
        refine hw_aload_n (r := v0) hx hb dX5_firstLike_10 rfl (lv_at hl 0 rfl) ?_
        refine lv_iload_n hx hb dX5_firstLike_11 rfl (lv_at hl 2 rfl) ?_
        obtain ⟨b5, hv, hf⟩ := ob_s hf
        obtain ⟨e9, hk9⟩ := oK_of hv
        cases e9
        obtain ⟨r3, s4, hv, hf⟩ := ob_p hf
        refine hw_V (b := b5) (ci := 6) (T := TX5) (N := 8) (As := [.int (v2)]) (rest := []) S hKn hRm hD (c_X5_isEntry l D G base E hv) (mo_X5_isEntry hv) hk9 rfl (by decide) gX5_firstLike_X5_isEntry rfl 1 (by decide +kernel) ⟨by rw [hfr]; decide, by rw [hlo]; decide⟩ rfl hl.1 (Nat.le_trans cs_0 (by decide)) rfl dX5_firstLike_12 (fun H locs cells slots hD => ?_)
        refine W.eq (g2 := F0 m 15 ls [.int (r3)]) rfl ?_
        refine lv_if_eq (tgt := 38) hx hb dX5_firstLike_15 (by decide) (fun hc => ?_) (fun hc => ?_)
        · rw [if_pos hc] at hf
          exact hB38 _ ih (some b5) v1 v2 _ _ _ _ _ _ hD (lv_sub hl [0, 1, 2] rfl) hf
        · rw [if_neg hc] at hf
          refine hw_aload_n (r := v1) hx hb dX5_firstLike_18 rfl (lv_at hl 1 rfl) ?_
          refine hw_aload_n (r := (some b5)) hx hb dX5_firstLike_19 rfl (lv_at hl 0 rfl) ?_
          obtain ⟨x6, hv, hf⟩ := ob_s hf
          refine hw_gr (C := RX5) (T := TX5) (N := 8) (ref := "SolidGroups") S hKn hD hv rfl (by decide) (by decide) rfl inX5 wd1 (fun _ h9 => h9) dX5_firstLike_20 ?_
          refine lv_iload_n hx hb dX5_firstLike_23 rfl (lv_at hl 2 rfl) ?_
          obtain ⟨b9, hv, hf⟩ := ob_s hf
          obtain ⟨e9, hk9⟩ := oK_of hv
          cases e9
          obtain ⟨r7, s8, hv, hf⟩ := ob_p hf
          refine hw_V (b := b9) (ci := 0) (T := TJx4a65c) (N := 3) (As := [.int (v2)]) (rest := [va_rf (v1)]) S hKn hRm hD (c_Jx4a65c_get_915e3 l D G base E hv) (mo_Jx4a65c_get_915e3 hv) hk9 rfl (by decide) gX5_firstLike_Jx4a65c_get_915e3 rfl 1 (by decide +kernel) ⟨by rw [hfr]; decide, by rw [hlo]; decide⟩ rfl hl.1 (Nat.le_trans (cs_A cs_0) (by decide)) rfl dX5_firstLike_24 (fun H locs cells slots hD => ?_)
          refine W.eq (g2 := F0 m 27 ls [va_rf (r7), va_rf (v1)]) rfl ?_
          obtain ⟨u10, hv, hf⟩ := ob_s hf
          refine hw_ca (C := RX1) (T := TX1) (N := 6) S hKn hD hv rfl (by decide) wd2 dX5_firstLike_27 ?_
          obtain ⟨b13, hv, hf⟩ := ob_s hf
          obtain ⟨e9, hk9⟩ := oK_of hv
          cases e9
          obtain ⟨r11, s12, hv, hf⟩ := ob_p hf
          refine hw_V (b := b13) (ci := 2) (T := TX1) (N := 6) (As := [va_rf (r7)]) (rest := []) S hKn hRm hD (c_X1_isLike l D G base E hv) (mo_X1_isLike hv) hk9 rfl (by decide) gX5_firstLike_X1_isLike rfl 1 (by decide +kernel) ⟨by rw [hfr]; decide, by rw [hlo]; decide⟩ rfl hl.1 (Nat.le_trans cs_0 (by decide)) rfl dX5_firstLike_30 (fun H locs cells slots hD => ?_)
          refine W.eq (g2 := F0 m 33 ls [.int (r11)]) rfl ?_
          refine lv_if_eq (tgt := 38) hx hb dX5_firstLike_33 (by decide) (fun hc => ?_) (fun hc => ?_)
          · rw [if_pos hc] at hf
            exact hB38 _ ih (some b5) (some b13) v2 _ _ _ _ _ _ hD (lv_sub hl [0, 1, 2] rfl) hf
          · rw [if_neg hc] at hf
            refine lv_iload_n hx hb dX5_firstLike_36 rfl (lv_at hl 2 rfl) ?_
            obtain ⟨e1, e2⟩ := ret_eq hf
            rw [hQ, ← e1, ← e2]
            exact hw_iret S hlk hret rfl hD dX5_firstLike_37
  have hl : lv_has ls 3 [(0, va_rf (some a0)), (1, va_rf (p1))] := hl
  unfold g_X5_firstLike at hf
  refine lv_iconst (v := (0)) hx hb dX5_firstLike_0 (by decide) ?_
  refine hs_istore_n (i := 2) (lv' := [(2, .int ((0 : Int32))), (0, va_rf ((some a0))), (1, va_rf (p1))]) hx hb dX5_firstLike_1 rfl hl (by decide) (st_okR (st_okR st_ok0)) rfl (fun ls hl => ?_)
  exact hL2 _ (some a0) p1 (0 : Int32) _ _ _ _ _ _ hD (lv_sub hl [1, 2, 0] rfl) hf
set_option maxHeartbeats 4000000 in
set_option maxRecDepth 100000 in
theorem c_X5_findTwins (l : Launch) (D : va_G) (G : GC) (base : Nat) (E : PE) {a0 : Nat} {σ0 τ : PS} {rv : Unit} (hF : f_X5_findTwins E (some a0) σ0 = some (rv, τ)) : Ct l D G base E yX5_findTwins wsX5_findTwins 4 86 ([.ref a0] : List Value) σ0 none τ := by
  obtain ⟨hf, hmo⟩ := oM_of hF
  refine Ct.of (own := RX5) [1] (by decide) rfl rfl hmo (ct_R ct_0) (by decide) ?_
  intro p e s m below meth c R Q ls H locs cells slots S hKn hRm hfr hlo hlk hret hnm hQ hD hl
  have hx := S.1
  have hb := S.2.1
  have hts := S.2.2.2.2
  have inX5 : ∀ w ∈ u_ws RX5 TX5 8, w ∈ wsX5_findTwins := by decide +kernel
  have inX1 : ∀ w ∈ u_ws RX1 TX1 6, w ∈ wsX5_findTwins := by decide +kernel
  have wd0 := hts (.fieldLink RX5 10 "SolidGroups" "entries" "Ljava/util/ArrayList;") (by decide +kernel)
  have wd1 := hts (.classLink RX5 55 "SolidGroups$Entry") (by decide +kernel)
  have wd2 := hts (.fieldLink RX5 139 "SolidGroups$Entry" "twinOf" "I") (by decide +kernel)
  have hL2 : ∀ (n : Nat), ∀ (v0 : Option Nat) (v1 : Int32) (σ : PS) (H : Heap) (locs : List Loc) (cells slots : Nat) (ls : Array Slot), Dy D G base E s.heap σ0 σ H locs cells slots → lv_has ls 3 [(0, va_rf (v0)), (1, .int (v1))] → f_X5_findTwins_L2 E n v0 v1 σ = some (rv, τ) → W p l e R s m ([.ref a0] : List Value).toArray below meth c H locs cells slots Q (F0 m 2 ls []) := by
    intro n
    induction n with
    | zero =>
      intro v0 v1 σ H locs cells slots ls hD hl hf
      rw [f_X5_findTwins_L2] at hf
      cases hf
    | succ n ih =>
      intro v0 v1 σ H locs cells slots ls hD hl hf
      rw [f_X5_findTwins_L2] at hf
      refine lv_iload_n hx hb dX5_findTwins_2 rfl (lv_at hl 1 rfl) ?_
      refine hw_aload_n (r := v0) hx hb dX5_findTwins_3 rfl (lv_at hl 0 rfl) ?_
      obtain ⟨x1, hv, hf⟩ := ob_s hf
      refine hw_gr (C := RX5) (T := TX5) (N := 8) (ref := "SolidGroups") S hKn hD hv rfl (by decide) (by decide) rfl inX5 wd0 (fun _ h9 => h9) dX5_findTwins_4 ?_
      obtain ⟨b4, hv, hf⟩ := ob_s hf
      obtain ⟨e9, hk9⟩ := oK_of hv
      cases e9
      obtain ⟨r2, s3, hv, hf⟩ := ob_p hf
      refine hw_V (b := b4) (ci := 0) (T := TJx4a65c) (N := 3) (As := []) (rest := [.int (v1)]) S hKn hRm hD (c_Jx4a65c_size_8abf5 l D G base E hv) (mo_Jx4a65c_size_8abf5 hv) hk9 rfl (by decide) gX5_findTwins_Jx4a65c_size_8abf5 rfl 0 (by decide +kernel) ⟨by rw [hfr]; decide, by rw [hlo]; decide⟩ rfl hl.1 (Nat.le_trans (cs_I cs_0) (by decide)) rfl dX5_findTwins_7 (fun H locs cells slots hD => ?_)
      refine W.eq (g2 := F0 m 10 ls [.int (r2), .int (v1)]) rfl ?_
      refine lv_icmp_ge (tgt := 40) hx hb dX5_findTwins_10 (by decide) (fun hc => ?_) (fun hc => ?_)
      · rw [if_pos hc] at hf
        obtain ⟨-, e2⟩ := ret_eq hf
        rw [hQ, ← e2]
        exact hw_vret S hlk hret hD dX5_findTwins_40
      · rw [if_neg hc] at hf
        refine hw_aload_n (r := v0) hx hb dX5_findTwins_13 rfl (lv_at hl 0 rfl) ?_
        obtain ⟨x5, hv, hf⟩ := ob_s hf
        refine hw_gr (C := RX5) (T := TX5) (N := 8) (ref := "SolidGroups") S hKn hD hv rfl (by decide) (by decide) rfl inX5 wd0 (fun _ h9 => h9) dX5_findTwins_14 ?_
        refine lv_iload_n hx hb dX5_findTwins_17 rfl (lv_at hl 1 rfl) ?_
        obtain ⟨b8, hv, hf⟩ := ob_s hf
        obtain ⟨e9, hk9⟩ := oK_of hv
        cases e9
        obtain ⟨r6, s7, hv, hf⟩ := ob_p hf
        refine hw_V (b := b8) (ci := 0) (T := TJx4a65c) (N := 3) (As := [.int (v1)]) (rest := []) S hKn hRm hD (c_Jx4a65c_get_915e3 l D G base E hv) (mo_Jx4a65c_get_915e3 hv) hk9 rfl (by decide) gX5_findTwins_Jx4a65c_get_915e3 rfl 1 (by decide +kernel) ⟨by rw [hfr]; decide, by rw [hlo]; decide⟩ rfl hl.1 (Nat.le_trans cs_0 (by decide)) rfl dX5_findTwins_18 (fun H locs cells slots hD => ?_)
        refine W.eq (g2 := F0 m 21 ls [va_rf (r6)]) rfl ?_
        obtain ⟨u9, hv, hf⟩ := ob_s hf
        refine hw_ca (C := RX1) (T := TX1) (N := 6) S hKn hD hv rfl (by decide) wd1 dX5_findTwins_21 ?_
        refine hs_astore_n (i := 2) (lv' := [(2, va_rf (r6)), (0, va_rf (v0)), (1, .int (v1))]) hx hb dX5_findTwins_24 rfl hl (by decide) (st_okR (st_okI st_ok0)) rfl (fun ls hl => ?_)
        refine hw_aload_n (r := r6) hx hb dX5_findTwins_25 rfl (lv_at hl 0 rfl) ?_
        refine hw_aload_n (r := v0) hx hb dX5_findTwins_26 rfl (lv_at hl 1 rfl) ?_
        refine hw_aload_n (r := r6) hx hb dX5_findTwins_27 rfl (lv_at hl 0 rfl) ?_
        obtain ⟨b12, hv, hf⟩ := ob_s hf
        obtain ⟨e9, hk9⟩ := oK_of hv
        cases e9
        obtain ⟨r10, s11, hv, hf⟩ := ob_p hf
        refine hw_V (b := b12) (ci := 6) (T := TX5) (N := 8) (As := [va_rf (r6)]) (rest := [va_rf (r6)]) S hKn hRm hD (c_X5_firstLike l D G base E hv) (mo_X5_firstLike hv) hk9 rfl (by decide) gX5_findTwins_X5_firstLike rfl 1 (by decide +kernel) ⟨by rw [hfr]; decide, by rw [hlo]; decide⟩ rfl hl.1 (Nat.le_trans (cs_A cs_0) (by decide)) rfl dX5_findTwins_28 (fun H locs cells slots hD => ?_)
        refine W.eq (g2 := F0 m 31 ls [.int (r10), va_rf (r6)]) rfl ?_
        obtain ⟨s13, hv, hf⟩ := ob_s hf
        refine hw_pi (C := RX1) (T := TX1) (N := 6) (ref := "SolidGroups$Entry") S hKn hD hv rfl (by decide) (by decide) rfl inX1 tyX1 tyX1_ok nmX1 wd2 (fun _ h9 => h9) rfl (by first | rfl | decide) (by first | rfl | decide) dX5_findTwins_31 (fun H locs hD => ?_)
        refine hs_iinc (i := 1) (k := 2) (v := v1 + 1) (lv' := [(1, .int (v1 + 1)), (2, va_rf (r6)), (0, va_rf ((some b12)))]) hx hb dX5_findTwins_34 hl rfl (congrArg (fun z => v1 + z) (by decide)) (by decide) (st_okR (st_okR (st_okI st_ok0))) rfl (fun ls hl => ?_)
        refine lv_goto (tgt := 2) hx hb dX5_findTwins_37 (by decide) ?_
        exact ih (some b12) (v1 + 1) _ _ _ _ _ _ hD (lv_sub hl [2, 0] rfl) hf
  have hl : lv_has ls 3 [(0, va_rf (some a0))] := hl
  unfold g_X5_findTwins at hf
  refine lv_iconst (v := (0)) hx hb dX5_findTwins_0 (by decide) ?_
  refine hs_istore_n (i := 1) (lv' := [(1, .int ((0 : Int32))), (0, va_rf ((some a0)))]) hx hb dX5_findTwins_1 rfl hl (by decide) (st_okR st_ok0) rfl (fun ls hl => ?_)
  exact hL2 _ (some a0) (0 : Int32) _ _ _ _ _ _ hD (lv_sub hl [1, 0] rfl) hf
set_option maxHeartbeats 4000000 in
set_option maxRecDepth 100000 in
theorem c_X5_dropGroups (l : Launch) (D : va_G) (G : GC) (base : Nat) (E : PE) {a0 : Nat} {σ0 τ : PS} {rv : Unit} (hF : f_X5_dropGroups E (some a0) σ0 = some (rv, τ)) : Ct l D G base E yX5_dropGroups wsX5_dropGroups 7 191 ([.ref a0] : List Value) σ0 none τ := by
  obtain ⟨hf, hmo⟩ := oM_of hF
  refine Ct.of (own := RX5) [1] (by decide) rfl rfl hmo (ct_R ct_0) (by decide) ?_
  intro p e s m below meth c R Q ls H locs cells slots S hKn hRm hfr hlo hlk hret hnm hQ hD hl
  have hx := S.1
  have hb := S.2.1
  have hts := S.2.2.2.2
  have inX5 : ∀ w ∈ u_ws RX5 TX5 8, w ∈ wsX5_dropGroups := by decide +kernel
  have wd0 := hts (.fieldLink RX5 16 "SolidGroups" "groups" "Ljava/util/ArrayList;") (by decide +kernel)
  have wd1 := hts (.fieldLink RX5 19 "SolidGroups" "spareGroups" "Ljava/util/ArrayList;") (by decide +kernel)
  have wd2 := hts (.classLink RX5 110 RX2) (by decide +kernel)
  have hL2 : ∀ (n : Nat), ∀ (v0 : Option Nat) (v1 : Int32) (σ : PS) (H : Heap) (locs : List Loc) (cells slots : Nat) (ls : Array Slot), Dy D G base E s.heap σ0 σ H locs cells slots → lv_has ls 2 [(0, va_rf (v0)), (1, .int (v1))] → f_X5_dropGroups_L2 E n v0 v1 σ = some (rv, τ) → W p l e R s m ([.ref a0] : List Value).toArray below meth c H locs cells slots Q (F0 m 2 ls []) := by
    intro n
    induction n with
    | zero =>
      intro v0 v1 σ H locs cells slots ls hD hl hf
      rw [f_X5_dropGroups_L2] at hf
      cases hf
    | succ n ih =>
      intro v0 v1 σ H locs cells slots ls hD hl hf
      rw [f_X5_dropGroups_L2] at hf
      refine lv_iload_n hx hb dX5_dropGroups_2 rfl (lv_at hl 1 rfl) ?_
      refine hw_aload_n (r := v0) hx hb dX5_dropGroups_3 rfl (lv_at hl 0 rfl) ?_
      obtain ⟨x1, hv, hf⟩ := ob_s hf
      refine hw_gr (C := RX5) (T := TX5) (N := 8) (ref := "SolidGroups") S hKn hD hv rfl (by decide) (by decide) rfl inX5 wd0 (fun _ h9 => h9) dX5_dropGroups_4 ?_
      obtain ⟨b4, hv, hf⟩ := ob_s hf
      obtain ⟨e9, hk9⟩ := oK_of hv
      cases e9
      obtain ⟨r2, s3, hv, hf⟩ := ob_p hf
      refine hw_V (b := b4) (ci := 0) (T := TJx4a65c) (N := 3) (As := []) (rest := [.int (v1)]) S hKn hRm hD (c_Jx4a65c_size_8abf5 l D G base E hv) (mo_Jx4a65c_size_8abf5 hv) hk9 rfl (by decide) gX5_dropGroups_Jx4a65c_size_8abf5 rfl 0 (by decide +kernel) ⟨by rw [hfr]; decide, by rw [hlo]; decide⟩ rfl hl.1 (Nat.le_trans (cs_I cs_0) (by decide)) rfl dX5_dropGroups_7 (fun H locs cells slots hD => ?_)
      refine W.eq (g2 := F0 m 10 ls [.int (r2), .int (v1)]) rfl ?_
      refine lv_icmp_ge (tgt := 38) hx hb dX5_dropGroups_10 (by decide) (fun hc => ?_) (fun hc => ?_)
      · rw [if_pos hc] at hf
        refine hw_aload_n (r := v0) hx hb dX5_dropGroups_38 rfl (lv_at hl 0 rfl) ?_
        obtain ⟨x5, hv, hf⟩ := ob_s hf
        refine hw_gr (C := RX5) (T := TX5) (N := 8) (ref := "SolidGroups") S hKn hD hv rfl (by decide) (by decide) rfl inX5 wd0 (fun _ h9 => h9) dX5_dropGroups_39 ?_
        obtain ⟨b8, hv, hf⟩ := ob_s hf
        obtain ⟨e9, hk9⟩ := oK_of hv
        cases e9
        obtain ⟨r6, s7, hv, hf⟩ := ob_p hf
        refine hw_V (b := b8) (ci := 0) (T := TJx4a65c) (N := 3) (As := []) (rest := []) S hKn hRm hD (c_Jx4a65c_clear_da8c8 l D G base E hv) (mo_Jx4a65c_clear_da8c8 hv) hk9 rfl (by decide) gX5_dropGroups_Jx4a65c_clear_da8c8 rfl 0 (by decide +kernel) ⟨by rw [hfr]; decide, by rw [hlo]; decide⟩ rfl hl.1 (Nat.le_trans cs_0 (by decide)) rfl dX5_dropGroups_42 (fun H locs cells slots hD => ?_)
        refine W.eq (g2 := F0 m 45 ls []) rfl ?_
        obtain ⟨-, e2⟩ := ret_eq hf
        rw [hQ, ← e2]
        exact hw_vret S hlk hret hD dX5_dropGroups_45
      · rw [if_neg hc] at hf
        refine hw_aload_n (r := v0) hx hb dX5_dropGroups_13 rfl (lv_at hl 0 rfl) ?_
        obtain ⟨x9, hv, hf⟩ := ob_s hf
        refine hw_gr (C := RX5) (T := TX5) (N := 8) (ref := "SolidGroups") S hKn hD hv rfl (by decide) (by decide) rfl inX5 wd1 (fun _ h9 => h9) dX5_dropGroups_14 ?_
        refine hw_aload_n (r := v0) hx hb dX5_dropGroups_17 rfl (lv_at hl 0 rfl) ?_
        obtain ⟨x10, hv, hf⟩ := ob_s hf
        refine hw_gr (C := RX5) (T := TX5) (N := 8) (ref := "SolidGroups") S hKn hD hv rfl (by decide) (by decide) rfl inX5 wd0 (fun _ h9 => h9) dX5_dropGroups_18 ?_
        refine lv_iload_n hx hb dX5_dropGroups_21 rfl (lv_at hl 1 rfl) ?_
        obtain ⟨b13, hv, hf⟩ := ob_s hf
        obtain ⟨e9, hk9⟩ := oK_of hv
        cases e9
        obtain ⟨r11, s12, hv, hf⟩ := ob_p hf
        refine hw_V (b := b13) (ci := 0) (T := TJx4a65c) (N := 3) (As := [.int (v1)]) (rest := [va_rf (x9)]) S hKn hRm hD (c_Jx4a65c_get_915e3 l D G base E hv) (mo_Jx4a65c_get_915e3 hv) hk9 rfl (by decide) gX5_dropGroups_Jx4a65c_get_915e3 rfl 1 (by decide +kernel) ⟨by rw [hfr]; decide, by rw [hlo]; decide⟩ rfl hl.1 (Nat.le_trans (cs_A cs_0) (by decide)) rfl dX5_dropGroups_22 (fun H locs cells slots hD => ?_)
        refine W.eq (g2 := F0 m 25 ls [va_rf (r11), va_rf (x9)]) rfl ?_
        obtain ⟨u14, hv, hf⟩ := ob_s hf
        refine hw_ca (C := RX2) (T := TX2) (N := 4) S hKn hD hv rfl (by decide) wd2 dX5_dropGroups_25 ?_
        obtain ⟨b17, hv, hf⟩ := ob_s hf
        obtain ⟨e9, hk9⟩ := oK_of hv
        cases e9
        obtain ⟨r15, s16, hv, hf⟩ := ob_p hf
        refine hw_V (b := b17) (ci := 0) (T := TJx4a65c) (N := 3) (As := [va_rf (r11)]) (rest := []) S hKn hRm hD (c_Jx4a65c_add_9ea2d l D G base E hv) (mo_Jx4a65c_add_9ea2d hv) hk9 rfl (by decide) gX5_dropGroups_Jx4a65c_add_9ea2d rfl 1 (by decide +kernel) ⟨by rw [hfr]; decide, by rw [hlo]; decide⟩ rfl hl.1 (Nat.le_trans cs_0 (by decide)) rfl dX5_dropGroups_28 (fun H locs cells slots hD => ?_)
        refine W.eq (g2 := F0 m 31 ls [.int (r15)]) rfl ?_
        refine lv_pop hx hb dX5_dropGroups_31 rfl ?_
        refine hs_iinc (i := 1) (k := 1) (v := v1 + 1) (lv' := [(1, .int (v1 + 1)), (0, va_rf (v0))]) hx hb dX5_dropGroups_32 hl rfl (congrArg (fun z => v1 + z) (by decide)) (by decide) (st_okR (st_okI st_ok0)) rfl (fun ls hl => ?_)
        refine lv_goto (tgt := 2) hx hb dX5_dropGroups_35 (by decide) ?_
        exact ih v0 (v1 + 1) _ _ _ _ _ _ hD (lv_sub hl [1, 0] rfl) hf
  have hl : lv_has ls 2 [(0, va_rf (some a0))] := hl
  unfold g_X5_dropGroups at hf
  refine lv_iconst (v := (0)) hx hb dX5_dropGroups_0 (by decide) ?_
  refine hs_istore_n (i := 1) (lv' := [(1, .int ((0 : Int32))), (0, va_rf ((some a0)))]) hx hb dX5_dropGroups_1 rfl hl (by decide) (st_okR st_ok0) rfl (fun ls hl => ?_)
  exact hL2 _ (some a0) (0 : Int32) _ _ _ _ _ _ hD (lv_sub hl [1, 0] rfl) hf
set_option maxHeartbeats 4000000 in
set_option maxRecDepth 100000 in
theorem c_X5_lineUpKept (l : Launch) (D : va_G) (G : GC) (base : Nat) (E : PE) {a0 : Nat} {p1 : Int32} {σ0 τ : PS} {rv : Unit} (hF : f_X5_lineUpKept E (some a0) p1 σ0 = some (rv, τ)) : Ct l D G base E yX5_lineUpKept wsX5_lineUpKept 7 191 ([.ref a0, .int (p1)] : List Value) σ0 none τ := by
  obtain ⟨hf, hmo⟩ := oM_of hF
  refine Ct.of (own := RX5) [1, 1] (by decide) rfl rfl hmo (ct_R (ct_I ct_0)) (by decide) ?_
  intro p e s m below meth c R Q ls H locs cells slots S hKn hRm hfr hlo hlk hret hnm hQ hD hl
  have hx := S.1
  have hb := S.2.1
  have hts := S.2.2.2.2
  have inX5 : ∀ w ∈ u_ws RX5 TX5 8, w ∈ wsX5_lineUpKept := by decide +kernel
  have inX1 : ∀ w ∈ u_ws RX1 TX1 6, w ∈ wsX5_lineUpKept := by decide +kernel
  have wd0 := hts (.fieldLink RX5 22 "SolidGroups" "line" "Ljava/util/ArrayList;") (by decide +kernel)
  have wd1 := hts (.fieldLink RX5 10 "SolidGroups" "entries" "Ljava/util/ArrayList;") (by decide +kernel)
  have wd2 := hts (.classLink RX5 55 "SolidGroups$Entry") (by decide +kernel)
  have wd3 := hts (.fieldLink RX5 214 "SolidGroups$Entry" "kind" "I") (by decide +kernel)
  have hB56 : ∀ (k9 : Option Nat → Int32 → Int32 → PS → Option (Unit × PS)) (hk9 : ∀ (z0 : Option Nat) (z1 : Int32) (z2 : Int32) (σ : PS) (H : Heap) (locs : List Loc) (cells slots : Nat) (ls : Array Slot), Dy D G base E s.heap σ0 σ H locs cells slots → lv_has ls 4 [(0, va_rf (z0)), (1, .int (z1)), (2, .int (z2))] → k9 z0 z1 z2 σ = some (rv, τ) → W p l e R s m ([.ref a0, .int (p1)] : List Value).toArray below meth c H locs cells slots Q (F0 m 9 ls [])), ∀ (v0 : Option Nat) (v1 : Int32) (v2 : Int32) (σ : PS) (H : Heap) (locs : List Loc) (cells slots : Nat) (ls : Array Slot), Dy D G base E s.heap σ0 σ H locs cells slots → lv_has ls 4 [(0, va_rf (v0)), (1, .int (v1)), (2, .int (v2))] → f_X5_lineUpKept_B56 E k9 v0 v1 v2 σ = some (rv, τ) → W p l e R s m ([.ref a0, .int (p1)] : List Value).toArray below meth c H locs cells slots Q (F0 m 56 ls []) := by
    intro k9 hk9 v0 v1 v2 σ H locs cells slots ls hD hl hf
    unfold f_X5_lineUpKept_B56 at hf
    refine hs_iinc (i := 2) (k := 2) (v := v2 + 1) (lv' := [(2, .int (v2 + 1)), (0, va_rf (v0)), (1, .int (v1))]) hx hb dX5_lineUpKept_56 hl rfl (congrArg (fun z => v2 + z) (by decide)) (by decide) (st_okR (st_okI (st_okI st_ok0))) rfl (fun ls hl => ?_)
    refine lv_goto (tgt := 9) hx hb dX5_lineUpKept_59 (by decide) ?_
    exact hk9 v0 v1 (v2 + 1) _ _ _ _ _ _ hD (lv_sub hl [1, 2, 0] rfl) hf
  have hL9 : ∀ (n : Nat), ∀ (v0 : Option Nat) (v1 : Int32) (v2 : Int32) (σ : PS) (H : Heap) (locs : List Loc) (cells slots : Nat) (ls : Array Slot), Dy D G base E s.heap σ0 σ H locs cells slots → lv_has ls 4 [(0, va_rf (v0)), (1, .int (v1)), (2, .int (v2))] → f_X5_lineUpKept_L9 E n v0 v1 v2 σ = some (rv, τ) → W p l e R s m ([.ref a0, .int (p1)] : List Value).toArray below meth c H locs cells slots Q (F0 m 9 ls []) := by
    intro n
    induction n with
    | zero =>
      intro v0 v1 v2 σ H locs cells slots ls hD hl hf
      rw [f_X5_lineUpKept_L9] at hf
      cases hf
    | succ n ih =>
      intro v0 v1 v2 σ H locs cells slots ls hD hl hf
      rw [f_X5_lineUpKept_L9] at hf
      refine lv_iload_n hx hb dX5_lineUpKept_9 rfl (lv_at hl 2 rfl) ?_
      refine hw_aload_n (r := v0) hx hb dX5_lineUpKept_10 rfl (lv_at hl 0 rfl) ?_
      obtain ⟨x5, hv, hf⟩ := ob_s hf
      refine hw_gr (C := RX5) (T := TX5) (N := 8) (ref := "SolidGroups") S hKn hD hv rfl (by decide) (by decide) rfl inX5 wd1 (fun _ h9 => h9) dX5_lineUpKept_11 ?_
      obtain ⟨b8, hv, hf⟩ := ob_s hf
      obtain ⟨e9, hk9⟩ := oK_of hv
      cases e9
      obtain ⟨r6, s7, hv, hf⟩ := ob_p hf
      refine hw_V (b := b8) (ci := 0) (T := TJx4a65c) (N := 3) (As := []) (rest := [.int (v2)]) S hKn hRm hD (c_Jx4a65c_size_8abf5 l D G base E hv) (mo_Jx4a65c_size_8abf5 hv) hk9 rfl (by decide) gX5_lineUpKept_Jx4a65c_size_8abf5 rfl 0 (by decide +kernel) ⟨by rw [hfr]; decide, by rw [hlo]; decide⟩ rfl hl.1 (Nat.le_trans (cs_I cs_0) (by decide)) rfl dX5_lineUpKept_14 (fun H locs cells slots hD => ?_)
      refine W.eq (g2 := F0 m 17 ls [.int (r6), .int (v2)]) rfl ?_
      refine lv_icmp_ge (tgt := 62) hx hb dX5_lineUpKept_17 (by decide) (fun hc => ?_) (fun hc => ?_)
      · rw [if_pos hc] at hf
        obtain ⟨-, e2⟩ := ret_eq hf
        rw [hQ, ← e2]
        exact hw_vret S hlk hret hD dX5_lineUpKept_62
      · rw [if_neg hc] at hf
        refine hw_aload_n (r := v0) hx hb dX5_lineUpKept_20 rfl (lv_at hl 0 rfl) ?_
        obtain ⟨x9, hv, hf⟩ := ob_s hf
        refine hw_gr (C := RX5) (T := TX5) (N := 8) (ref := "SolidGroups") S hKn hD hv rfl (by decide) (by decide) rfl inX5 wd1 (fun _ h9 => h9) dX5_lineUpKept_21 ?_
        refine lv_iload_n hx hb dX5_lineUpKept_24 rfl (lv_at hl 2 rfl) ?_
        obtain ⟨b12, hv, hf⟩ := ob_s hf
        obtain ⟨e9, hk9⟩ := oK_of hv
        cases e9
        obtain ⟨r10, s11, hv, hf⟩ := ob_p hf
        refine hw_V (b := b12) (ci := 0) (T := TJx4a65c) (N := 3) (As := [.int (v2)]) (rest := []) S hKn hRm hD (c_Jx4a65c_get_915e3 l D G base E hv) (mo_Jx4a65c_get_915e3 hv) hk9 rfl (by decide) gX5_lineUpKept_Jx4a65c_get_915e3 rfl 1 (by decide +kernel) ⟨by rw [hfr]; decide, by rw [hlo]; decide⟩ rfl hl.1 (Nat.le_trans cs_0 (by decide)) rfl dX5_lineUpKept_25 (fun H locs cells slots hD => ?_)
        refine W.eq (g2 := F0 m 28 ls [va_rf (r10)]) rfl ?_
        obtain ⟨u13, hv, hf⟩ := ob_s hf
        refine hw_ca (C := RX1) (T := TX1) (N := 6) S hKn hD hv rfl (by decide) wd2 dX5_lineUpKept_28 ?_
        refine hs_astore_n (i := 3) (lv' := [(3, va_rf (r10)), (0, va_rf (v0)), (1, .int (v1)), (2, .int (v2))]) hx hb dX5_lineUpKept_31 rfl hl (by decide) (st_okR (st_okI (st_okI st_ok0))) rfl (fun ls hl => ?_)
        refine hw_aload_n (r := r10) hx hb dX5_lineUpKept_32 rfl (lv_at hl 0 rfl) ?_
        obtain ⟨x14, hv, hf⟩ := ob_s hf
        refine hw_gi (C := RX1) (T := TX1) (N := 6) (ref := "SolidGroups$Entry") S hKn hD hv rfl (by decide) (by decide) rfl inX1 wd3 (fun _ h9 => h9) dX5_lineUpKept_33 ?_
        refine lv_iload_n hx hb dX5_lineUpKept_36 rfl (lv_at hl 2 rfl) ?_
        refine lv_icmp_ne (tgt := 56) hx hb dX5_lineUpKept_37 (by decide) (fun hc => ?_) (fun hc => ?_)
        · rw [if_neg hc] at hf
          exact hB56 _ ih v0 v1 v2 _ _ _ _ _ _ hD (lv_sub hl [1, 2, 3] rfl) hf
        · rw [if_pos hc] at hf
          refine hw_aload_n (r := r10) hx hb dX5_lineUpKept_40 rfl (lv_at hl 0 rfl) ?_
          obtain ⟨b17, hv, hf⟩ := ob_s hf
          obtain ⟨e9, hk9⟩ := oK_of hv
          cases e9
          obtain ⟨r15, s16, hv, hf⟩ := ob_p hf
          refine hw_V (b := b17) (ci := 2) (T := TX1) (N := 6) (As := []) (rest := []) S hKn hRm hD (c_X1_isKept l D G base E hv) (mo_X1_isKept hv) hk9 rfl (by decide) gX5_lineUpKept_X1_isKept rfl 0 (by decide +kernel) ⟨by rw [hfr]; decide, by rw [hlo]; decide⟩ rfl hl.1 (Nat.le_trans cs_0 (by decide)) rfl dX5_lineUpKept_41 (fun H locs cells slots hD => ?_)
          refine W.eq (g2 := F0 m 44 ls [.int (r15)]) rfl ?_
          refine lv_if_eq (tgt := 56) hx hb dX5_lineUpKept_44 (by decide) (fun hc => ?_) (fun hc => ?_)
          · rw [if_pos hc] at hf
            exact hB56 _ ih v0 v1 v2 _ _ _ _ _ _ hD (lv_sub hl [1, 2, 3] rfl) hf
          · rw [if_neg hc] at hf
            refine hw_aload_n (r := v0) hx hb dX5_lineUpKept_47 rfl (lv_at hl 1 rfl) ?_
            obtain ⟨x18, hv, hf⟩ := ob_s hf
            refine hw_gr (C := RX5) (T := TX5) (N := 8) (ref := "SolidGroups") S hKn hD hv rfl (by decide) (by decide) rfl inX5 wd0 (fun _ h9 => h9) dX5_lineUpKept_48 ?_
            refine hw_aload_n (r := (some b17)) hx hb dX5_lineUpKept_51 rfl (lv_at hl 0 rfl) ?_
            obtain ⟨b21, hv, hf⟩ := ob_s hf
            obtain ⟨e9, hk9⟩ := oK_of hv
            cases e9
            obtain ⟨r19, s20, hv, hf⟩ := ob_p hf
            refine hw_V (b := b21) (ci := 0) (T := TJx4a65c) (N := 3) (As := [va_rf ((some b17))]) (rest := []) S hKn hRm hD (c_Jx4a65c_add_9ea2d l D G base E hv) (mo_Jx4a65c_add_9ea2d hv) hk9 rfl (by decide) gX5_lineUpKept_Jx4a65c_add_9ea2d rfl 1 (by decide +kernel) ⟨by rw [hfr]; decide, by rw [hlo]; decide⟩ rfl hl.1 (Nat.le_trans cs_0 (by decide)) rfl dX5_lineUpKept_52 (fun H locs cells slots hD => ?_)
            refine W.eq (g2 := F0 m 55 ls [.int (r19)]) rfl ?_
            refine lv_pop hx hb dX5_lineUpKept_55 rfl ?_
            exact hB56 _ ih v0 v1 v2 _ _ _ _ _ _ hD (lv_sub hl [1, 2, 3] rfl) hf
  have hl : lv_has ls 4 [(0, va_rf (some a0)), (1, .int (p1))] := hl
  unfold g_X5_lineUpKept at hf
  refine hw_aload_n (r := (some a0)) hx hb dX5_lineUpKept_0 rfl (lv_at hl 0 rfl) ?_
  obtain ⟨x1, hv, hf⟩ := ob_s hf
  refine hw_gr (C := RX5) (T := TX5) (N := 8) (ref := "SolidGroups") S hKn hD hv rfl (by decide) (by decide) rfl inX5 wd0 (fun _ h9 => h9) dX5_lineUpKept_1 ?_
  obtain ⟨b4, hv, hf⟩ := ob_s hf
  obtain ⟨e9, hk9⟩ := oK_of hv
  cases e9
  obtain ⟨r2, s3, hv, hf⟩ := ob_p hf
  refine hw_V (b := b4) (ci := 0) (T := TJx4a65c) (N := 3) (As := []) (rest := []) S hKn hRm hD (c_Jx4a65c_clear_da8c8 l D G base E hv) (mo_Jx4a65c_clear_da8c8 hv) hk9 rfl (by decide) gX5_lineUpKept_Jx4a65c_clear_da8c8 rfl 0 (by decide +kernel) ⟨by rw [hfr]; decide, by rw [hlo]; decide⟩ rfl hl.1 (Nat.le_trans cs_0 (by decide)) rfl dX5_lineUpKept_4 (fun H locs cells slots hD => ?_)
  refine W.eq (g2 := F0 m 7 ls []) rfl ?_
  refine lv_iconst (v := (0)) hx hb dX5_lineUpKept_7 (by decide) ?_
  refine hs_istore_n (i := 2) (lv' := [(2, .int ((0 : Int32))), (0, va_rf ((some a0))), (1, .int (p1))]) hx hb dX5_lineUpKept_8 rfl hl (by decide) (st_okR (st_okI st_ok0)) rfl (fun ls hl => ?_)
  exact hL9 _ (some a0) p1 (0 : Int32) _ _ _ _ _ _ hD (lv_sub hl [1, 2, 0] rfl) hf
set_option maxHeartbeats 4000000 in
set_option maxRecDepth 100000 in
theorem c_X5_apart (l : Launch) (D : va_G) (G : GC) (base : Nat) (E : PE) {p0 : Option Nat} {p1 : Option Nat} {σ0 τ : PS} {rv : Int32} (hF : f_X5_apart E p0 p1 σ0 = some (rv, τ)) : Ct l D G base E yX5_apart wsX5_apart 1 60 ([va_rf (p0), va_rf (p1)] : List Value) σ0 (some (.int rv)) τ := by
  obtain ⟨hf, hmo⟩ := oM_of hF
  refine Ct.of (own := RX5) [1, 1] (by decide) rfl rfl hmo (ct_A (ct_A ct_0)) (by decide) ?_
  intro p e s m below meth c R Q ls H locs cells slots S hKn hRm hfr hlo hlk hret hnm hQ hD hl
  have hx := S.1
  have hb := S.2.1
  have hts := S.2.2.2.2
  have inX1 : ∀ w ∈ u_ws RX1 TX1 6, w ∈ wsX5_apart := by decide +kernel
  have wd0 := hts (.fieldLink RX5 71 "SolidGroups$Entry" "length" "I") (by decide +kernel)
  have wd1 := hts (.methodLink RX5 204 Lib.Math.abs.name) (by decide +kernel)
  have wd2 := hts (.static Lib.Math.abs.name) (by decide +kernel)
  have wd3 := hts (.initialized "java/lang/Math") (by decide +kernel)
  have wd4 := hts (.code Lib.Math.abs.name Lib.Math.abs.code 1 (some .int)) (by decide +kernel)
  have wd5 := hts (.fieldLink RX5 195 "SolidGroups$Entry" "marks" "[I") (by decide +kernel)
  have hL15 : ∀ (n : Nat), ∀ (v0 : Option Nat) (v1 : Option Nat) (v2 : Int32) (v3 : Int32) (σ : PS) (H : Heap) (locs : List Loc) (cells slots : Nat) (ls : Array Slot), Dy D G base E s.heap σ0 σ H locs cells slots → lv_has ls 4 [(0, va_rf (v0)), (1, va_rf (v1)), (2, .int (v2)), (3, .int (v3))] → f_X5_apart_L15 E n v0 v1 v2 v3 σ = some (rv, τ) → W p l e R s m ([va_rf (p0), va_rf (p1)] : List Value).toArray below meth c H locs cells slots Q (F0 m 15 ls []) := by
    intro n
    induction n with
    | zero =>
      intro v0 v1 v2 v3 σ H locs cells slots ls hD hl hf
      rw [f_X5_apart_L15] at hf
      cases hf
    | succ n ih =>
      intro v0 v1 v2 v3 σ H locs cells slots ls hD hl hf
      rw [f_X5_apart_L15] at hf
      refine lv_iload_n hx hb dX5_apart_15 rfl (lv_at hl 3 rfl) ?_
      refine lv_bipush (v := (32)) hx hb dX5_apart_16 (by decide) ?_
      refine lv_icmp_ge (tgt := 46) hx hb dX5_apart_18 (by decide) (fun hc => ?_) (fun hc => ?_)
      · rw [if_pos hc] at hf
        refine lv_iload_n hx hb dX5_apart_46 rfl (lv_at hl 2 rfl) ?_
        obtain ⟨e1, e2⟩ := ret_eq hf
        rw [hQ, ← e1, ← e2]
        exact hw_iret S hlk hret rfl hD dX5_apart_47
      · rw [if_neg hc] at hf
        refine lv_iload_n hx hb dX5_apart_21 rfl (lv_at hl 2 rfl) ?_
        refine hw_aload_n (r := v0) hx hb dX5_apart_22 rfl (lv_at hl 0 rfl) ?_
        obtain ⟨x3, hv, hf⟩ := ob_s hf
        refine hw_gr (C := RX1) (T := TX1) (N := 6) (ref := "SolidGroups$Entry") S hKn hD hv rfl (by decide) (by decide) rfl inX1 wd5 (fun _ h9 => h9) dX5_apart_23 ?_
        refine lv_iload_n hx hb dX5_apart_26 rfl (lv_at hl 3 rfl) ?_
        obtain ⟨x4, hv, hf⟩ := ob_s hf
        refine hw_al S hKn hD hv dX5_apart_27 ?_
        refine hw_aload_n (r := v1) hx hb dX5_apart_28 rfl (lv_at hl 1 rfl) ?_
        obtain ⟨x5, hv, hf⟩ := ob_s hf
        refine hw_gr (C := RX1) (T := TX1) (N := 6) (ref := "SolidGroups$Entry") S hKn hD hv rfl (by decide) (by decide) rfl inX1 wd5 (fun _ h9 => h9) dX5_apart_29 ?_
        refine lv_iload_n hx hb dX5_apart_32 rfl (lv_at hl 3 rfl) ?_
        obtain ⟨x6, hv, hf⟩ := ob_s hf
        refine hw_al S hKn hD hv dX5_apart_33 ?_
        refine lv_isub hx hb dX5_apart_34 ?_
        refine va_mabs hx hb (S.2.2.1.trans hl.1.symm) S.2.2.2.1 wd1 wd2 wd3 wd4 (by rw [hfr]; decide) (by rw [hlo]; exact Nat.le_trans (Nat.add_le_add_right (cs_I cs_0) 13) (by decide)) (by have := hw_room hRm hD; omega) (by have := hw_room hRm hD; omega) dX5_apart_35 ?_
        refine lv_iadd hx hb dX5_apart_38 ?_
        refine hs_istore_n (i := 2) (lv' := [(2, .int (v2 + (if 0 ≤ (x4 - x6) then x4 - x6 else 0 - (x4 - x6)))), (0, va_rf (v0)), (1, va_rf (v1)), (3, .int (v3))]) hx hb dX5_apart_39 rfl hl (by decide) (st_okR (st_okR (st_okI (st_okI st_ok0)))) rfl (fun ls hl => ?_)
        refine hs_iinc (i := 3) (k := 3) (v := v3 + 1) (lv' := [(3, .int (v3 + 1)), (2, .int (v2 + (if 0 ≤ (x4 - x6) then x4 - x6 else 0 - (x4 - x6)))), (0, va_rf (v0)), (1, va_rf (v1))]) hx hb dX5_apart_40 hl rfl (congrArg (fun z => v3 + z) (by decide)) (by decide) (st_okI (st_okR (st_okR (st_okI st_ok0)))) rfl (fun ls hl => ?_)
        refine lv_goto (tgt := 15) hx hb dX5_apart_43 (by decide) ?_
        exact ih v0 v1 (v2 + (if 0 ≤ (x4 - x6) then x4 - x6 else 0 - (x4 - x6))) (v3 + 1) _ _ _ _ _ _ hD (lv_sub hl [2, 3, 1, 0] rfl) hf
  have hl : lv_has ls 4 [(0, va_rf (p0)), (1, va_rf (p1))] := hl
  unfold g_X5_apart at hf
  refine hw_aload_n (r := p0) hx hb dX5_apart_0 rfl (lv_at hl 0 rfl) ?_
  obtain ⟨x1, hv, hf⟩ := ob_s hf
  refine hw_gi (C := RX1) (T := TX1) (N := 6) (ref := "SolidGroups$Entry") S hKn hD hv rfl (by decide) (by decide) rfl inX1 wd0 (fun _ h9 => h9) dX5_apart_1 ?_
  refine hw_aload_n (r := p1) hx hb dX5_apart_4 rfl (lv_at hl 1 rfl) ?_
  obtain ⟨x2, hv, hf⟩ := ob_s hf
  refine hw_gi (C := RX1) (T := TX1) (N := 6) (ref := "SolidGroups$Entry") S hKn hD hv rfl (by decide) (by decide) rfl inX1 wd0 (fun _ h9 => h9) dX5_apart_5 ?_
  refine lv_isub hx hb dX5_apart_8 ?_
  refine va_mabs hx hb (S.2.2.1.trans hl.1.symm) S.2.2.2.1 wd1 wd2 wd3 wd4 (by rw [hfr]; decide) (by rw [hlo]; exact Nat.le_trans (Nat.add_le_add_right cs_0 13) (by decide)) (by have := hw_room hRm hD; omega) (by have := hw_room hRm hD; omega) dX5_apart_9 ?_
  refine hs_istore_n (i := 2) (lv' := [(2, .int ((if 0 ≤ (x1 - x2) then x1 - x2 else 0 - (x1 - x2)))), (0, va_rf (p0)), (1, va_rf (p1))]) hx hb dX5_apart_12 rfl hl (by decide) (st_okR (st_okR st_ok0)) rfl (fun ls hl => ?_)
  refine lv_iconst (v := (0)) hx hb dX5_apart_13 (by decide) ?_
  refine hs_istore_n (i := 3) (lv' := [(3, .int ((0 : Int32))), (2, .int ((if 0 ≤ (x1 - x2) then x1 - x2 else 0 - (x1 - x2)))), (0, va_rf (p0)), (1, va_rf (p1))]) hx hb dX5_apart_14 rfl hl (by decide) (st_okI (st_okR (st_okR st_ok0))) rfl (fun ls hl => ?_)
  exact hL15 _ p0 p1 (if 0 ≤ (x1 - x2) then x1 - x2 else 0 - (x1 - x2)) (0 : Int32) _ _ _ _ _ _ hD (lv_sub hl [2, 3, 1, 0] rfl) hf
set_option maxHeartbeats 4000000 in
set_option maxRecDepth 100000 in
theorem c_X0_measureSteps (l : Launch) (D : va_G) (G : GC) (base : Nat) (E : PE) {a0 : Nat} {p1 : Int32} {σ0 τ : PS} {rv : Unit} (hF : f_X0_measureSteps E (some a0) p1 σ0 = some (rv, τ)) : Ct l D G base E yX0_measureSteps wsX0_measureSteps 3 83 ([.ref a0, .int (p1)] : List Value) σ0 none τ := by
  obtain ⟨hf, hmo⟩ := oM_of hF
  refine Ct.of (own := RX0) [1, 1] (by decide) rfl rfl hmo (ct_R (ct_I ct_0)) (by decide) ?_
  intro p e s m below meth c R Q ls H locs cells slots S hKn hRm hfr hlo hlk hret hnm hQ hD hl
  have hx := S.1
  have hb := S.2.1
  have hts := S.2.2.2.2
  have inX0 : ∀ w ∈ u_ws RX0 TX0 3, w ∈ wsX0_measureSteps := by decide +kernel
  have wd0 := hts (.fieldLink RX0 18 "SolidGroups$Arranger" "steps" "[I") (by decide +kernel)
  have wd1 := hts (.fieldLink RX0 12 "SolidGroups$Arranger" "byNumbers" "Ljava/util/ArrayList;") (by decide +kernel)
  have wd2 := hts (.classLink RX0 40 "SolidGroups$Entry") (by decide +kernel)
  have wd3 := hts (.initialized RX5) (by decide +kernel)
  have wd4 := hts (.static yX5_apart) (by decide +kernel)
  have hL9 : ∀ (k2 : Option Nat → Int32 → Int32 → PS → Option (Unit × PS)) (hk2 : ∀ (z0 : Option Nat) (z1 : Int32) (z2 : Int32) (σ : PS) (H : Heap) (locs : List Loc) (cells slots : Nat) (ls : Array Slot), Dy D G base E s.heap σ0 σ H locs cells slots → lv_has ls 4 [(0, va_rf (z0)), (1, .int (z1)), (2, .int (z2))] → k2 z0 z1 z2 σ = some (rv, τ) → W p l e R s m ([.ref a0, .int (p1)] : List Value).toArray below meth c H locs cells slots Q (F0 m 2 ls [])) (n : Nat), ∀ (v0 : Option Nat) (v1 : Int32) (v2 : Int32) (v3 : Int32) (σ : PS) (H : Heap) (locs : List Loc) (cells slots : Nat) (ls : Array Slot), Dy D G base E s.heap σ0 σ H locs cells slots → lv_has ls 4 [(0, va_rf (v0)), (1, .int (v1)), (2, .int (v2)), (3, .int (v3))] → f_X0_measureSteps_L9 E k2 n v0 v1 v2 v3 σ = some (rv, τ) → W p l e R s m ([.ref a0, .int (p1)] : List Value).toArray below meth c H locs cells slots Q (F0 m 9 ls []) := by
    intro k2 hk2 n
    induction n with
    | zero =>
      intro v0 v1 v2 v3 σ H locs cells slots ls hD hl hf
      rw [f_X0_measureSteps_L9] at hf
      cases hf
    | succ n ih =>
      intro v0 v1 v2 v3 σ H locs cells slots ls hD hl hf
      rw [f_X0_measureSteps_L9] at hf
      refine lv_iload_n hx hb dX0_measureSteps_9 rfl (lv_at hl 3 rfl) ?_
      refine lv_iload_n hx hb dX0_measureSteps_10 rfl (lv_at hl 1 rfl) ?_
      refine lv_icmp_ge (tgt := 56) hx hb dX0_measureSteps_11 (by decide) (fun hc => ?_) (fun hc => ?_)
      · rw [if_pos hc] at hf
        refine hs_iinc (i := 2) (k := 2) (v := v2 + 1) (lv' := [(2, .int (v2 + 1)), (0, va_rf (v0)), (1, .int (v1)), (3, .int (v3))]) hx hb dX0_measureSteps_56 hl rfl (congrArg (fun z => v2 + z) (by decide)) (by decide) (st_okR (st_okI (st_okI (st_okI st_ok0)))) rfl (fun ls hl => ?_)
        refine lv_goto (tgt := 2) hx hb dX0_measureSteps_59 (by decide) ?_
        exact hk2 v0 v1 (v2 + 1) _ _ _ _ _ _ hD (lv_sub hl [1, 2, 0] rfl) hf
      · rw [if_neg hc] at hf
        refine hw_aload_n (r := v0) hx hb dX0_measureSteps_14 rfl (lv_at hl 0 rfl) ?_
        obtain ⟨x1, hv, hf⟩ := ob_s hf
        refine hw_gr (C := RX0) (T := TX0) (N := 3) (ref := "SolidGroups$Arranger") S hKn hD hv rfl (by decide) (by decide) rfl inX0 wd0 (fun _ h9 => h9) dX0_measureSteps_15 ?_
        refine lv_iload_n hx hb dX0_measureSteps_18 rfl (lv_at hl 2 rfl) ?_
        refine lv_bipush (v := (7)) hx hb dX0_measureSteps_19 (by decide) ?_
        refine lv_imul hx hb dX0_measureSteps_21 ?_
        refine lv_iload_n hx hb dX0_measureSteps_22 rfl (lv_at hl 3 rfl) ?_
        refine lv_iadd hx hb dX0_measureSteps_23 ?_
        refine hw_aload_n (r := v0) hx hb dX0_measureSteps_24 rfl (lv_at hl 0 rfl) ?_
        obtain ⟨x2, hv, hf⟩ := ob_s hf
        refine hw_gr (C := RX0) (T := TX0) (N := 3) (ref := "SolidGroups$Arranger") S hKn hD hv rfl (by decide) (by decide) rfl inX0 wd1 (fun _ h9 => h9) dX0_measureSteps_25 ?_
        refine lv_iload_n hx hb dX0_measureSteps_28 rfl (lv_at hl 2 rfl) ?_
        obtain ⟨b5, hv, hf⟩ := ob_s hf
        obtain ⟨e9, hk9⟩ := oK_of hv
        cases e9
        obtain ⟨r3, s4, hv, hf⟩ := ob_p hf
        refine hw_V (b := b5) (ci := 0) (T := TJx4a65c) (N := 3) (As := [.int (v2)]) (rest := [.int ((v2 * (7 : Int32)) + v3), va_rf (x1)]) S hKn hRm hD (c_Jx4a65c_get_915e3 l D G base E hv) (mo_Jx4a65c_get_915e3 hv) hk9 rfl (by decide) gX0_measureSteps_Jx4a65c_get_915e3 rfl 1 (by decide +kernel) ⟨by rw [hfr]; decide, by rw [hlo]; decide⟩ rfl hl.1 (Nat.le_trans (cs_I (cs_A cs_0)) (by decide)) rfl dX0_measureSteps_29 (fun H locs cells slots hD => ?_)
        refine W.eq (g2 := F0 m 32 ls [va_rf (r3), .int ((v2 * (7 : Int32)) + v3), va_rf (x1)]) rfl ?_
        obtain ⟨u6, hv, hf⟩ := ob_s hf
        refine hw_ca (C := RX1) (T := TX1) (N := 6) S hKn hD hv rfl (by decide) wd2 dX0_measureSteps_32 ?_
        refine hw_aload_n (r := v0) hx hb dX0_measureSteps_35 rfl (lv_at hl 0 rfl) ?_
        obtain ⟨x7, hv, hf⟩ := ob_s hf
        refine hw_gr (C := RX0) (T := TX0) (N := 3) (ref := "SolidGroups$Arranger") S hKn hD hv rfl (by decide) (by decide) rfl inX0 wd1 (fun _ h9 => h9) dX0_measureSteps_36 ?_
        refine lv_iload_n hx hb dX0_measureSteps_39 rfl (lv_at hl 3 rfl) ?_
        obtain ⟨b10, hv, hf⟩ := ob_s hf
        obtain ⟨e9, hk9⟩ := oK_of hv
        cases e9
        obtain ⟨r8, s9, hv, hf⟩ := ob_p hf
        refine hw_V (b := b10) (ci := 0) (T := TJx4a65c) (N := 3) (As := [.int (v3)]) (rest := [va_rf (r3), .int ((v2 * (7 : Int32)) + v3), va_rf (x1)]) S hKn hRm hD (c_Jx4a65c_get_915e3 l D G base E hv) (mo_Jx4a65c_get_915e3 hv) hk9 rfl (by decide) gX0_measureSteps_Jx4a65c_get_915e3 rfl 1 (by decide +kernel) ⟨by rw [hfr]; decide, by rw [hlo]; decide⟩ rfl hl.1 (Nat.le_trans (cs_A (cs_I (cs_A cs_0))) (by decide)) rfl dX0_measureSteps_40 (fun H locs cells slots hD => ?_)
        refine W.eq (g2 := F0 m 43 ls [va_rf (r8), va_rf (r3), .int ((v2 * (7 : Int32)) + v3), va_rf (x1)]) rfl ?_
        obtain ⟨u11, hv, hf⟩ := ob_s hf
        refine hw_ca (C := RX1) (T := TX1) (N := 6) S hKn hD hv rfl (by decide) wd2 dX0_measureSteps_43 ?_
        obtain ⟨r12, s13, hv, hf⟩ := ob_p hf
        refine hw_SN (As := [va_rf (r3), va_rf (r8)]) (rest := [.int ((v2 * (7 : Int32)) + v3), va_rf (x1)]) S hKn hRm hD (c_X5_apart l D G base E hv) (mo_X5_apart hv) hKn.2.2.2.2.2.1.2.2.2.1 ggX0_measureSteps_X5_apart rfl 2 wd3 wd4 (by decide +kernel) ⟨by rw [hfr]; decide, by rw [hlo]; decide⟩ rfl hl.1 (Nat.le_trans (cs_I (cs_A cs_0)) (by decide)) rfl dX0_measureSteps_46 (fun H locs cells slots hD => ?_)
        refine W.eq (g2 := F0 m 49 ls [.int (r12), .int ((v2 * (7 : Int32)) + v3), va_rf (x1)]) rfl ?_
        obtain ⟨s14, hv, hf⟩ := ob_s hf
        refine hw_as S hKn hD hv dX0_measureSteps_49 (fun H locs hD => ?_)
        refine hs_iinc (i := 3) (k := 3) (v := v3 + 1) (lv' := [(3, .int (v3 + 1)), (0, va_rf (v0)), (1, .int (v1)), (2, .int (v2))]) hx hb dX0_measureSteps_50 hl rfl (congrArg (fun z => v3 + z) (by decide)) (by decide) (st_okR (st_okI (st_okI (st_okI st_ok0)))) rfl (fun ls hl => ?_)
        refine lv_goto (tgt := 9) hx hb dX0_measureSteps_53 (by decide) ?_
        exact ih v0 v1 v2 (v3 + 1) _ _ _ _ _ _ hD (lv_sub hl [1, 2, 3, 0] rfl) hf
  have hL2 : ∀ (n : Nat), ∀ (v0 : Option Nat) (v1 : Int32) (v2 : Int32) (σ : PS) (H : Heap) (locs : List Loc) (cells slots : Nat) (ls : Array Slot), Dy D G base E s.heap σ0 σ H locs cells slots → lv_has ls 4 [(0, va_rf (v0)), (1, .int (v1)), (2, .int (v2))] → f_X0_measureSteps_L2 E n v0 v1 v2 σ = some (rv, τ) → W p l e R s m ([.ref a0, .int (p1)] : List Value).toArray below meth c H locs cells slots Q (F0 m 2 ls []) := by
    intro n
    induction n with
    | zero =>
      intro v0 v1 v2 σ H locs cells slots ls hD hl hf
      rw [f_X0_measureSteps_L2] at hf
      cases hf
    | succ n ih =>
      intro v0 v1 v2 σ H locs cells slots ls hD hl hf
      rw [f_X0_measureSteps_L2] at hf
      refine lv_iload_n hx hb dX0_measureSteps_2 rfl (lv_at hl 2 rfl) ?_
      refine lv_iload_n hx hb dX0_measureSteps_3 rfl (lv_at hl 1 rfl) ?_
      refine lv_icmp_ge (tgt := 62) hx hb dX0_measureSteps_4 (by decide) (fun hc => ?_) (fun hc => ?_)
      · rw [if_pos hc] at hf
        obtain ⟨-, e2⟩ := ret_eq hf
        rw [hQ, ← e2]
        exact hw_vret S hlk hret hD dX0_measureSteps_62
      · rw [if_neg hc] at hf
        refine lv_iconst (v := (0)) hx hb dX0_measureSteps_7 (by decide) ?_
        refine hs_istore_n (i := 3) (lv' := [(3, .int ((0 : Int32))), (0, va_rf (v0)), (1, .int (v1)), (2, .int (v2))]) hx hb dX0_measureSteps_8 rfl hl (by decide) (st_okR (st_okI (st_okI st_ok0))) rfl (fun ls hl => ?_)
        exact hL9 _ ih _ v0 v1 v2 (0 : Int32) _ _ _ _ _ _ hD (lv_sub hl [1, 2, 3, 0] rfl) hf
  have hl : lv_has ls 4 [(0, va_rf (some a0)), (1, .int (p1))] := hl
  unfold g_X0_measureSteps at hf
  refine lv_iconst (v := (0)) hx hb dX0_measureSteps_0 (by decide) ?_
  refine hs_istore_n (i := 2) (lv' := [(2, .int ((0 : Int32))), (0, va_rf ((some a0))), (1, .int (p1))]) hx hb dX0_measureSteps_1 rfl hl (by decide) (st_okR (st_okI st_ok0)) rfl (fun ls hl => ?_)
  exact hL2 _ (some a0) p1 (0 : Int32) _ _ _ _ _ _ hD (lv_sub hl [1, 2, 0] rfl) hf
set_option maxHeartbeats 4000000 in
set_option maxRecDepth 100000 in
theorem c_X0_sumBy (l : Launch) (D : va_G) (G : GC) (base : Nat) (E : PE) {a0 : Nat} {p1 : Int32} {p2 : Int32} {p3 : Int32} {σ0 τ : PS} {rv : Int32} (hF : f_X0_sumBy E (some a0) p1 p2 p3 σ0 = some (rv, τ)) : Ct l D G base E yX0_sumBy wsX0_sumBy 0 0 ([.ref a0, .int (p1), .int (p2), .int (p3)] : List Value) σ0 (some (.int rv)) τ := by
  obtain ⟨hf, hmo⟩ := oM_of hF
  refine Ct.of (own := RX0) [1, 1, 1, 1] (by decide) rfl rfl hmo (ct_R (ct_I (ct_I (ct_I ct_0)))) (by decide) ?_
  intro p e s m below meth c R Q ls H locs cells slots S hKn hRm hfr hlo hlk hret hnm hQ hD hl
  have hx := S.1
  have hb := S.2.1
  have hts := S.2.2.2.2
  have inX0 : ∀ w ∈ u_ws RX0 TX0 3, w ∈ wsX0_sumBy := by decide +kernel
  have wd0 := hts (.fieldLink RX0 18 "SolidGroups$Arranger" "steps" "[I") (by decide +kernel)
  have wd1 := hts (.fieldLink RX0 22 "SolidGroups$Arranger" "sums" "[I") (by decide +kernel)
  have hB20 : ∀ (v0 : Option Nat) (v2 : Int32) (v3 : Int32) (w0 : Int32) (σ : PS) (H : Heap) (locs : List Loc) (cells slots : Nat) (ls : Array Slot), Dy D G base E s.heap σ0 σ H locs cells slots → lv_has ls 5 [(0, va_rf (v0)), (2, .int (v2)), (3, .int (v3))] → f_X0_sumBy_B20 E v0 v2 v3 w0 σ = some (rv, τ) → W p l e R s m ([.ref a0, .int (p1), .int (p2), .int (p3)] : List Value).toArray below meth c H locs cells slots Q (F0 m 20 ls [.int (w0)]) := by
    intro v0 v2 v3 w0 σ H locs cells slots ls hD hl hf
    unfold f_X0_sumBy_B20 at hf
    refine hs_istore (i := 4) (lv' := [(4, .int (w0)), (0, va_rf (v0)), (2, .int (v2)), (3, .int (v3))]) hx hb dX0_sumBy_20 hl (by decide) (st_okR (st_okI (st_okI st_ok0))) rfl (fun ls hl => ?_)
    refine lv_iload hx hb dX0_sumBy_22 (lv_at hl 0 rfl) ?_
    refine hw_aload_n (r := v0) hx hb dX0_sumBy_24 rfl (lv_at hl 1 rfl) ?_
    obtain ⟨x3, hv, hf⟩ := ob_s hf
    refine hw_gr (C := RX0) (T := TX0) (N := 3) (ref := "SolidGroups$Arranger") S hKn hD hv rfl (by decide) (by decide) rfl inX0 wd1 (fun _ h9 => h9) dX0_sumBy_25 ?_
    refine lv_iload_n hx hb dX0_sumBy_28 rfl (lv_at hl 3 rfl) ?_
    refine lv_iconst (v := (1)) hx hb dX0_sumBy_29 (by decide) ?_
    refine lv_iload_n hx hb dX0_sumBy_30 rfl (lv_at hl 2 rfl) ?_
    refine lv_ishl hx hb dX0_sumBy_31 ?_
    refine lv_iconst (v := (-1)) hx hb dX0_sumBy_32 (by decide) ?_
    refine lv_ixor hx hb dX0_sumBy_33 ?_
    refine lv_iand hx hb dX0_sumBy_34 ?_
    refine lv_bipush (v := (7)) hx hb dX0_sumBy_35 (by decide) ?_
    refine lv_imul hx hb dX0_sumBy_37 ?_
    refine lv_iload_n hx hb dX0_sumBy_38 rfl (lv_at hl 2 rfl) ?_
    refine lv_iadd hx hb dX0_sumBy_39 ?_
    obtain ⟨x4, hv, hf⟩ := ob_s hf
    refine hw_al S hKn hD hv dX0_sumBy_40 ?_
    refine lv_iadd hx hb dX0_sumBy_41 ?_
    obtain ⟨e1, e2⟩ := ret_eq hf
    rw [hQ, ← e1, ← e2]
    exact hw_iret S hlk hret rfl hD dX0_sumBy_42
  have hl : lv_has ls 5 [(0, va_rf (some a0)), (1, .int (p1)), (2, .int (p2)), (3, .int (p3))] := hl
  unfold g_X0_sumBy at hf
  refine lv_iload_n hx hb dX0_sumBy_0 rfl (lv_at hl 1 rfl) ?_
  refine lv_iconst (v := (-1)) hx hb dX0_sumBy_1 (by decide) ?_
  refine lv_icmp_ne (tgt := 9) hx hb dX0_sumBy_2 (by decide) (fun hc => ?_) (fun hc => ?_)
  · rw [if_neg hc] at hf
    refine hw_aload_n (r := (some a0)) hx hb dX0_sumBy_9 rfl (lv_at hl 0 rfl) ?_
    obtain ⟨x1, hv, hf⟩ := ob_s hf
    refine hw_gr (C := RX0) (T := TX0) (N := 3) (ref := "SolidGroups$Arranger") S hKn hD hv rfl (by decide) (by decide) rfl inX0 wd0 (fun _ h9 => h9) dX0_sumBy_10 ?_
    refine lv_iload_n hx hb dX0_sumBy_13 rfl (lv_at hl 1 rfl) ?_
    refine lv_bipush (v := (7)) hx hb dX0_sumBy_14 (by decide) ?_
    refine lv_imul hx hb dX0_sumBy_16 ?_
    refine lv_iload_n hx hb dX0_sumBy_17 rfl (lv_at hl 2 rfl) ?_
    refine lv_iadd hx hb dX0_sumBy_18 ?_
    obtain ⟨x2, hv, hf⟩ := ob_s hf
    refine hw_al S hKn hD hv dX0_sumBy_19 ?_
    exact hB20 (some a0) p2 p3 x2 _ _ _ _ _ _ hD (lv_sub hl [0, 2, 3] rfl) hf
  · rw [if_pos hc] at hf
    refine lv_iconst (v := (0)) hx hb dX0_sumBy_5 (by decide) ?_
    refine lv_goto (tgt := 20) hx hb dX0_sumBy_6 (by decide) ?_
    exact hB20 (some a0) p2 p3 (0 : Int32) _ _ _ _ _ _ hD (lv_sub hl [0, 2, 3] rfl) hf
set_option maxHeartbeats 4000000 in
set_option maxRecDepth 100000 in
theorem c_X0_bestNext (l : Launch) (D : va_G) (G : GC) (base : Nat) (E : PE) {a0 : Nat} {p1 : Int32} {p2 : Int32} {p3 : Int32} {σ0 τ : PS} {rv : Int32} (hF : f_X0_bestNext E (some a0) p1 p2 p3 σ0 = some (rv, τ)) : Ct l D G base E yX0_bestNext wsX0_bestNext 1 24 ([.ref a0, .int (p1), .int (p2), .int (p3)] : List Value) σ0 (some (.int rv)) τ := by
  obtain ⟨hf, hmo⟩ := oM_of hF
  refine Ct.of (own := RX0) [1, 1, 1, 1] (by decide) rfl rfl hmo (ct_R (ct_I (ct_I (ct_I ct_0)))) (by decide) ?_
  intro p e s m below meth c R Q ls H locs cells slots S hKn hRm hfr hlo hlk hret hnm hQ hD hl
  have hx := S.1
  have hb := S.2.1
  have hts := S.2.2.2.2
  have hB55 : ∀ (k9 : Option Nat → Int32 → Int32 → Int32 → Int32 → Int32 → Int32 → PS → Option (Int32 × PS)) (hk9 : ∀ (z0 : Option Nat) (z1 : Int32) (z2 : Int32) (z3 : Int32) (z4 : Int32) (z5 : Int32) (z6 : Int32) (σ : PS) (H : Heap) (locs : List Loc) (cells slots : Nat) (ls : Array Slot), Dy D G base E s.heap σ0 σ H locs cells slots → lv_has ls 8 [(0, va_rf (z0)), (1, .int (z1)), (2, .int (z2)), (3, .int (z3)), (4, .int (z4)), (5, .int (z5)), (6, .int (z6))] → k9 z0 z1 z2 z3 z4 z5 z6 σ = some (rv, τ) → W p l e R s m ([.ref a0, .int (p1), .int (p2), .int (p3)] : List Value).toArray below meth c H locs cells slots Q (F0 m 9 ls [])), ∀ (v0 : Option Nat) (v1 : Int32) (v2 : Int32) (v3 : Int32) (v4 : Int32) (v5 : Int32) (v6 : Int32) (σ : PS) (H : Heap) (locs : List Loc) (cells slots : Nat) (ls : Array Slot), Dy D G base E s.heap σ0 σ H locs cells slots → lv_has ls 8 [(0, va_rf (v0)), (1, .int (v1)), (2, .int (v2)), (3, .int (v3)), (4, .int (v4)), (5, .int (v5)), (6, .int (v6))] → f_X0_bestNext_B55 E k9 v0 v1 v2 v3 v4 v5 v6 σ = some (rv, τ) → W p l e R s m ([.ref a0, .int (p1), .int (p2), .int (p3)] : List Value).toArray below meth c H locs cells slots Q (F0 m 55 ls []) := by
    intro k9 hk9 v0 v1 v2 v3 v4 v5 v6 σ H locs cells slots ls hD hl hf
    unfold f_X0_bestNext_B55 at hf
    refine hs_iinc (i := 6) (k := 6) (v := v6 + 1) (lv' := [(6, .int (v6 + 1)), (0, va_rf (v0)), (1, .int (v1)), (2, .int (v2)), (3, .int (v3)), (4, .int (v4)), (5, .int (v5))]) hx hb dX0_bestNext_55 hl rfl (congrArg (fun z => v6 + z) (by decide)) (by decide) (st_okR (st_okI (st_okI (st_okI (st_okI (st_okI (st_okI st_ok0))))))) rfl (fun ls hl => ?_)
    refine lv_goto (tgt := 9) hx hb dX0_bestNext_58 (by decide) ?_
    exact hk9 v0 v1 v2 v3 v4 v5 (v6 + 1) _ _ _ _ _ _ hD (lv_sub hl [1, 2, 3, 4, 5, 6, 0] rfl) hf
  have hB47 : ∀ (k9 : Option Nat → Int32 → Int32 → Int32 → Int32 → Int32 → Int32 → PS → Option (Int32 × PS)) (hk9 : ∀ (z0 : Option Nat) (z1 : Int32) (z2 : Int32) (z3 : Int32) (z4 : Int32) (z5 : Int32) (z6 : Int32) (σ : PS) (H : Heap) (locs : List Loc) (cells slots : Nat) (ls : Array Slot), Dy D G base E s.heap σ0 σ H locs cells slots → lv_has ls 8 [(0, va_rf (z0)), (1, .int (z1)), (2, .int (z2)), (3, .int (z3)), (4, .int (z4)), (5, .int (z5)), (6, .int (z6))] → k9 z0 z1 z2 z3 z4 z5 z6 σ = some (rv, τ) → W p l e R s m ([.ref a0, .int (p1), .int (p2), .int (p3)] : List Value).toArray below meth c H locs cells slots Q (F0 m 9 ls [])), ∀ (v0 : Option Nat) (v1 : Int32) (v2 : Int32) (v3 : Int32) (v6 : Int32) (v7 : Int32) (σ : PS) (H : Heap) (locs : List Loc) (cells slots : Nat) (ls : Array Slot), Dy D G base E s.heap σ0 σ H locs cells slots → lv_has ls 8 [(0, va_rf (v0)), (1, .int (v1)), (2, .int (v2)), (3, .int (v3)), (6, .int (v6)), (7, .int (v7))] → f_X0_bestNext_B47 E k9 v0 v1 v2 v3 v6 v7 σ = some (rv, τ) → W p l e R s m ([.ref a0, .int (p1), .int (p2), .int (p3)] : List Value).toArray below meth c H locs cells slots Q (F0 m 47 ls []) := by
    intro k9 hk9 v0 v1 v2 v3 v6 v7 σ H locs cells slots ls hD hl hf
    unfold f_X0_bestNext_B47 at hf
    refine lv_iload hx hb dX0_bestNext_47 (lv_at hl 4 rfl) ?_
    refine hs_istore (i := 4) (lv' := [(4, .int (v6)), (0, va_rf (v0)), (1, .int (v1)), (2, .int (v2)), (3, .int (v3)), (6, .int (v6)), (7, .int (v7))]) hx hb dX0_bestNext_49 hl (by decide) (st_okR (st_okI (st_okI (st_okI (st_okI (st_okI st_ok0)))))) rfl (fun ls hl => ?_)
    refine lv_iload hx hb dX0_bestNext_51 (lv_at hl 6 rfl) ?_
    refine hs_istore (i := 5) (lv' := [(5, .int (v7)), (4, .int (v6)), (0, va_rf (v0)), (1, .int (v1)), (2, .int (v2)), (3, .int (v3)), (6, .int (v6)), (7, .int (v7))]) hx hb dX0_bestNext_53 hl (by decide) (st_okI (st_okR (st_okI (st_okI (st_okI (st_okI (st_okI st_ok0))))))) rfl (fun ls hl => ?_)
    exact hB55 _ hk9 v0 v1 v2 v3 v6 v7 v6 _ _ _ _ _ _ hD (lv_sub hl [2, 3, 4, 5, 1, 0, 6] rfl) hf
  have hL9 : ∀ (n : Nat), ∀ (v0 : Option Nat) (v1 : Int32) (v2 : Int32) (v3 : Int32) (v4 : Int32) (v5 : Int32) (v6 : Int32) (σ : PS) (H : Heap) (locs : List Loc) (cells slots : Nat) (ls : Array Slot), Dy D G base E s.heap σ0 σ H locs cells slots → lv_has ls 8 [(0, va_rf (v0)), (1, .int (v1)), (2, .int (v2)), (3, .int (v3)), (4, .int (v4)), (5, .int (v5)), (6, .int (v6))] → f_X0_bestNext_L9 E n v0 v1 v2 v3 v4 v5 v6 σ = some (rv, τ) → W p l e R s m ([.ref a0, .int (p1), .int (p2), .int (p3)] : List Value).toArray below meth c H locs cells slots Q (F0 m 9 ls []) := by
    intro n
    induction n with
    | zero =>
      intro v0 v1 v2 v3 v4 v5 v6 σ H locs cells slots ls hD hl hf
      rw [f_X0_bestNext_L9] at hf
      cases hf
    | succ n ih =>
      intro v0 v1 v2 v3 v4 v5 v6 σ H locs cells slots ls hD hl hf
      rw [f_X0_bestNext_L9] at hf
      refine lv_iload hx hb dX0_bestNext_9 (lv_at hl 6 rfl) ?_
      refine lv_iload_n hx hb dX0_bestNext_11 rfl (lv_at hl 3 rfl) ?_
      refine lv_icmp_ge (tgt := 61) hx hb dX0_bestNext_12 (by decide) (fun hc => ?_) (fun hc => ?_)
      · rw [if_pos hc] at hf
        refine lv_iload hx hb dX0_bestNext_61 (lv_at hl 4 rfl) ?_
        obtain ⟨e1, e2⟩ := ret_eq hf
        rw [hQ, ← e1, ← e2]
        exact hw_iret S hlk hret rfl hD dX0_bestNext_63
      · rw [if_neg hc] at hf
        refine lv_iload_n hx hb dX0_bestNext_15 rfl (lv_at hl 2 rfl) ?_
        refine lv_iload hx hb dX0_bestNext_16 (lv_at hl 6 rfl) ?_
        refine lv_ishr hx hb dX0_bestNext_18 ?_
        refine lv_iconst (v := (1)) hx hb dX0_bestNext_19 (by decide) ?_
        refine lv_iand hx hb dX0_bestNext_20 ?_
        refine lv_if_eq (tgt := 55) hx hb dX0_bestNext_21 (by decide) (fun hc => ?_) (fun hc => ?_)
        · rw [if_pos hc] at hf
          exact hB55 _ ih v0 v1 v2 v3 v4 v5 v6 _ _ _ _ _ _ hD (lv_sub hl [0, 1, 2, 3, 4, 5, 6] rfl) hf
        · rw [if_neg hc] at hf
          refine hw_aload_n (r := v0) hx hb dX0_bestNext_24 rfl (lv_at hl 0 rfl) ?_
          refine lv_iload_n hx hb dX0_bestNext_25 rfl (lv_at hl 1 rfl) ?_
          refine lv_iload hx hb dX0_bestNext_26 (lv_at hl 6 rfl) ?_
          refine lv_iload_n hx hb dX0_bestNext_28 rfl (lv_at hl 2 rfl) ?_
          obtain ⟨b3, hv, hf⟩ := ob_s hf
          obtain ⟨e9, hk9⟩ := oK_of hv
          cases e9
          obtain ⟨r1, s2, hv, hf⟩ := ob_p hf
          refine hw_V (b := b3) (ci := 1) (T := TX0) (N := 3) (As := [.int (v1), .int (v6), .int (v2)]) (rest := []) S hKn hRm hD (c_X0_sumBy l D G base E hv) (mo_X0_sumBy hv) hk9 rfl (by decide) gX0_bestNext_X0_sumBy rfl 3 (by decide +kernel) ⟨by rw [hfr]; decide, by rw [hlo]; decide⟩ rfl hl.1 (Nat.le_trans cs_0 (by decide)) rfl dX0_bestNext_29 (fun H locs cells slots hD => ?_)
          refine W.eq (g2 := F0 m 32 ls [.int (r1)]) rfl ?_
          refine hs_istore (i := 7) (lv' := [(7, .int (r1)), (0, va_rf ((some b3))), (1, .int (v1)), (2, .int (v2)), (3, .int (v3)), (4, .int (v4)), (5, .int (v5)), (6, .int (v6))]) hx hb dX0_bestNext_32 hl (by decide) (st_okR (st_okI (st_okI (st_okI (st_okI (st_okI (st_okI st_ok0))))))) rfl (fun ls hl => ?_)
          refine lv_iload hx hb dX0_bestNext_34 (lv_at hl 5 rfl) ?_
          refine lv_iconst (v := (-1)) hx hb dX0_bestNext_36 (by decide) ?_
          refine lv_icmp_eq (tgt := 47) hx hb dX0_bestNext_37 (by decide) (fun hc => ?_) (fun hc => ?_)
          · rw [if_pos hc] at hf
            exact hB47 _ ih (some b3) v1 v2 v3 v6 r1 _ _ _ _ _ _ hD (lv_sub hl [1, 2, 3, 4, 7, 0] rfl) hf
          · rw [if_neg hc] at hf
            refine lv_iload hx hb dX0_bestNext_40 (lv_at hl 0 rfl) ?_
            refine lv_iload hx hb dX0_bestNext_42 (lv_at hl 6 rfl) ?_
            refine lv_icmp_ge (tgt := 55) hx hb dX0_bestNext_44 (by decide) (fun hc => ?_) (fun hc => ?_)
            · rw [if_pos hc] at hf
              exact hB55 _ ih (some b3) v1 v2 v3 v4 v5 v6 _ _ _ _ _ _ hD (lv_sub hl [1, 2, 3, 4, 5, 6, 7] rfl) hf
            · rw [if_neg hc] at hf
              exact hB47 _ ih (some b3) v1 v2 v3 v6 r1 _ _ _ _ _ _ hD (lv_sub hl [1, 2, 3, 4, 7, 0] rfl) hf
  have hl : lv_has ls 8 [(0, va_rf (some a0)), (1, .int (p1)), (2, .int (p2)), (3, .int (p3))] := hl
  unfold g_X0_bestNext at hf
  refine lv_iconst (v := (-1)) hx hb dX0_bestNext_0 (by decide) ?_
  refine hs_istore (i := 4) (lv' := [(4, .int ((-1 : Int32))), (0, va_rf ((some a0))), (1, .int (p1)), (2, .int (p2)), (3, .int (p3))]) hx hb dX0_bestNext_1 hl (by decide) (st_okR (st_okI (st_okI (st_okI st_ok0)))) rfl (fun ls hl => ?_)
  refine lv_iconst (v := (0)) hx hb dX0_bestNext_3 (by decide) ?_
  refine hs_istore (i := 5) (lv' := [(5, .int ((0 : Int32))), (4, .int ((-1 : Int32))), (0, va_rf ((some a0))), (1, .int (p1)), (2, .int (p2)), (3, .int (p3))]) hx hb dX0_bestNext_4 hl (by decide) (st_okI (st_okR (st_okI (st_okI (st_okI st_ok0))))) rfl (fun ls hl => ?_)
  refine lv_iconst (v := (0)) hx hb dX0_bestNext_6 (by decide) ?_
  refine hs_istore (i := 6) (lv' := [(6, .int ((0 : Int32))), (5, .int ((0 : Int32))), (4, .int ((-1 : Int32))), (0, va_rf ((some a0))), (1, .int (p1)), (2, .int (p2)), (3, .int (p3))]) hx hb dX0_bestNext_7 hl (by decide) (st_okI (st_okI (st_okR (st_okI (st_okI (st_okI st_ok0)))))) rfl (fun ls hl => ?_)
  exact hL9 _ (some a0) p1 p2 p3 (-1 : Int32) (0 : Int32) (0 : Int32) _ _ _ _ _ _ hD (lv_sub hl [3, 4, 5, 6, 2, 1, 0] rfl) hf
