set_option maxHeartbeats 4000000 in
set_option maxRecDepth 100000 in
theorem c_X1_append (l : Launch) (D : va_G) (G : GC) (base : Nat) (E : PE) {a0 : Nat} {p1 : Int32} {p2 : Int64} {σ0 τ : PS} {rv : Unit} (hF : f_X1_append E (some a0) p1 p2 σ0 = some (rv, τ)) : Ct l D G base E yX1_append wsX1_append 1 21 ([.ref a0, .int (p1), .long (p2)] : List Value) σ0 none τ := by
  obtain ⟨hf, hmo⟩ := oM_of hF
  refine Ct.of (own := RX1) [1, 1, 2] (by decide) rfl rfl hmo (ct_R (ct_I (ct_J ct_0))) (by decide) ?_
  intro p e s m below meth c R Q ls H locs cells slots S hKn hRm hfr hlo hlk hret hnm hQ hD hl
  have hx := S.1
  have hb := S.2.1
  have hts := S.2.2.2.2
  have inX1 : ∀ w ∈ u_ws RX1 TX1 6, w ∈ wsX1_append := by decide +kernel
  have wd0 := hts (.fieldLink RX1 18 "SolidGroups$Entry" "length" "I") (by decide +kernel)
  have wd1 := hts (.fieldLink RX1 9 "SolidGroups$Entry" "bytes" "[I") (by decide +kernel)
  have hB55 : ∀ (v0 : Option Nat) (σ : PS) (H : Heap) (locs : List Loc) (cells slots : Nat) (ls : Array Slot), Dy D G base E s.heap σ0 σ H locs cells slots → lv_has ls 5 [(0, va_rf (v0))] → f_X1_append_B55 E v0 σ = some (rv, τ) → W p l e R s m ([.ref a0, .int (p1), .long (p2)] : List Value).toArray below meth c H locs cells slots Q (F0 m 55 ls []) := by
    intro v0 σ H locs cells slots ls hD hl hf
    unfold f_X1_append_B55 at hf
    refine hw_aload_n (r := v0) hx hb dX1_append_55 rfl (lv_at hl 0 rfl) ?_
    obtain ⟨b9, hv, hf⟩ := ob_s hf
    obtain ⟨e9, hk9⟩ := oK_of hv
    cases e9
    obtain ⟨r7, s8, hv, hf⟩ := ob_p hf
    refine hw_V (b := b9) (ci := 2) (T := TX1) (N := 6) (As := []) (rest := []) S hKn hRm hD (c_X1_countMarks l D G base E hv) (mo_X1_countMarks hv) hk9 rfl (by decide) gX1_append_X1_countMarks rfl 0 (by decide +kernel) ⟨by rw [hfr]; decide, by rw [hlo]; decide⟩ rfl hl.1 (Nat.le_trans cs_0 (by decide)) rfl dX1_append_56 (fun H locs cells slots hD => ?_)
    refine W.eq (g2 := F0 m 59 ls []) rfl ?_
    obtain ⟨-, e2⟩ := ret_eq hf
    rw [hQ, ← e2]
    exact hw_vret S hlk hret hD dX1_append_59
  have hL3 : ∀ (n : Nat), ∀ (v0 : Option Nat) (v1 : Int32) (v2 : Int64) (v4 : Int32) (σ : PS) (H : Heap) (locs : List Loc) (cells slots : Nat) (ls : Array Slot), Dy D G base E s.heap σ0 σ H locs cells slots → lv_has ls 5 [(0, va_rf (v0)), (1, .int (v1)), (2, .long (v2)), (4, .int (v4))] → f_X1_append_L3 E n v0 v1 v2 v4 σ = some (rv, τ) → W p l e R s m ([.ref a0, .int (p1), .long (p2)] : List Value).toArray below meth c H locs cells slots Q (F0 m 3 ls []) := by
    intro n
    induction n with
    | zero =>
      intro v0 v1 v2 v4 σ H locs cells slots ls hD hl hf
      rw [f_X1_append_L3] at hf
      cases hf
    | succ n ih =>
      intro v0 v1 v2 v4 σ H locs cells slots ls hD hl hf
      rw [f_X1_append_L3] at hf
      refine lv_iload hx hb dX1_append_3 (lv_at hl 3 rfl) ?_
      refine lv_iload_n hx hb dX1_append_5 rfl (lv_at hl 1 rfl) ?_
      refine lv_icmp_ge (tgt := 55) hx hb dX1_append_6 (by decide) (fun hc => ?_) (fun hc => ?_)
      · rw [if_pos hc] at hf
        exact hB55 v0 _ _ _ _ _ _ hD (lv_sub hl [0] rfl) hf
      · rw [if_neg hc] at hf
        refine hw_aload_n (r := v0) hx hb dX1_append_9 rfl (lv_at hl 0 rfl) ?_
        obtain ⟨x1, hv, hf⟩ := ob_s hf
        refine hw_gi (C := RX1) (T := TX1) (N := 6) (ref := "SolidGroups$Entry") S hKn hD hv rfl (by decide) (by decide) rfl inX1 wd0 (fun _ h9 => h9) dX1_append_10 ?_
        refine lv_bipush (v := (60)) hx hb dX1_append_13 (by decide) ?_
        refine lv_icmp_ge (tgt := 55) hx hb dX1_append_15 (by decide) (fun hc => ?_) (fun hc => ?_)
        · rw [if_pos hc] at hf
          exact hB55 v0 _ _ _ _ _ _ hD (lv_sub hl [0] rfl) hf
        · rw [if_neg hc] at hf
          refine hw_aload_n (r := v0) hx hb dX1_append_18 rfl (lv_at hl 0 rfl) ?_
          obtain ⟨x2, hv, hf⟩ := ob_s hf
          refine hw_gr (C := RX1) (T := TX1) (N := 6) (ref := "SolidGroups$Entry") S hKn hD hv rfl (by decide) (by decide) rfl inX1 wd1 (fun _ h9 => h9) dX1_append_19 ?_
          refine hw_aload_n (r := v0) hx hb dX1_append_22 rfl (lv_at hl 0 rfl) ?_
          obtain ⟨x3, hv, hf⟩ := ob_s hf
          refine hw_gi (C := RX1) (T := TX1) (N := 6) (ref := "SolidGroups$Entry") S hKn hD hv rfl (by decide) (by decide) rfl inX1 wd0 (fun _ h9 => h9) dX1_append_23 ?_
          refine lv_lload_n hx hb dX1_append_26 rfl (lv_at hl 2 rfl) ?_
          refine lv_bipush (v := (8)) hx hb dX1_append_27 (by decide) ?_
          refine lv_iload hx hb dX1_append_29 (lv_at hl 3 rfl) ?_
          refine lv_imul hx hb dX1_append_31 ?_
          refine lv_lushr hx hb dX1_append_32 rfl ?_
          refine lv_l2i hx hb dX1_append_33 rfl ?_
          refine lv_sipush (v := (255)) hx hb dX1_append_34 (by decide) ?_
          refine lv_iand hx hb dX1_append_37 ?_
          obtain ⟨s4, hv, hf⟩ := ob_s hf
          refine hw_as S hKn hD hv dX1_append_38 (fun H locs hD => ?_)
          refine hw_aload_n (r := v0) hx hb dX1_append_39 rfl (lv_at hl 0 rfl) ?_
          refine lv_dup hx hb dX1_append_40 (va_rf_cat _) ?_
          obtain ⟨x5, hv, hf⟩ := ob_s hf
          refine hw_gi (C := RX1) (T := TX1) (N := 6) (ref := "SolidGroups$Entry") S hKn hD hv rfl (by decide) (by decide) rfl inX1 wd0 (fun _ h9 => h9) dX1_append_41 ?_
          refine lv_iconst (v := (1)) hx hb dX1_append_44 (by decide) ?_
          refine lv_iadd hx hb dX1_append_45 ?_
          obtain ⟨s6, hv, hf⟩ := ob_s hf
          refine hw_pi (C := RX1) (T := TX1) (N := 6) (ref := "SolidGroups$Entry") S hKn hD hv rfl (by decide) (by decide) rfl inX1 tyX1 tyX1_ok nmX1 wd0 (fun _ h9 => h9) rfl (by first | rfl | decide) (by first | rfl | decide) dX1_append_46 (fun H locs hD => ?_)
          refine hs_iinc (i := 4) (k := 3) (v := v4 + 1) (lv' := [(4, .int (v4 + 1)), (0, va_rf (v0)), (1, .int (v1)), (2, .long (v2))]) hx hb dX1_append_49 hl rfl (congrArg (fun z => v4 + z) (by decide)) (by decide) (st_okR (st_okI (st_okJ rfl (st_okI st_ok0)))) rfl (fun ls hl => ?_)
          refine lv_goto (tgt := 3) hx hb dX1_append_52 (by decide) ?_
          exact ih v0 v1 v2 (v4 + 1) _ _ _ _ _ _ hD (lv_sub hl [1, 2, 3, 0] rfl) hf
  have hl : lv_has ls 5 [(0, va_rf (some a0)), (1, .int (p1)), (2, .long (p2))] := hl
  unfold g_X1_append at hf
  refine lv_iconst (v := (0)) hx hb dX1_append_0 (by decide) ?_
  refine hs_istore (i := 4) (lv' := [(4, .int ((0 : Int32))), (0, va_rf ((some a0))), (1, .int (p1)), (2, .long (p2))]) hx hb dX1_append_1 hl (by decide) (st_okR (st_okI (st_okJ rfl st_ok0))) rfl (fun ls hl => ?_)
  exact hL3 _ (some a0) p1 p2 (0 : Int32) _ _ _ _ _ _ hD (lv_sub hl [1, 2, 3, 0] rfl) hf
set_option maxHeartbeats 4000000 in
set_option maxRecDepth 100000 in
theorem c_X5_octets (l : Launch) (D : va_G) (G : GC) (base : Nat) (E : PE) {a0 : Nat} {p1 : Int32} {p2 : Int32} {p3 : Int64} {σ0 τ : PS} {rv : Int32} (hF : f_X5_octets E (some a0) p1 p2 p3 σ0 = some (rv, τ)) : Ct l D G base E yX5_octets wsX5_octets 3 64 ([.ref a0, .int (p1), .int (p2), .long (p3)] : List Value) σ0 (some (.int rv)) τ := by
  obtain ⟨hf, hmo⟩ := oM_of hF
  refine Ct.of (own := RX5) [1, 1, 1, 2] (by decide) rfl rfl hmo (ct_R (ct_I (ct_I (ct_J ct_0)))) (by decide) ?_
  intro p e s m below meth c R Q ls H locs cells slots S hKn hRm hfr hlo hlk hret hnm hQ hD hl
  have hx := S.1
  have hb := S.2.1
  have hts := S.2.2.2.2
  have inX5 : ∀ w ∈ u_ws RX5 TX5 8, w ∈ wsX5_octets := by decide +kernel
  have inX1 : ∀ w ∈ u_ws RX1 TX1 6, w ∈ wsX5_octets := by decide +kernel
  have wd0 := hts (.fieldLink RX5 10 "SolidGroups" "entries" "Ljava/util/ArrayList;") (by decide +kernel)
  have wd1 := hts (.classLink RX5 55 "SolidGroups$Entry") (by decide +kernel)
  have wd2 := hts (.fieldLink RX5 71 "SolidGroups$Entry" "length" "I") (by decide +kernel)
  have wd3 := hts (.fieldLink RX5 39 "SolidGroups" "packed" "Z") (by decide +kernel)
  have hB19 : ∀ (σ : PS) (H : Heap) (locs : List Loc) (cells slots : Nat) (ls : Array Slot), Dy D G base E s.heap σ0 σ H locs cells slots → lv_has ls 6 [] → f_X5_octets_B19 E σ = some (rv, τ) → W p l e R s m ([.ref a0, .int (p1), .int (p2), .long (p3)] : List Value).toArray below meth c H locs cells slots Q (F0 m 19 ls []) := by
    intro σ H locs cells slots ls hD hl hf
    unfold f_X5_octets_B19 at hf
    refine lv_iconst (v := (-1)) hx hb dX5_octets_19 (by decide) ?_
    obtain ⟨e1, e2⟩ := ret_eq hf
    rw [hQ, ← e1, ← e2]
    exact hw_iret S hlk hret rfl hD dX5_octets_20
  have hl : lv_has ls 6 [(0, va_rf (some a0)), (1, .int (p1)), (2, .int (p2)), (3, .long (p3))] := hl
  unfold g_X5_octets at hf
  refine hw_aload_n (r := (some a0)) hx hb dX5_octets_0 rfl (lv_at hl 0 rfl) ?_
  refine lv_iload_n hx hb dX5_octets_1 rfl (lv_at hl 1 rfl) ?_
  obtain ⟨b3, hv, hf⟩ := ob_s hf
  obtain ⟨e9, hk9⟩ := oK_of hv
  cases e9
  obtain ⟨r1, s2, hv, hf⟩ := ob_p hf
  refine hw_V (b := a0) (ci := 6) (T := TX5) (N := 8) (As := [.int (p1)]) (rest := []) S hKn hRm hD (c_X5_isEntry l D G base E hv) (mo_X5_isEntry hv) hk9 rfl (by decide) gX5_octets_X5_isEntry rfl 1 (by decide +kernel) ⟨by rw [hfr]; decide, by rw [hlo]; decide⟩ rfl hl.1 (Nat.le_trans cs_0 (by decide)) rfl dX5_octets_2 (fun H locs cells slots hD => ?_)
  refine W.eq (g2 := F0 m 5 ls [.int (r1)]) rfl ?_
  refine lv_if_eq (tgt := 19) hx hb dX5_octets_5 (by decide) (fun hc => ?_) (fun hc => ?_)
  · rw [if_pos hc] at hf
    exact hB19 _ _ _ _ _ _ hD (lv_sub hl [] rfl) hf
  · rw [if_neg hc] at hf
    refine lv_iload_n hx hb dX5_octets_8 rfl (lv_at hl 2 rfl) ?_
    refine lv_iconst (v := (1)) hx hb dX5_octets_9 (by decide) ?_
    refine lv_icmp_lt (tgt := 19) hx hb dX5_octets_10 (by decide) (fun hc => ?_) (fun hc => ?_)
    · rw [if_pos hc] at hf
      exact hB19 _ _ _ _ _ _ hD (lv_sub hl [] rfl) hf
    · rw [if_neg hc] at hf
      refine lv_iload_n hx hb dX5_octets_13 rfl (lv_at hl 2 rfl) ?_
      refine lv_bipush (v := (8)) hx hb dX5_octets_14 (by decide) ?_
      refine lv_icmp_le (tgt := 21) hx hb dX5_octets_16 (by decide) (fun hc => ?_) (fun hc => ?_)
      · rw [if_pos hc] at hf
        refine hw_aload_n (r := (some a0)) hx hb dX5_octets_21 rfl (lv_at hl 0 rfl) ?_
        obtain ⟨x4, hv, hf⟩ := ob_s hf
        refine hw_gr (C := RX5) (T := TX5) (N := 8) (ref := "SolidGroups") S hKn hD hv rfl (by decide) (by decide) rfl inX5 wd0 (fun _ h9 => h9) dX5_octets_22 ?_
        refine lv_iload_n hx hb dX5_octets_25 rfl (lv_at hl 1 rfl) ?_
        obtain ⟨b7, hv, hf⟩ := ob_s hf
        obtain ⟨e9, hk9⟩ := oK_of hv
        cases e9
        obtain ⟨r5, s6, hv, hf⟩ := ob_p hf
        refine hw_V (b := b7) (ci := 0) (T := TJx4a65c) (N := 3) (As := [.int (p1)]) (rest := []) S hKn hRm hD (c_Jx4a65c_get_915e3 l D G base E hv) (mo_Jx4a65c_get_915e3 hv) hk9 rfl (by decide) gX5_octets_Jx4a65c_get_915e3 rfl 1 (by decide +kernel) ⟨by rw [hfr]; decide, by rw [hlo]; decide⟩ rfl hl.1 (Nat.le_trans cs_0 (by decide)) rfl dX5_octets_26 (fun H locs cells slots hD => ?_)
        refine W.eq (g2 := F0 m 29 ls [va_rf (r5)]) rfl ?_
        obtain ⟨u8, hv, hf⟩ := ob_s hf
        refine hw_ca (C := RX1) (T := TX1) (N := 6) S hKn hD hv rfl (by decide) wd1 dX5_octets_29 ?_
        refine hs_astore (i := 5) (lv' := [(5, va_rf (r5)), (0, va_rf ((some a0))), (1, .int (p1)), (2, .int (p2)), (3, .long (p3))]) hx hb dX5_octets_32 hl (by decide) (st_okR (st_okI (st_okI (st_okJ rfl st_ok0)))) rfl (fun ls hl => ?_)
        refine hw_aload (r := r5) hx hb dX5_octets_34 (lv_at hl 0 rfl) ?_
        obtain ⟨x9, hv, hf⟩ := ob_s hf
        refine hw_gi (C := RX1) (T := TX1) (N := 6) (ref := "SolidGroups$Entry") S hKn hD hv rfl (by decide) (by decide) rfl inX1 wd2 (fun _ h9 => h9) dX5_octets_36 ?_
        refine lv_iload_n hx hb dX5_octets_39 rfl (lv_at hl 3 rfl) ?_
        refine lv_iadd hx hb dX5_octets_40 ?_
        refine lv_bipush (v := (60)) hx hb dX5_octets_41 (by decide) ?_
        refine lv_icmp_le (tgt := 49) hx hb dX5_octets_43 (by decide) (fun hc => ?_) (fun hc => ?_)
        · rw [if_pos hc] at hf
          refine hw_aload (r := r5) hx hb dX5_octets_49 (lv_at hl 0 rfl) ?_
          refine lv_iload_n hx hb dX5_octets_51 rfl (lv_at hl 3 rfl) ?_
          refine lv_lload_n hx hb dX5_octets_52 rfl (lv_at hl 4 rfl) ?_
          obtain ⟨b12, hv, hf⟩ := ob_s hf
          obtain ⟨e9, hk9⟩ := oK_of hv
          cases e9
          obtain ⟨r10, s11, hv, hf⟩ := ob_p hf
          refine hw_V (b := b12) (ci := 2) (T := TX1) (N := 6) (As := [.int (p2), .long (p3)]) (rest := []) S hKn hRm hD (c_X1_append l D G base E hv) (mo_X1_append hv) hk9 rfl (by decide) gX5_octets_X1_append rfl 2 (by decide +kernel) ⟨by rw [hfr]; decide, by rw [hlo]; decide⟩ rfl hl.1 (Nat.le_trans cs_0 (by decide)) rfl dX5_octets_53 (fun H locs cells slots hD => ?_)
          refine W.eq (g2 := F0 m 56 ls []) rfl ?_
          refine hw_aload_n (r := (some a0)) hx hb dX5_octets_56 rfl (lv_at hl 1 rfl) ?_
          refine lv_iconst (v := (0)) hx hb dX5_octets_57 (by decide) ?_
          obtain ⟨s13, hv, hf⟩ := ob_s hf
          refine hw_pi (C := RX5) (T := TX5) (N := 8) (ref := "SolidGroups") S hKn hD hv rfl (by decide) (by decide) rfl inX5 tyX5 tyX5_ok nmX5 wd3 (fun _ h9 => h9) rfl (by first | rfl | decide) (by first | rfl | decide) dX5_octets_58 (fun H locs hD => ?_)
          refine hw_aload (r := (some b12)) hx hb dX5_octets_61 (lv_at hl 0 rfl) ?_
          obtain ⟨x14, hv, hf⟩ := ob_s hf
          refine hw_gi (C := RX1) (T := TX1) (N := 6) (ref := "SolidGroups$Entry") S hKn hD hv rfl (by decide) (by decide) rfl inX1 wd2 (fun _ h9 => h9) dX5_octets_63 ?_
          obtain ⟨e1, e2⟩ := ret_eq hf
          rw [hQ, ← e1, ← e2]
          exact hw_iret S hlk hret rfl hD dX5_octets_66
        · rw [if_neg hc] at hf
          refine lv_bipush (v := (-3)) hx hb dX5_octets_46 (by decide) ?_
          obtain ⟨e1, e2⟩ := ret_eq hf
          rw [hQ, ← e1, ← e2]
          exact hw_iret S hlk hret rfl hD dX5_octets_48
      · rw [if_neg hc] at hf
        exact hB19 _ _ _ _ _ _ hD (lv_sub hl [] rfl) hf
set_option maxHeartbeats 4000000 in
set_option maxRecDepth 100000 in
theorem c_X5_isByteOf (l : Launch) (D : va_G) (G : GC) (base : Nat) (E : PE) {a0 : Nat} {p1 : Int32} {p2 : Int32} {σ0 τ : PS} {rv : Int32} (hF : f_X5_isByteOf E (some a0) p1 p2 σ0 = some (rv, τ)) : Ct l D G base E yX5_isByteOf wsX5_isByteOf 3 64 ([.ref a0, .int (p1), .int (p2)] : List Value) σ0 (some (.int rv)) τ := by
  obtain ⟨hf, hmo⟩ := oM_of hF
  refine Ct.of (own := RX5) [1, 1, 1] (by decide) rfl rfl hmo (ct_R (ct_I (ct_I ct_0))) (by decide) ?_
  intro p e s m below meth c R Q ls H locs cells slots S hKn hRm hfr hlo hlk hret hnm hQ hD hl
  have hx := S.1
  have hb := S.2.1
  have hts := S.2.2.2.2
  have inX5 : ∀ w ∈ u_ws RX5 TX5 8, w ∈ wsX5_isByteOf := by decide +kernel
  have inX1 : ∀ w ∈ u_ws RX1 TX1 6, w ∈ wsX5_isByteOf := by decide +kernel
  have wd0 := hts (.fieldLink RX5 10 "SolidGroups" "entries" "Ljava/util/ArrayList;") (by decide +kernel)
  have wd1 := hts (.classLink RX5 55 "SolidGroups$Entry") (by decide +kernel)
  have wd2 := hts (.fieldLink RX5 71 "SolidGroups$Entry" "length" "I") (by decide +kernel)
  have hB35 : ∀ (w0 : Int32) (σ : PS) (H : Heap) (locs : List Loc) (cells slots : Nat) (ls : Array Slot), Dy D G base E s.heap σ0 σ H locs cells slots → lv_has ls 3 [] → f_X5_isByteOf_B35 E w0 σ = some (rv, τ) → W p l e R s m ([.ref a0, .int (p1), .int (p2)] : List Value).toArray below meth c H locs cells slots Q (F0 m 35 ls [.int (w0)]) := by
    intro w0 σ H locs cells slots ls hD hl hf
    unfold f_X5_isByteOf_B35 at hf
    by_cases hz : w0 = 0 ∨ w0 = 1
    · rw [if_pos hz] at hf
      obtain ⟨e1, e2⟩ := ret_eq hf
      rw [hQ, ← e1, ← e2]
      exact hw_iret S hlk hret (nar_z hz) hD dX5_isByteOf_35
    · rw [if_neg hz] at hf
      cases hf
  have hB34 : ∀ (σ : PS) (H : Heap) (locs : List Loc) (cells slots : Nat) (ls : Array Slot), Dy D G base E s.heap σ0 σ H locs cells slots → lv_has ls 3 [] → f_X5_isByteOf_B34 E σ = some (rv, τ) → W p l e R s m ([.ref a0, .int (p1), .int (p2)] : List Value).toArray below meth c H locs cells slots Q (F0 m 34 ls []) := by
    intro σ H locs cells slots ls hD hl hf
    unfold f_X5_isByteOf_B34 at hf
    refine lv_iconst (v := (0)) hx hb dX5_isByteOf_34 (by decide) ?_
    exact hB35 (0 : Int32) _ _ _ _ _ _ hD (lv_sub hl [] rfl) hf
  have hl : lv_has ls 3 [(0, va_rf (some a0)), (1, .int (p1)), (2, .int (p2))] := hl
  unfold g_X5_isByteOf at hf
  refine hw_aload_n (r := (some a0)) hx hb dX5_isByteOf_0 rfl (lv_at hl 0 rfl) ?_
  refine lv_iload_n hx hb dX5_isByteOf_1 rfl (lv_at hl 1 rfl) ?_
  obtain ⟨b3, hv, hf⟩ := ob_s hf
  obtain ⟨e9, hk9⟩ := oK_of hv
  cases e9
  obtain ⟨r1, s2, hv, hf⟩ := ob_p hf
  refine hw_V (b := a0) (ci := 6) (T := TX5) (N := 8) (As := [.int (p1)]) (rest := []) S hKn hRm hD (c_X5_isEntry l D G base E hv) (mo_X5_isEntry hv) hk9 rfl (by decide) gX5_isByteOf_X5_isEntry rfl 1 (by decide +kernel) ⟨by rw [hfr]; decide, by rw [hlo]; decide⟩ rfl hl.1 (Nat.le_trans cs_0 (by decide)) rfl dX5_isByteOf_2 (fun H locs cells slots hD => ?_)
  refine W.eq (g2 := F0 m 5 ls [.int (r1)]) rfl ?_
  refine lv_if_eq (tgt := 34) hx hb dX5_isByteOf_5 (by decide) (fun hc => ?_) (fun hc => ?_)
  · rw [if_pos hc] at hf
    exact hB34 _ _ _ _ _ _ hD (lv_sub hl [] rfl) hf
  · rw [if_neg hc] at hf
    refine lv_iload_n hx hb dX5_isByteOf_8 rfl (lv_at hl 2 rfl) ?_
    refine lv_if_lt (tgt := 34) hx hb dX5_isByteOf_9 (by decide) (fun hc => ?_) (fun hc => ?_)
    · rw [if_pos hc] at hf
      exact hB34 _ _ _ _ _ _ hD (lv_sub hl [] rfl) hf
    · rw [if_neg hc] at hf
      refine lv_iload_n hx hb dX5_isByteOf_12 rfl (lv_at hl 2 rfl) ?_
      refine hw_aload_n (r := (some a0)) hx hb dX5_isByteOf_13 rfl (lv_at hl 0 rfl) ?_
      obtain ⟨x4, hv, hf⟩ := ob_s hf
      refine hw_gr (C := RX5) (T := TX5) (N := 8) (ref := "SolidGroups") S hKn hD hv rfl (by decide) (by decide) rfl inX5 wd0 (fun _ h9 => h9) dX5_isByteOf_14 ?_
      refine lv_iload_n hx hb dX5_isByteOf_17 rfl (lv_at hl 1 rfl) ?_
      obtain ⟨b7, hv, hf⟩ := ob_s hf
      obtain ⟨e9, hk9⟩ := oK_of hv
      cases e9
      obtain ⟨r5, s6, hv, hf⟩ := ob_p hf
      refine hw_V (b := b7) (ci := 0) (T := TJx4a65c) (N := 3) (As := [.int (p1)]) (rest := [.int (p2)]) S hKn hRm hD (c_Jx4a65c_get_915e3 l D G base E hv) (mo_Jx4a65c_get_915e3 hv) hk9 rfl (by decide) gX5_isByteOf_Jx4a65c_get_915e3 rfl 1 (by decide +kernel) ⟨by rw [hfr]; decide, by rw [hlo]; decide⟩ rfl hl.1 (Nat.le_trans (cs_I cs_0) (by decide)) rfl dX5_isByteOf_18 (fun H locs cells slots hD => ?_)
      refine W.eq (g2 := F0 m 21 ls [va_rf (r5), .int (p2)]) rfl ?_
      obtain ⟨u8, hv, hf⟩ := ob_s hf
      refine hw_ca (C := RX1) (T := TX1) (N := 6) S hKn hD hv rfl (by decide) wd1 dX5_isByteOf_21 ?_
      obtain ⟨x9, hv, hf⟩ := ob_s hf
      refine hw_gi (C := RX1) (T := TX1) (N := 6) (ref := "SolidGroups$Entry") S hKn hD hv rfl (by decide) (by decide) rfl inX1 wd2 (fun _ h9 => h9) dX5_isByteOf_24 ?_
      refine lv_icmp_ge (tgt := 34) hx hb dX5_isByteOf_27 (by decide) (fun hc => ?_) (fun hc => ?_)
      · rw [if_pos hc] at hf
        exact hB34 _ _ _ _ _ _ hD (lv_sub hl [] rfl) hf
      · rw [if_neg hc] at hf
        refine lv_iconst (v := (1)) hx hb dX5_isByteOf_30 (by decide) ?_
        refine lv_goto (tgt := 35) hx hb dX5_isByteOf_31 (by decide) ?_
        exact hB35 (1 : Int32) _ _ _ _ _ _ hD (lv_sub hl [] rfl) hf
set_option maxHeartbeats 4000000 in
set_option maxRecDepth 100000 in
theorem c_X1_replace (l : Launch) (D : va_G) (G : GC) (base : Nat) (E : PE) {a0 : Nat} {p1 : Int32} {p2 : Int32} {σ0 τ : PS} {rv : Unit} (hF : f_X1_replace E (some a0) p1 p2 σ0 = some (rv, τ)) : Ct l D G base E yX1_replace wsX1_replace 1 21 ([.ref a0, .int (p1), .int (p2)] : List Value) σ0 none τ := by
  obtain ⟨hf, hmo⟩ := oM_of hF
  refine Ct.of (own := RX1) [1, 1, 1] (by decide) rfl rfl hmo (ct_R (ct_I (ct_I ct_0))) (by decide) ?_
  intro p e s m below meth c R Q ls H locs cells slots S hKn hRm hfr hlo hlk hret hnm hQ hD hl
  have hx := S.1
  have hb := S.2.1
  have hts := S.2.2.2.2
  have inX1 : ∀ w ∈ u_ws RX1 TX1 6, w ∈ wsX1_replace := by decide +kernel
  have wd0 := hts (.fieldLink RX1 18 "SolidGroups$Entry" "length" "I") (by decide +kernel)
  have wd1 := hts (.fieldLink RX1 9 "SolidGroups$Entry" "bytes" "[I") (by decide +kernel)
  have hB23 : ∀ (σ : PS) (H : Heap) (locs : List Loc) (cells slots : Nat) (ls : Array Slot), Dy D G base E s.heap σ0 σ H locs cells slots → lv_has ls 3 [] → f_X1_replace_B23 E σ = some (rv, τ) → W p l e R s m ([.ref a0, .int (p1), .int (p2)] : List Value).toArray below meth c H locs cells slots Q (F0 m 23 ls []) := by
    intro σ H locs cells slots ls hD hl hf
    unfold f_X1_replace_B23 at hf
    obtain ⟨-, e2⟩ := ret_eq hf
    rw [hQ, ← e2]
    exact hw_vret S hlk hret hD dX1_replace_23
  have hl : lv_has ls 3 [(0, va_rf (some a0)), (1, .int (p1)), (2, .int (p2))] := hl
  unfold g_X1_replace at hf
  refine lv_iload_n hx hb dX1_replace_0 rfl (lv_at hl 1 rfl) ?_
  refine lv_if_lt (tgt := 23) hx hb dX1_replace_1 (by decide) (fun hc => ?_) (fun hc => ?_)
  · rw [if_pos hc] at hf
    exact hB23 _ _ _ _ _ _ hD (lv_sub hl [] rfl) hf
  · rw [if_neg hc] at hf
    refine lv_iload_n hx hb dX1_replace_4 rfl (lv_at hl 1 rfl) ?_
    refine hw_aload_n (r := (some a0)) hx hb dX1_replace_5 rfl (lv_at hl 0 rfl) ?_
    obtain ⟨x1, hv, hf⟩ := ob_s hf
    refine hw_gi (C := RX1) (T := TX1) (N := 6) (ref := "SolidGroups$Entry") S hKn hD hv rfl (by decide) (by decide) rfl inX1 wd0 (fun _ h9 => h9) dX1_replace_6 ?_
    refine lv_icmp_ge (tgt := 23) hx hb dX1_replace_9 (by decide) (fun hc => ?_) (fun hc => ?_)
    · rw [if_pos hc] at hf
      exact hB23 _ _ _ _ _ _ hD (lv_sub hl [] rfl) hf
    · rw [if_neg hc] at hf
      refine hw_aload_n (r := (some a0)) hx hb dX1_replace_12 rfl (lv_at hl 0 rfl) ?_
      obtain ⟨x2, hv, hf⟩ := ob_s hf
      refine hw_gr (C := RX1) (T := TX1) (N := 6) (ref := "SolidGroups$Entry") S hKn hD hv rfl (by decide) (by decide) rfl inX1 wd1 (fun _ h9 => h9) dX1_replace_13 ?_
      refine lv_iload_n hx hb dX1_replace_16 rfl (lv_at hl 1 rfl) ?_
      refine lv_iload_n hx hb dX1_replace_17 rfl (lv_at hl 2 rfl) ?_
      obtain ⟨s3, hv, hf⟩ := ob_s hf
      refine hw_as S hKn hD hv dX1_replace_18 (fun H locs hD => ?_)
      refine hw_aload_n (r := (some a0)) hx hb dX1_replace_19 rfl (lv_at hl 0 rfl) ?_
      obtain ⟨b6, hv, hf⟩ := ob_s hf
      obtain ⟨e9, hk9⟩ := oK_of hv
      cases e9
      obtain ⟨r4, s5, hv, hf⟩ := ob_p hf
      refine hw_V (b := a0) (ci := 2) (T := TX1) (N := 6) (As := []) (rest := []) S hKn hRm hD (c_X1_countMarks l D G base E hv) (mo_X1_countMarks hv) hk9 rfl (by decide) gX1_replace_X1_countMarks rfl 0 (by decide +kernel) ⟨by rw [hfr]; decide, by rw [hlo]; decide⟩ rfl hl.1 (Nat.le_trans cs_0 (by decide)) rfl dX1_replace_20 (fun H locs cells slots hD => ?_)
      refine W.eq (g2 := F0 m 23 ls []) rfl ?_
      exact hB23 _ _ _ _ _ _ hD (lv_sub hl [] rfl) hf
set_option maxHeartbeats 4000000 in
set_option maxRecDepth 100000 in
theorem c_X1_isKept (l : Launch) (D : va_G) (G : GC) (base : Nat) (E : PE) {a0 : Nat} {σ0 τ : PS} {rv : Int32} (hF : f_X1_isKept E (some a0) σ0 = some (rv, τ)) : Ct l D G base E yX1_isKept wsX1_isKept 0 0 ([.ref a0] : List Value) σ0 (some (.int rv)) τ := by
  obtain ⟨hf, hmo⟩ := oM_of hF
  refine Ct.of (own := RX1) [1] (by decide) rfl rfl hmo (ct_R ct_0) (by decide) ?_
  intro p e s m below meth c R Q ls H locs cells slots S hKn hRm hfr hlo hlk hret hnm hQ hD hl
  have hx := S.1
  have hb := S.2.1
  have hts := S.2.2.2.2
  have inX1 : ∀ w ∈ u_ws RX1 TX1 6, w ∈ wsX1_isKept := by decide +kernel
  have wd0 := hts (.fieldLink RX1 28 "SolidGroups$Entry" "twinOf" "I") (by decide +kernel)
  have wd1 := hts (.fieldLink RX1 22 "SolidGroups$Entry" "number" "I") (by decide +kernel)
  have hB16 : ∀ (w0 : Int32) (σ : PS) (H : Heap) (locs : List Loc) (cells slots : Nat) (ls : Array Slot), Dy D G base E s.heap σ0 σ H locs cells slots → lv_has ls 1 [] → f_X1_isKept_B16 E w0 σ = some (rv, τ) → W p l e R s m ([.ref a0] : List Value).toArray below meth c H locs cells slots Q (F0 m 16 ls [.int (w0)]) := by
    intro w0 σ H locs cells slots ls hD hl hf
    unfold f_X1_isKept_B16 at hf
    by_cases hz : w0 = 0 ∨ w0 = 1
    · rw [if_pos hz] at hf
      obtain ⟨e1, e2⟩ := ret_eq hf
      rw [hQ, ← e1, ← e2]
      exact hw_iret S hlk hret (nar_z hz) hD dX1_isKept_16
    · rw [if_neg hz] at hf
      cases hf
  have hl : lv_has ls 1 [(0, va_rf (some a0))] := hl
  unfold g_X1_isKept at hf
  refine hw_aload_n (r := (some a0)) hx hb dX1_isKept_0 rfl (lv_at hl 0 rfl) ?_
  obtain ⟨x1, hv, hf⟩ := ob_s hf
  refine hw_gi (C := RX1) (T := TX1) (N := 6) (ref := "SolidGroups$Entry") S hKn hD hv rfl (by decide) (by decide) rfl inX1 wd0 (fun _ h9 => h9) dX1_isKept_1 ?_
  refine hw_aload_n (r := (some a0)) hx hb dX1_isKept_4 rfl (lv_at hl 0 rfl) ?_
  obtain ⟨x2, hv, hf⟩ := ob_s hf
  refine hw_gi (C := RX1) (T := TX1) (N := 6) (ref := "SolidGroups$Entry") S hKn hD hv rfl (by decide) (by decide) rfl inX1 wd1 (fun _ h9 => h9) dX1_isKept_5 ?_
  refine lv_icmp_ne (tgt := 15) hx hb dX1_isKept_8 (by decide) (fun hc => ?_) (fun hc => ?_)
  · rw [if_neg hc] at hf
    refine lv_iconst (v := (0)) hx hb dX1_isKept_15 (by decide) ?_
    exact hB16 (0 : Int32) _ _ _ _ _ _ hD (lv_sub hl [] rfl) hf
  · rw [if_pos hc] at hf
    refine lv_iconst (v := (1)) hx hb dX1_isKept_11 (by decide) ?_
    refine lv_goto (tgt := 16) hx hb dX1_isKept_12 (by decide) ?_
    exact hB16 (1 : Int32) _ _ _ _ _ _ hD (lv_sub hl [] rfl) hf
set_option maxHeartbeats 4000000 in
set_option maxRecDepth 100000 in
theorem c_X5_lastGroupOf (l : Launch) (D : va_G) (G : GC) (base : Nat) (E : PE) {a0 : Nat} {p1 : Int32} {σ0 τ : PS} {rv : Int32} (hF : f_X5_lastGroupOf E (some a0) p1 σ0 = some (rv, τ)) : Ct l D G base E yX5_lastGroupOf wsX5_lastGroupOf 3 64 ([.ref a0, .int (p1)] : List Value) σ0 (some (.int rv)) τ := by
  obtain ⟨hf, hmo⟩ := oM_of hF
  refine Ct.of (own := RX5) [1, 1] (by decide) rfl rfl hmo (ct_R (ct_I ct_0)) (by decide) ?_
  intro p e s m below meth c R Q ls H locs cells slots S hKn hRm hfr hlo hlk hret hnm hQ hD hl
  have hx := S.1
  have hb := S.2.1
  have hts := S.2.2.2.2
  have inX5 : ∀ w ∈ u_ws RX5 TX5 8, w ∈ wsX5_lastGroupOf := by decide +kernel
  have inX2 : ∀ w ∈ u_ws RX2 TX2 4, w ∈ wsX5_lastGroupOf := by decide +kernel
  have wd0 := hts (.fieldLink RX5 16 "SolidGroups" "groups" "Ljava/util/ArrayList;") (by decide +kernel)
  have wd1 := hts (.classLink RX5 110 RX2) (by decide +kernel)
  have wd2 := hts (.fieldLink RX5 165 "SolidGroups$Group" "kind" "I") (by decide +kernel)
  have hL10 : ∀ (n : Nat), ∀ (v0 : Option Nat) (v1 : Int32) (v2 : Int32) (σ : PS) (H : Heap) (locs : List Loc) (cells slots : Nat) (ls : Array Slot), Dy D G base E s.heap σ0 σ H locs cells slots → lv_has ls 3 [(0, va_rf (v0)), (1, .int (v1)), (2, .int (v2))] → f_X5_lastGroupOf_L10 E n v0 v1 v2 σ = some (rv, τ) → W p l e R s m ([.ref a0, .int (p1)] : List Value).toArray below meth c H locs cells slots Q (F0 m 10 ls []) := by
    intro n
    induction n with
    | zero =>
      intro v0 v1 v2 σ H locs cells slots ls hD hl hf
      rw [f_X5_lastGroupOf_L10] at hf
      cases hf
    | succ n ih =>
      intro v0 v1 v2 σ H locs cells slots ls hD hl hf
      rw [f_X5_lastGroupOf_L10] at hf
      refine lv_iload_n hx hb dX5_lastGroupOf_10 rfl (lv_at hl 2 rfl) ?_
      refine lv_if_lt (tgt := 40) hx hb dX5_lastGroupOf_11 (by decide) (fun hc => ?_) (fun hc => ?_)
      · rw [if_pos hc] at hf
        refine lv_iconst (v := (-1)) hx hb dX5_lastGroupOf_40 (by decide) ?_
        obtain ⟨e1, e2⟩ := ret_eq hf
        rw [hQ, ← e1, ← e2]
        exact hw_iret S hlk hret rfl hD dX5_lastGroupOf_41
      · rw [if_neg hc] at hf
        refine hw_aload_n (r := v0) hx hb dX5_lastGroupOf_14 rfl (lv_at hl 0 rfl) ?_
        obtain ⟨x5, hv, hf⟩ := ob_s hf
        refine hw_gr (C := RX5) (T := TX5) (N := 8) (ref := "SolidGroups") S hKn hD hv rfl (by decide) (by decide) rfl inX5 wd0 (fun _ h9 => h9) dX5_lastGroupOf_15 ?_
        refine lv_iload_n hx hb dX5_lastGroupOf_18 rfl (lv_at hl 2 rfl) ?_
        obtain ⟨b8, hv, hf⟩ := ob_s hf
        obtain ⟨e9, hk9⟩ := oK_of hv
        cases e9
        obtain ⟨r6, s7, hv, hf⟩ := ob_p hf
        refine hw_V (b := b8) (ci := 0) (T := TJx4a65c) (N := 3) (As := [.int (v2)]) (rest := []) S hKn hRm hD (c_Jx4a65c_get_915e3 l D G base E hv) (mo_Jx4a65c_get_915e3 hv) hk9 rfl (by decide) gX5_lastGroupOf_Jx4a65c_get_915e3 rfl 1 (by decide +kernel) ⟨by rw [hfr]; decide, by rw [hlo]; decide⟩ rfl hl.1 (Nat.le_trans cs_0 (by decide)) rfl dX5_lastGroupOf_19 (fun H locs cells slots hD => ?_)
        refine W.eq (g2 := F0 m 22 ls [va_rf (r6)]) rfl ?_
        obtain ⟨u9, hv, hf⟩ := ob_s hf
        refine hw_ca (C := RX2) (T := TX2) (N := 4) S hKn hD hv rfl (by decide) wd1 dX5_lastGroupOf_22 ?_
        obtain ⟨x10, hv, hf⟩ := ob_s hf
        refine hw_gi (C := RX2) (T := TX2) (N := 4) (ref := "SolidGroups$Group") S hKn hD hv rfl (by decide) (by decide) rfl inX2 wd2 (fun _ h9 => h9) dX5_lastGroupOf_25 ?_
        refine lv_iload_n hx hb dX5_lastGroupOf_28 rfl (lv_at hl 1 rfl) ?_
        refine lv_icmp_ne (tgt := 34) hx hb dX5_lastGroupOf_29 (by decide) (fun hc => ?_) (fun hc => ?_)
        · rw [if_neg hc] at hf
          refine hs_iinc (i := 2) (k := 2) (v := v2 + (-1)) (lv' := [(2, .int (v2 + (-1))), (0, va_rf (v0)), (1, .int (v1))]) hx hb dX5_lastGroupOf_34 hl rfl (congrArg (fun z => v2 + z) (by decide)) (by decide) (st_okR (st_okI (st_okI st_ok0))) rfl (fun ls hl => ?_)
          refine lv_goto (tgt := 10) hx hb dX5_lastGroupOf_37 (by decide) ?_
          exact ih v0 v1 (v2 + (-1)) _ _ _ _ _ _ hD (lv_sub hl [1, 2, 0] rfl) hf
        · rw [if_pos hc] at hf
          refine lv_iload_n hx hb dX5_lastGroupOf_32 rfl (lv_at hl 2 rfl) ?_
          obtain ⟨e1, e2⟩ := ret_eq hf
          rw [hQ, ← e1, ← e2]
          exact hw_iret S hlk hret rfl hD dX5_lastGroupOf_33
  have hl : lv_has ls 3 [(0, va_rf (some a0)), (1, .int (p1))] := hl
  unfold g_X5_lastGroupOf at hf
  refine hw_aload_n (r := (some a0)) hx hb dX5_lastGroupOf_0 rfl (lv_at hl 0 rfl) ?_
  obtain ⟨x1, hv, hf⟩ := ob_s hf
  refine hw_gr (C := RX5) (T := TX5) (N := 8) (ref := "SolidGroups") S hKn hD hv rfl (by decide) (by decide) rfl inX5 wd0 (fun _ h9 => h9) dX5_lastGroupOf_1 ?_
  obtain ⟨b4, hv, hf⟩ := ob_s hf
  obtain ⟨e9, hk9⟩ := oK_of hv
  cases e9
  obtain ⟨r2, s3, hv, hf⟩ := ob_p hf
  refine hw_V (b := b4) (ci := 0) (T := TJx4a65c) (N := 3) (As := []) (rest := []) S hKn hRm hD (c_Jx4a65c_size_8abf5 l D G base E hv) (mo_Jx4a65c_size_8abf5 hv) hk9 rfl (by decide) gX5_lastGroupOf_Jx4a65c_size_8abf5 rfl 0 (by decide +kernel) ⟨by rw [hfr]; decide, by rw [hlo]; decide⟩ rfl hl.1 (Nat.le_trans cs_0 (by decide)) rfl dX5_lastGroupOf_4 (fun H locs cells slots hD => ?_)
  refine W.eq (g2 := F0 m 7 ls [.int (r2)]) rfl ?_
  refine lv_iconst (v := (1)) hx hb dX5_lastGroupOf_7 (by decide) ?_
  refine lv_isub hx hb dX5_lastGroupOf_8 ?_
  refine hs_istore_n (i := 2) (lv' := [(2, .int (r2 - (1 : Int32))), (0, va_rf ((some a0))), (1, .int (p1))]) hx hb dX5_lastGroupOf_9 rfl hl (by decide) (st_okR (st_okI st_ok0)) rfl (fun ls hl => ?_)
  exact hL10 _ (some a0) p1 (r2 - (1 : Int32)) _ _ _ _ _ _ hD (lv_sub hl [1, 2, 0] rfl) hf
set_option maxHeartbeats 4000000 in
set_option maxRecDepth 100000 in
theorem c_X5_isGroup (l : Launch) (D : va_G) (G : GC) (base : Nat) (E : PE) {a0 : Nat} {p1 : Int32} {σ0 τ : PS} {rv : Int32} (hF : f_X5_isGroup E (some a0) p1 σ0 = some (rv, τ)) : Ct l D G base E yX5_isGroup wsX5_isGroup 1 20 ([.ref a0, .int (p1)] : List Value) σ0 (some (.int rv)) τ := by
  obtain ⟨hf, hmo⟩ := oM_of hF
  refine Ct.of (own := RX5) [1, 1] (by decide) rfl rfl hmo (ct_R (ct_I ct_0)) (by decide) ?_
  intro p e s m below meth c R Q ls H locs cells slots S hKn hRm hfr hlo hlk hret hnm hQ hD hl
  have hx := S.1
  have hb := S.2.1
  have hts := S.2.2.2.2
  have inX5 : ∀ w ∈ u_ws RX5 TX5 8, w ∈ wsX5_isGroup := by decide +kernel
  have wd0 := hts (.fieldLink RX5 16 "SolidGroups" "groups" "Ljava/util/ArrayList;") (by decide +kernel)
  have hB20 : ∀ (w0 : Int32) (σ : PS) (H : Heap) (locs : List Loc) (cells slots : Nat) (ls : Array Slot), Dy D G base E s.heap σ0 σ H locs cells slots → lv_has ls 2 [] → f_X5_isGroup_B20 E w0 σ = some (rv, τ) → W p l e R s m ([.ref a0, .int (p1)] : List Value).toArray below meth c H locs cells slots Q (F0 m 20 ls [.int (w0)]) := by
    intro w0 σ H locs cells slots ls hD hl hf
    unfold f_X5_isGroup_B20 at hf
    by_cases hz : w0 = 0 ∨ w0 = 1
    · rw [if_pos hz] at hf
      obtain ⟨e1, e2⟩ := ret_eq hf
      rw [hQ, ← e1, ← e2]
      exact hw_iret S hlk hret (nar_z hz) hD dX5_isGroup_20
    · rw [if_neg hz] at hf
      cases hf
  have hB19 : ∀ (σ : PS) (H : Heap) (locs : List Loc) (cells slots : Nat) (ls : Array Slot), Dy D G base E s.heap σ0 σ H locs cells slots → lv_has ls 2 [] → f_X5_isGroup_B19 E σ = some (rv, τ) → W p l e R s m ([.ref a0, .int (p1)] : List Value).toArray below meth c H locs cells slots Q (F0 m 19 ls []) := by
    intro σ H locs cells slots ls hD hl hf
    unfold f_X5_isGroup_B19 at hf
    refine lv_iconst (v := (0)) hx hb dX5_isGroup_19 (by decide) ?_
    exact hB20 (0 : Int32) _ _ _ _ _ _ hD (lv_sub hl [] rfl) hf
  have hl : lv_has ls 2 [(0, va_rf (some a0)), (1, .int (p1))] := hl
  unfold g_X5_isGroup at hf
  refine lv_iload_n hx hb dX5_isGroup_0 rfl (lv_at hl 1 rfl) ?_
  refine lv_if_lt (tgt := 19) hx hb dX5_isGroup_1 (by decide) (fun hc => ?_) (fun hc => ?_)
  · rw [if_pos hc] at hf
    exact hB19 _ _ _ _ _ _ hD (lv_sub hl [] rfl) hf
  · rw [if_neg hc] at hf
    refine lv_iload_n hx hb dX5_isGroup_4 rfl (lv_at hl 1 rfl) ?_
    refine hw_aload_n (r := (some a0)) hx hb dX5_isGroup_5 rfl (lv_at hl 0 rfl) ?_
    obtain ⟨x1, hv, hf⟩ := ob_s hf
    refine hw_gr (C := RX5) (T := TX5) (N := 8) (ref := "SolidGroups") S hKn hD hv rfl (by decide) (by decide) rfl inX5 wd0 (fun _ h9 => h9) dX5_isGroup_6 ?_
    obtain ⟨b4, hv, hf⟩ := ob_s hf
    obtain ⟨e9, hk9⟩ := oK_of hv
    cases e9
    obtain ⟨r2, s3, hv, hf⟩ := ob_p hf
    refine hw_V (b := b4) (ci := 0) (T := TJx4a65c) (N := 3) (As := []) (rest := [.int (p1)]) S hKn hRm hD (c_Jx4a65c_size_8abf5 l D G base E hv) (mo_Jx4a65c_size_8abf5 hv) hk9 rfl (by decide) gX5_isGroup_Jx4a65c_size_8abf5 rfl 0 (by decide +kernel) ⟨by rw [hfr]; decide, by rw [hlo]; decide⟩ rfl hl.1 (Nat.le_trans (cs_I cs_0) (by decide)) rfl dX5_isGroup_9 (fun H locs cells slots hD => ?_)
    refine W.eq (g2 := F0 m 12 ls [.int (r2), .int (p1)]) rfl ?_
    refine lv_icmp_ge (tgt := 19) hx hb dX5_isGroup_12 (by decide) (fun hc => ?_) (fun hc => ?_)
    · rw [if_pos hc] at hf
      exact hB19 _ _ _ _ _ _ hD (lv_sub hl [] rfl) hf
    · rw [if_neg hc] at hf
      refine lv_iconst (v := (1)) hx hb dX5_isGroup_15 (by decide) ?_
      refine lv_goto (tgt := 20) hx hb dX5_isGroup_16 (by decide) ?_
      exact hB20 (1 : Int32) _ _ _ _ _ _ hD (lv_sub hl [] rfl) hf
set_option maxHeartbeats 4000000 in
set_option maxRecDepth 100000 in
theorem c_X2_bytesBefore (l : Launch) (D : va_G) (G : GC) (base : Nat) (E : PE) {a0 : Nat} {p1 : Int32} {σ0 τ : PS} {rv : Int32} (hF : f_X2_bytesBefore E (some a0) p1 σ0 = some (rv, τ)) : Ct l D G base E yX2_bytesBefore wsX2_bytesBefore 3 64 ([.ref a0, .int (p1)] : List Value) σ0 (some (.int rv)) τ := by
  obtain ⟨hf, hmo⟩ := oM_of hF
  refine Ct.of (own := RX2) [1, 1] (by decide) rfl rfl hmo (ct_R (ct_I ct_0)) (by decide) ?_
  intro p e s m below meth c R Q ls H locs cells slots S hKn hRm hfr hlo hlk hret hnm hQ hD hl
  have hx := S.1
  have hb := S.2.1
  have hts := S.2.2.2.2
  have inX2 : ∀ w ∈ u_ws RX2 TX2 4, w ∈ wsX2_bytesBefore := by decide +kernel
  have inX1 : ∀ w ∈ u_ws RX1 TX1 6, w ∈ wsX2_bytesBefore := by decide +kernel
  have wd0 := hts (.fieldLink RX2 12 "SolidGroups$Group" "members" "Ljava/util/ArrayList;") (by decide +kernel)
  have wd1 := hts (.classLink RX2 48 "SolidGroups$Entry") (by decide +kernel)
  have wd2 := hts (.fieldLink RX2 56 "SolidGroups$Entry" "length" "I") (by decide +kernel)
  have hB43 : ∀ (v2 : Int32) (σ : PS) (H : Heap) (locs : List Loc) (cells slots : Nat) (ls : Array Slot), Dy D G base E s.heap σ0 σ H locs cells slots → lv_has ls 4 [(2, .int (v2))] → f_X2_bytesBefore_B43 E v2 σ = some (rv, τ) → W p l e R s m ([.ref a0, .int (p1)] : List Value).toArray below meth c H locs cells slots Q (F0 m 43 ls []) := by
    intro v2 σ H locs cells slots ls hD hl hf
    unfold f_X2_bytesBefore_B43 at hf
    refine lv_iload_n hx hb dX2_bytesBefore_43 rfl (lv_at hl 0 rfl) ?_
    obtain ⟨e1, e2⟩ := ret_eq hf
    rw [hQ, ← e1, ← e2]
    exact hw_iret S hlk hret rfl hD dX2_bytesBefore_44
  have hL4 : ∀ (n : Nat), ∀ (v0 : Option Nat) (v1 : Int32) (v2 : Int32) (v3 : Int32) (σ : PS) (H : Heap) (locs : List Loc) (cells slots : Nat) (ls : Array Slot), Dy D G base E s.heap σ0 σ H locs cells slots → lv_has ls 4 [(0, va_rf (v0)), (1, .int (v1)), (2, .int (v2)), (3, .int (v3))] → f_X2_bytesBefore_L4 E n v0 v1 v2 v3 σ = some (rv, τ) → W p l e R s m ([.ref a0, .int (p1)] : List Value).toArray below meth c H locs cells slots Q (F0 m 4 ls []) := by
    intro n
    induction n with
    | zero =>
      intro v0 v1 v2 v3 σ H locs cells slots ls hD hl hf
      rw [f_X2_bytesBefore_L4] at hf
      cases hf
    | succ n ih =>
      intro v0 v1 v2 v3 σ H locs cells slots ls hD hl hf
      rw [f_X2_bytesBefore_L4] at hf
      refine lv_iload_n hx hb dX2_bytesBefore_4 rfl (lv_at hl 3 rfl) ?_
      refine lv_iload_n hx hb dX2_bytesBefore_5 rfl (lv_at hl 1 rfl) ?_
      refine lv_icmp_ge (tgt := 43) hx hb dX2_bytesBefore_6 (by decide) (fun hc => ?_) (fun hc => ?_)
      · rw [if_pos hc] at hf
        exact hB43 v2 _ _ _ _ _ _ hD (lv_sub hl [2] rfl) hf
      · rw [if_neg hc] at hf
        refine lv_iload_n hx hb dX2_bytesBefore_9 rfl (lv_at hl 3 rfl) ?_
        refine hw_aload_n (r := v0) hx hb dX2_bytesBefore_10 rfl (lv_at hl 0 rfl) ?_
        obtain ⟨x1, hv, hf⟩ := ob_s hf
        refine hw_gr (C := RX2) (T := TX2) (N := 4) (ref := "SolidGroups$Group") S hKn hD hv rfl (by decide) (by decide) rfl inX2 wd0 (fun _ h9 => h9) dX2_bytesBefore_11 ?_
        obtain ⟨b4, hv, hf⟩ := ob_s hf
        obtain ⟨e9, hk9⟩ := oK_of hv
        cases e9
        obtain ⟨r2, s3, hv, hf⟩ := ob_p hf
        refine hw_V (b := b4) (ci := 0) (T := TJx4a65c) (N := 3) (As := []) (rest := [.int (v3)]) S hKn hRm hD (c_Jx4a65c_size_8abf5 l D G base E hv) (mo_Jx4a65c_size_8abf5 hv) hk9 rfl (by decide) gX2_bytesBefore_Jx4a65c_size_8abf5 rfl 0 (by decide +kernel) ⟨by rw [hfr]; decide, by rw [hlo]; decide⟩ rfl hl.1 (Nat.le_trans (cs_I cs_0) (by decide)) rfl dX2_bytesBefore_14 (fun H locs cells slots hD => ?_)
        refine W.eq (g2 := F0 m 17 ls [.int (r2), .int (v3)]) rfl ?_
        refine lv_icmp_ge (tgt := 43) hx hb dX2_bytesBefore_17 (by decide) (fun hc => ?_) (fun hc => ?_)
        · rw [if_pos hc] at hf
          exact hB43 v2 _ _ _ _ _ _ hD (lv_sub hl [2] rfl) hf
        · rw [if_neg hc] at hf
          refine lv_iload_n hx hb dX2_bytesBefore_20 rfl (lv_at hl 2 rfl) ?_
          refine hw_aload_n (r := v0) hx hb dX2_bytesBefore_21 rfl (lv_at hl 0 rfl) ?_
          obtain ⟨x5, hv, hf⟩ := ob_s hf
          refine hw_gr (C := RX2) (T := TX2) (N := 4) (ref := "SolidGroups$Group") S hKn hD hv rfl (by decide) (by decide) rfl inX2 wd0 (fun _ h9 => h9) dX2_bytesBefore_22 ?_
          refine lv_iload_n hx hb dX2_bytesBefore_25 rfl (lv_at hl 3 rfl) ?_
          obtain ⟨b8, hv, hf⟩ := ob_s hf
          obtain ⟨e9, hk9⟩ := oK_of hv
          cases e9
          obtain ⟨r6, s7, hv, hf⟩ := ob_p hf
          refine hw_V (b := b8) (ci := 0) (T := TJx4a65c) (N := 3) (As := [.int (v3)]) (rest := [.int (v2)]) S hKn hRm hD (c_Jx4a65c_get_915e3 l D G base E hv) (mo_Jx4a65c_get_915e3 hv) hk9 rfl (by decide) gX2_bytesBefore_Jx4a65c_get_915e3 rfl 1 (by decide +kernel) ⟨by rw [hfr]; decide, by rw [hlo]; decide⟩ rfl hl.1 (Nat.le_trans (cs_I cs_0) (by decide)) rfl dX2_bytesBefore_26 (fun H locs cells slots hD => ?_)
          refine W.eq (g2 := F0 m 29 ls [va_rf (r6), .int (v2)]) rfl ?_
          obtain ⟨u9, hv, hf⟩ := ob_s hf
          refine hw_ca (C := RX1) (T := TX1) (N := 6) S hKn hD hv rfl (by decide) wd1 dX2_bytesBefore_29 ?_
          obtain ⟨x10, hv, hf⟩ := ob_s hf
          refine hw_gi (C := RX1) (T := TX1) (N := 6) (ref := "SolidGroups$Entry") S hKn hD hv rfl (by decide) (by decide) rfl inX1 wd2 (fun _ h9 => h9) dX2_bytesBefore_32 ?_
          refine lv_iadd hx hb dX2_bytesBefore_35 ?_
          refine hs_istore_n (i := 2) (lv' := [(2, .int (v2 + x10)), (0, va_rf (v0)), (1, .int (v1)), (3, .int (v3))]) hx hb dX2_bytesBefore_36 rfl hl (by decide) (st_okR (st_okI (st_okI (st_okI st_ok0)))) rfl (fun ls hl => ?_)
          refine hs_iinc (i := 3) (k := 3) (v := v3 + 1) (lv' := [(3, .int (v3 + 1)), (2, .int (v2 + x10)), (0, va_rf (v0)), (1, .int (v1))]) hx hb dX2_bytesBefore_37 hl rfl (congrArg (fun z => v3 + z) (by decide)) (by decide) (st_okI (st_okR (st_okI (st_okI st_ok0)))) rfl (fun ls hl => ?_)
          refine lv_goto (tgt := 4) hx hb dX2_bytesBefore_40 (by decide) ?_
          exact ih v0 v1 (v2 + x10) (v3 + 1) _ _ _ _ _ _ hD (lv_sub hl [2, 3, 1, 0] rfl) hf
  have hl : lv_has ls 4 [(0, va_rf (some a0)), (1, .int (p1))] := hl
  unfold g_X2_bytesBefore at hf
  refine lv_iconst (v := (0)) hx hb dX2_bytesBefore_0 (by decide) ?_
  refine hs_istore_n (i := 2) (lv' := [(2, .int ((0 : Int32))), (0, va_rf ((some a0))), (1, .int (p1))]) hx hb dX2_bytesBefore_1 rfl hl (by decide) (st_okR (st_okI st_ok0)) rfl (fun ls hl => ?_)
  refine lv_iconst (v := (0)) hx hb dX2_bytesBefore_2 (by decide) ?_
  refine hs_istore_n (i := 3) (lv' := [(3, .int ((0 : Int32))), (2, .int ((0 : Int32))), (0, va_rf ((some a0))), (1, .int (p1))]) hx hb dX2_bytesBefore_3 rfl hl (by decide) (st_okI (st_okR (st_okI st_ok0))) rfl (fun ls hl => ?_)
  exact hL4 _ (some a0) p1 (0 : Int32) (0 : Int32) _ _ _ _ _ _ hD (lv_sub hl [2, 3, 1, 0] rfl) hf
set_option maxHeartbeats 4000000 in
set_option maxRecDepth 100000 in
theorem c_X2_byteCount (l : Launch) (D : va_G) (G : GC) (base : Nat) (E : PE) {a0 : Nat} {σ0 τ : PS} {rv : Int32} (hF : f_X2_byteCount E (some a0) σ0 = some (rv, τ)) : Ct l D G base E yX2_byteCount wsX2_byteCount 4 87 ([.ref a0] : List Value) σ0 (some (.int rv)) τ := by
  obtain ⟨hf, hmo⟩ := oM_of hF
  refine Ct.of (own := RX2) [1] (by decide) rfl rfl hmo (ct_R ct_0) (by decide) ?_
  intro p e s m below meth c R Q ls H locs cells slots S hKn hRm hfr hlo hlk hret hnm hQ hD hl
  have hx := S.1
  have hb := S.2.1
  have hts := S.2.2.2.2
  have inX2 : ∀ w ∈ u_ws RX2 TX2 4, w ∈ wsX2_byteCount := by decide +kernel
  have wd0 := hts (.fieldLink RX2 12 "SolidGroups$Group" "members" "Ljava/util/ArrayList;") (by decide +kernel)
  have hl : lv_has ls 1 [(0, va_rf (some a0))] := hl
  unfold g_X2_byteCount at hf
  refine hw_aload_n (r := (some a0)) hx hb dX2_byteCount_0 rfl (lv_at hl 0 rfl) ?_
  refine hw_aload_n (r := (some a0)) hx hb dX2_byteCount_1 rfl (lv_at hl 0 rfl) ?_
  obtain ⟨x1, hv, hf⟩ := ob_s hf
  refine hw_gr (C := RX2) (T := TX2) (N := 4) (ref := "SolidGroups$Group") S hKn hD hv rfl (by decide) (by decide) rfl inX2 wd0 (fun _ h9 => h9) dX2_byteCount_2 ?_
  obtain ⟨b4, hv, hf⟩ := ob_s hf
  obtain ⟨e9, hk9⟩ := oK_of hv
  cases e9
  obtain ⟨r2, s3, hv, hf⟩ := ob_p hf
  refine hw_V (b := b4) (ci := 0) (T := TJx4a65c) (N := 3) (As := []) (rest := [va_rf ((some a0))]) S hKn hRm hD (c_Jx4a65c_size_8abf5 l D G base E hv) (mo_Jx4a65c_size_8abf5 hv) hk9 rfl (by decide) gX2_byteCount_Jx4a65c_size_8abf5 rfl 0 (by decide +kernel) ⟨by rw [hfr]; decide, by rw [hlo]; decide⟩ rfl hl.1 (Nat.le_trans (cs_A cs_0) (by decide)) rfl dX2_byteCount_5 (fun H locs cells slots hD => ?_)
  refine W.eq (g2 := F0 m 8 ls [.int (r2), va_rf ((some a0))]) rfl ?_
  obtain ⟨b7, hv, hf⟩ := ob_s hf
  obtain ⟨e9, hk9⟩ := oK_of hv
  cases e9
  obtain ⟨r5, s6, hv, hf⟩ := ob_p hf
  refine hw_V (b := a0) (ci := 3) (T := TX2) (N := 4) (As := [.int (r2)]) (rest := []) S hKn hRm hD (c_X2_bytesBefore l D G base E hv) (mo_X2_bytesBefore hv) hk9 rfl (by decide) gX2_byteCount_X2_bytesBefore rfl 1 (by decide +kernel) ⟨by rw [hfr]; decide, by rw [hlo]; decide⟩ rfl hl.1 (Nat.le_trans cs_0 (by decide)) rfl dX2_byteCount_8 (fun H locs cells slots hD => ?_)
  refine W.eq (g2 := F0 m 11 ls [.int (r5)]) rfl ?_
  obtain ⟨e1, e2⟩ := ret_eq hf
  rw [hQ, ← e1, ← e2]
  exact hw_iret S hlk hret rfl hD dX2_byteCount_11
set_option maxHeartbeats 4000000 in
set_option maxRecDepth 100000 in
theorem c_Jx4a65c_isEmpty_aae02 (l : Launch) (D : va_G) (G : GC) (base : Nat) (E : PE) {a0 : Nat} {σ0 τ : PS} {rv : Int32} (hF : f_Jx4a65c_isEmpty_aae02 E (some a0) σ0 = some (rv, τ)) : Ct l D G base E yJx4a65c_isEmpty_aae02 wsJx4a65c_isEmpty_aae02 0 0 ([.ref a0] : List Value) σ0 (some (.int rv)) τ := by
  obtain ⟨hf, hmo⟩ := oM_of hF
  refine Ct.of (own := RJx4a65c) [1] (by decide) rfl rfl hmo (ct_R ct_0) (by decide) ?_
  intro p e s m below meth c R Q ls H locs cells slots S hKn hRm hfr hlo hlk hret hnm hQ hD hl
  have hx := S.1
  have hb := S.2.1
  have hts := S.2.2.2.2
  have inJx4a65c : ∀ w ∈ u_ws RJx4a65c TJx4a65c 3, w ∈ wsJx4a65c_isEmpty_aae02 := by decide +kernel
  have wd0 := hts (.fieldLink RJx4a65c 48 "java/util/ArrayList" "size" "I") (by decide +kernel)
  have hB12 : ∀ (w0 : Int32) (σ : PS) (H : Heap) (locs : List Loc) (cells slots : Nat) (ls : Array Slot), Dy D G base E s.heap σ0 σ H locs cells slots → lv_has ls 1 [] → f_Jx4a65c_isEmpty_aae02_B12 E w0 σ = some (rv, τ) → W p l e R s m ([.ref a0] : List Value).toArray below meth c H locs cells slots Q (F0 m 12 ls [.int (w0)]) := by
    intro w0 σ H locs cells slots ls hD hl hf
    unfold f_Jx4a65c_isEmpty_aae02_B12 at hf
    by_cases hz : w0 = 0 ∨ w0 = 1
    · rw [if_pos hz] at hf
      obtain ⟨e1, e2⟩ := ret_eq hf
      rw [hQ, ← e1, ← e2]
      exact hw_iret S hlk hret (nar_z hz) hD dJx4a65c_isEmpty_aae02_12
    · rw [if_neg hz] at hf
      cases hf
  have hl : lv_has ls 1 [(0, va_rf (some a0))] := hl
  unfold g_Jx4a65c_isEmpty_aae02 at hf
  refine hw_aload_n (r := (some a0)) hx hb dJx4a65c_isEmpty_aae02_0 rfl (lv_at hl 0 rfl) ?_
  obtain ⟨x1, hv, hf⟩ := ob_s hf
  refine hw_gi (C := RJx4a65c) (T := TJx4a65c) (N := 3) (ref := "java/util/ArrayList") S hKn hD hv rfl (by decide) (by decide) rfl inJx4a65c wd0 (fun _ h9 => h9) dJx4a65c_isEmpty_aae02_1 ?_
  refine lv_if_ne (tgt := 11) hx hb dJx4a65c_isEmpty_aae02_4 (by decide) (fun hc => ?_) (fun hc => ?_)
  · rw [if_neg hc] at hf
    refine lv_iconst (v := (0)) hx hb dJx4a65c_isEmpty_aae02_11 (by decide) ?_
    exact hB12 (0 : Int32) _ _ _ _ _ _ hD (lv_sub hl [] rfl) hf
  · rw [if_pos hc] at hf
    refine lv_iconst (v := (1)) hx hb dJx4a65c_isEmpty_aae02_7 (by decide) ?_
    refine lv_goto (tgt := 12) hx hb dJx4a65c_isEmpty_aae02_8 (by decide) ?_
    exact hB12 (1 : Int32) _ _ _ _ _ _ hD (lv_sub hl [] rfl) hf
set_option maxHeartbeats 4000000 in
set_option maxRecDepth 100000 in
theorem c_X4_init (l : Launch) (D : va_G) (G : GC) (base : Nat) (E : PE) {a0 : Nat} {σ0 τ : PS} {rv : Unit} (hF : f_X4_init E (some a0) σ0 = some (rv, τ)) : Ct l D G base E yX4_init wsX4_init 1 60 ([.ref a0] : List Value) σ0 none τ := by
  obtain ⟨hf, hmo⟩ := oM_of hF
  refine Ct.of (own := RX4) [1] (by decide) rfl rfl hmo (ct_R ct_0) (by decide) ?_
  intro p e s m below meth c R Q ls H locs cells slots S hKn hRm hfr hlo hlk hret hnm hQ hD hl
  have hx := S.1
  have hb := S.2.1
  have hts := S.2.2.2.2
  have inX4 : ∀ w ∈ u_ws RX4 TX4 5, w ∈ wsX4_init := by decide +kernel
  have wd0 := hts (.methodLink RX4 3 objectInit) (by decide +kernel)
  have wd1 := hts (.instanceMethod objectInit) (by decide +kernel)
  have wd2 := hts (.code objectInit ⟨#[0xb1]⟩ 1 none) (by decide +kernel)
  have wd3 := hts (.arrayClass .int) (by decide +kernel)
  have wd4 := hts (.fieldLink RX4 9 "SolidGroups$TokenRow" "value" "[I") (by decide +kernel)
  have wd5 := hts (.fieldLink RX4 15 "SolidGroups$TokenRow" "back" "[I") (by decide +kernel)
  have wd6 := hts (.fieldLink RX4 18 "SolidGroups$TokenRow" "many" "[I") (by decide +kernel)
  have wd7 := hts (.fieldLink RX4 21 "SolidGroups$TokenRow" "count" "I") (by decide +kernel)
  have wd8 := hts (.fieldLink RX4 25 "SolidGroups$TokenRow" "size" "I") (by decide +kernel)
  have hl : lv_has ls 1 [(0, va_rf (some a0))] := hl
  unfold g_X4_init at hf
  refine hw_aload_n (r := (some a0)) hx hb dX4_init_0 rfl (lv_at hl 0 rfl) ?_
  obtain ⟨b1, hv, hf⟩ := ob_s hf
  obtain ⟨e9, hk9⟩ := oK_of hv
  cases e9
  refine W.objInit hx hb S.2.2.2.1 wd0 wd1 wd2 rfl (hl.1.trans S.2.2.1.symm) rfl dX4_init_1 (by rw [hfr]; decide) (by rw [hlo]; show 2 * 0 + _ + 12 ≤ _; exact Nat.le_trans (Nat.add_le_add_right (Nat.add_le_add_left cs_0 (2 * 0)) 12) (by decide)) ?_
  refine W.eq (g2 := F0 m 4 ls []) rfl ?_
  refine hw_aload_n (r := (some a0)) hx hb dX4_init_4 rfl (lv_at hl 0 rfl) ?_
  refine lv_sipush (v := (400)) hx hb dX4_init_5 (by decide) ?_
  obtain ⟨x2, s3, hv, hf⟩ := ob_p hf
  refine hw_nai S hKn hRm hD hv wd3 dX4_init_8 (fun H hD => ?_)
  generalize cells + 1 = cells, slots + Int32.toNatClampNeg (400 : Int32) = slots at hD ⊢
  obtain ⟨s4, hv, hf⟩ := ob_s hf
  refine hw_prF (C := RX4) (T := TX4) (N := 5) (ref := "SolidGroups$TokenRow") S hKn hD hv rfl (by decide) (by decide) rfl inX4 tyX4 tyX4_ok nmX4 wd4 (fun _ h9 => h9) rfl hnm rfl (by first | rfl | (cases x2 <;> rfl)) (by first | rfl | (cases x2 <;> rfl)) dX4_init_10 (fun H locs hD => ?_)
  refine hw_aload_n (r := (some a0)) hx hb dX4_init_13 rfl (lv_at hl 0 rfl) ?_
  refine lv_sipush (v := (400)) hx hb dX4_init_14 (by decide) ?_
  obtain ⟨x5, s6, hv, hf⟩ := ob_p hf
  refine hw_nai S hKn hRm hD hv wd3 dX4_init_17 (fun H hD => ?_)
  generalize cells + 1 = cells, slots + Int32.toNatClampNeg (400 : Int32) = slots at hD ⊢
  obtain ⟨s7, hv, hf⟩ := ob_s hf
  refine hw_prF (C := RX4) (T := TX4) (N := 5) (ref := "SolidGroups$TokenRow") S hKn hD hv rfl (by decide) (by decide) rfl inX4 tyX4 tyX4_ok nmX4 wd5 (fun _ h9 => h9) rfl hnm rfl (by first | rfl | (cases x5 <;> rfl)) (by first | rfl | (cases x5 <;> rfl)) dX4_init_19 (fun H locs hD => ?_)
  refine hw_aload_n (r := (some a0)) hx hb dX4_init_22 rfl (lv_at hl 0 rfl) ?_
  refine lv_sipush (v := (400)) hx hb dX4_init_23 (by decide) ?_
  obtain ⟨x8, s9, hv, hf⟩ := ob_p hf
  refine hw_nai S hKn hRm hD hv wd3 dX4_init_26 (fun H hD => ?_)
  generalize cells + 1 = cells, slots + Int32.toNatClampNeg (400 : Int32) = slots at hD ⊢
  obtain ⟨s10, hv, hf⟩ := ob_s hf
  refine hw_prF (C := RX4) (T := TX4) (N := 5) (ref := "SolidGroups$TokenRow") S hKn hD hv rfl (by decide) (by decide) rfl inX4 tyX4 tyX4_ok nmX4 wd6 (fun _ h9 => h9) rfl hnm rfl (by first | rfl | (cases x8 <;> rfl)) (by first | rfl | (cases x8 <;> rfl)) dX4_init_28 (fun H locs hD => ?_)
  refine hw_aload_n (r := (some a0)) hx hb dX4_init_31 rfl (lv_at hl 0 rfl) ?_
  refine lv_iconst (v := (0)) hx hb dX4_init_32 (by decide) ?_
  obtain ⟨s11, hv, hf⟩ := ob_s hf
  refine hw_pi (C := RX4) (T := TX4) (N := 5) (ref := "SolidGroups$TokenRow") S hKn hD hv rfl (by decide) (by decide) rfl inX4 tyX4 tyX4_ok nmX4 wd7 (fun _ h9 => h9) rfl (by first | rfl | decide) (by first | rfl | decide) dX4_init_33 (fun H locs hD => ?_)
  refine hw_aload_n (r := (some a0)) hx hb dX4_init_36 rfl (lv_at hl 0 rfl) ?_
  refine lv_iconst (v := (0)) hx hb dX4_init_37 (by decide) ?_
  obtain ⟨s12, hv, hf⟩ := ob_s hf
  refine hw_pi (C := RX4) (T := TX4) (N := 5) (ref := "SolidGroups$TokenRow") S hKn hD hv rfl (by decide) (by decide) rfl inX4 tyX4 tyX4_ok nmX4 wd8 (fun _ h9 => h9) rfl (by first | rfl | decide) (by first | rfl | decide) dX4_init_38 (fun H locs hD => ?_)
  obtain ⟨-, e2⟩ := ret_eq hf
  rw [hQ, ← e2]
  exact hw_vret S hlk hret hD dX4_init_41
set_option maxHeartbeats 4000000 in
set_option maxRecDepth 100000 in
theorem c_X2_init (l : Launch) (D : va_G) (G : GC) (base : Nat) (E : PE) {a0 : Nat} {σ0 τ : PS} {rv : Unit} (hF : f_X2_init E (some a0) σ0 = some (rv, τ)) : Ct l D G base E yX2_init wsX2_init 4 120 ([.ref a0] : List Value) σ0 none τ := by
  obtain ⟨hf, hmo⟩ := oM_of hF
  refine Ct.of (own := RX2) [1] (by decide) rfl rfl hmo (ct_R ct_0) (by decide) ?_
  intro p e s m below meth c R Q ls H locs cells slots S hKn hRm hfr hlo hlk hret hnm hQ hD hl
  have hx := S.1
  have hb := S.2.1
  have hts := S.2.2.2.2
  have inJx4a65c : ∀ w ∈ u_ws RJx4a65c TJx4a65c 3, w ∈ wsX2_init := by decide +kernel
  have inX2 : ∀ w ∈ u_ws RX2 TX2 4, w ∈ wsX2_init := by decide +kernel
  have inX4 : ∀ w ∈ u_ws RX4 TX4 5, w ∈ wsX2_init := by decide +kernel
  have wd0 := hts (.methodLink RX2 3 objectInit) (by decide +kernel)
  have wd1 := hts (.instanceMethod objectInit) (by decide +kernel)
  have wd2 := hts (.code objectInit ⟨#[0xb1]⟩ 1 none) (by decide +kernel)
  have wd3 := hts (.classLink RX2 9 RJx4a65c) (by decide +kernel)
  have wd4 := hts (.instantiable RJx4a65c 3) (by decide +kernel)
  have wd5 := hts (.initialized RJx4a65c) (by decide +kernel)
  have wd6 := hts (.methodLink RX2 11 yJx4a65c_init_da8c8) (by decide +kernel)
  have wd7 := hts (.instanceMethod yJx4a65c_init_da8c8) (by decide +kernel)
  have wd8 := hts (.fieldLink RX2 12 "SolidGroups$Group" "members" "Ljava/util/ArrayList;") (by decide +kernel)
  have wd9 := hts (.classLink RX2 18 RX4) (by decide +kernel)
  have wd10 := hts (.instantiable RX4 5) (by decide +kernel)
  have wd11 := hts (.initialized RX4) (by decide +kernel)
  have wd12 := hts (.instanceMethod yX4_init) (by decide +kernel)
  have wd13 := hts (.fieldLink RX2 21 "SolidGroups$Group" "row" "LSolidGroups$TokenRow;") (by decide +kernel)
  have wd14 := hts (.fieldLink RX2 25 "SolidGroups$Group" "kind" "I") (by decide +kernel)
  have wd15 := hts (.fieldLink RX2 29 "SolidGroups$Group" "madeAnew" "I") (by decide +kernel)
  have hl : lv_has ls 1 [(0, va_rf (some a0))] := hl
  unfold g_X2_init at hf
  refine hw_aload_n (r := (some a0)) hx hb dX2_init_0 rfl (lv_at hl 0 rfl) ?_
  obtain ⟨b1, hv, hf⟩ := ob_s hf
  obtain ⟨e9, hk9⟩ := oK_of hv
  cases e9
  refine W.objInit hx hb S.2.2.2.1 wd0 wd1 wd2 rfl (hl.1.trans S.2.2.1.symm) rfl dX2_init_1 (by rw [hfr]; decide) (by rw [hlo]; show 2 * 0 + _ + 12 ≤ _; exact Nat.le_trans (Nat.add_le_add_right (Nat.add_le_add_left cs_0 (2 * 0)) 12) (by decide)) ?_
  refine W.eq (g2 := F0 m 4 ls []) rfl ?_
  refine hw_aload_n (r := (some a0)) hx hb dX2_init_4 rfl (lv_at hl 0 rfl) ?_
  obtain ⟨x2, s3, hv, hf⟩ := ob_p hf
  refine hw_nw (C := RJx4a65c) (T := TJx4a65c) (N := 3) S hKn hRm hD hv rfl (by decide) inJx4a65c tyJx4a65c tyJx4a65c_ok wd3 wd4 wd5 dfJx4a65c dX2_init_5 (fun H hD => ?_)
  generalize cells + 1 = cells, slots + 3 = slots at hD ⊢
  refine lv_dup hx hb dX2_init_8 (va_rf_cat _) ?_
  obtain ⟨b6, hv, hf⟩ := ob_s hf
  obtain ⟨e9, hk9⟩ := oK_of hv
  cases e9
  obtain ⟨r4, s5, hv, hf⟩ := ob_p hf
  refine hw_I (b := b6) (As := []) (rest := [va_rf ((some b6)), va_rf ((some a0))]) S hKn hRm hD (c_Jx4a65c_init_da8c8 l D G base E hv) (mo_Jx4a65c_init_da8c8 hv) gX2_init_Jx4a65c_init_da8c8 rfl 0 wd5 wd6 wd7 rfl (by decide +kernel) ⟨by rw [hfr]; decide, by rw [hlo]; decide⟩ rfl hl.1 (Nat.le_trans (cs_A (cs_A cs_0)) (by decide)) rfl dX2_init_9 (fun H locs cells slots hD => ?_)
  refine W.eq (g2 := F0 m 12 ls [va_rf ((some b6)), va_rf ((some a0))]) rfl ?_
  obtain ⟨s7, hv, hf⟩ := ob_s hf
  refine hw_prF (C := RX2) (T := TX2) (N := 4) (ref := "SolidGroups$Group") S hKn hD hv rfl (by decide) (by decide) rfl inX2 tyX2 tyX2_ok nmX2 wd8 (fun _ h9 => h9) rfl hnm rfl (by first | rfl | (cases (some b6) <;> rfl)) (by first | rfl | (cases (some b6) <;> rfl)) dX2_init_12 (fun H locs hD => ?_)
  refine hw_aload_n (r := (some a0)) hx hb dX2_init_15 rfl (lv_at hl 0 rfl) ?_
  obtain ⟨x8, s9, hv, hf⟩ := ob_p hf
  refine hw_nw (C := RX4) (T := TX4) (N := 5) S hKn hRm hD hv rfl (by decide) inX4 tyX4 tyX4_ok wd9 wd10 wd11 dfX4 dX2_init_16 (fun H hD => ?_)
  generalize cells + 1 = cells, slots + 5 = slots at hD ⊢
  refine lv_dup hx hb dX2_init_19 (va_rf_cat _) ?_
  obtain ⟨b12, hv, hf⟩ := ob_s hf
  obtain ⟨e9, hk9⟩ := oK_of hv
  cases e9
  obtain ⟨r10, s11, hv, hf⟩ := ob_p hf
  refine hw_IN (b := b12) (As := []) (rest := [va_rf ((some b12)), va_rf ((some a0))]) S hKn hRm hD (c_X4_init l D G base E hv) (mo_X4_init hv) hKn.2.2.2.2.2.1.2.2.2.2 ggX2_init_X4_init rfl 0 wd11 wd12 rfl (by decide +kernel) ⟨by rw [hfr]; decide, by rw [hlo]; decide⟩ rfl hl.1 (Nat.le_trans (cs_A (cs_A cs_0)) (by decide)) rfl dX2_init_20 (fun H locs cells slots hD => ?_)
  refine W.eq (g2 := F0 m 23 ls [va_rf ((some b12)), va_rf ((some a0))]) rfl ?_
  obtain ⟨s13, hv, hf⟩ := ob_s hf
  refine hw_prF (C := RX2) (T := TX2) (N := 4) (ref := "SolidGroups$Group") S hKn hD hv rfl (by decide) (by decide) rfl inX2 tyX2 tyX2_ok nmX2 wd13 (fun _ h9 => h9) rfl hnm rfl (by first | rfl | (cases (some b12) <;> rfl)) (by first | rfl | (cases (some b12) <;> rfl)) dX2_init_23 (fun H locs hD => ?_)
  refine hw_aload_n (r := (some a0)) hx hb dX2_init_26 rfl (lv_at hl 0 rfl) ?_
  refine lv_iconst (v := (0)) hx hb dX2_init_27 (by decide) ?_
  obtain ⟨s14, hv, hf⟩ := ob_s hf
  refine hw_pi (C := RX2) (T := TX2) (N := 4) (ref := "SolidGroups$Group") S hKn hD hv rfl (by decide) (by decide) rfl inX2 tyX2 tyX2_ok nmX2 wd14 (fun _ h9 => h9) rfl (by first | rfl | decide) (by first | rfl | decide) dX2_init_28 (fun H locs hD => ?_)
  refine hw_aload_n (r := (some a0)) hx hb dX2_init_31 rfl (lv_at hl 0 rfl) ?_
  refine lv_iconst (v := (0)) hx hb dX2_init_32 (by decide) ?_
  obtain ⟨s15, hv, hf⟩ := ob_s hf
  refine hw_pi (C := RX2) (T := TX2) (N := 4) (ref := "SolidGroups$Group") S hKn hD hv rfl (by decide) (by decide) rfl inX2 tyX2 tyX2_ok nmX2 wd15 (fun _ h9 => h9) rfl (by first | rfl | decide) (by first | rfl | decide) dX2_init_33 (fun H locs hD => ?_)
  obtain ⟨-, e2⟩ := ret_eq hf
  rw [hQ, ← e2]
  exact hw_vret S hlk hret hD dX2_init_36
set_option maxHeartbeats 4000000 in
set_option maxRecDepth 100000 in
theorem c_Jx4a65c_fastRemove_b59b0 (l : Launch) (D : va_G) (G : GC) (base : Nat) (E : PE) {a0 : Nat} {p1 : Option Nat} {p2 : Int32} {σ0 τ : PS} {rv : Unit} (hF : f_Jx4a65c_fastRemove_b59b0 E (some a0) p1 p2 σ0 = some (rv, τ)) : Ct l D G base E yJx4a65c_fastRemove_b59b0 wsJx4a65c_fastRemove_b59b0 1 60 ([.ref a0, va_rf (p1), .int (p2)] : List Value) σ0 none τ := by
  obtain ⟨hf, hmo⟩ := oM_of hF
  refine Ct.of (own := RJx4a65c) [1, 1, 1] (by decide) rfl rfl hmo (ct_R (ct_A (ct_I ct_0))) (by decide) ?_
  intro p e s m below meth c R Q ls H locs cells slots S hKn hRm hfr hlo hlk hret hnm hQ hD hl
  have hx := S.1
  have hb := S.2.1
  have hts := S.2.2.2.2
  have inJx4a65c : ∀ w ∈ u_ws RJx4a65c TJx4a65c 3, w ∈ wsJx4a65c_fastRemove_b59b0 := by decide +kernel
  have wd0 := hts (.fieldLink RJx4a65c 63 "java/util/ArrayList" "modCount" "I") (by decide +kernel)
  have wd1 := hts (.sameField "java/util/ArrayList" "java/util/AbstractList" "modCount" "I") (by decide +kernel)
  have wd2 := hts (.fieldLink RJx4a65c 48 "java/util/ArrayList" "size" "I") (by decide +kernel)
  have wd3 := hts (.methodLink RJx4a65c 112 arraycopyName) (by decide +kernel)
  have wd4 := hts (.native arraycopyName) (by decide +kernel)
  have wd5 := hts (.static arraycopyName) (by decide +kernel)
  have wd6 := hts (.initialized "java/lang/System") (by decide +kernel)
  have hB34 : ∀ (v0 : Option Nat) (v1 : Option Nat) (v3 : Int32) (σ : PS) (H : Heap) (locs : List Loc) (cells slots : Nat) (ls : Array Slot), Dy D G base E s.heap σ0 σ H locs cells slots → lv_has ls 4 [(0, va_rf (v0)), (1, va_rf (v1)), (3, .int (v3))] → f_Jx4a65c_fastRemove_b59b0_B34 E v0 v1 v3 σ = some (rv, τ) → W p l e R s m ([.ref a0, va_rf (p1), .int (p2)] : List Value).toArray below meth c H locs cells slots Q (F0 m 34 ls []) := by
    intro v0 v1 v3 σ H locs cells slots ls hD hl hf
    unfold f_Jx4a65c_fastRemove_b59b0_B34 at hf
    refine hw_aload_n (r := v1) hx hb dJx4a65c_fastRemove_b59b0_34 rfl (lv_at hl 1 rfl) ?_
    refine hw_aload_n (r := v0) hx hb dJx4a65c_fastRemove_b59b0_35 rfl (lv_at hl 0 rfl) ?_
    refine lv_iload_n hx hb dJx4a65c_fastRemove_b59b0_36 rfl (lv_at hl 2 rfl) ?_
    refine lv_dup_x1 hx hb dJx4a65c_fastRemove_b59b0_37 rfl (va_rf_cat _) ?_
    obtain ⟨s5, hv, hf⟩ := ob_s hf
    refine hw_pi (C := RJx4a65c) (T := TJx4a65c) (N := 3) (ref := "java/util/ArrayList") S hKn hD hv rfl (by decide) (by decide) rfl inJx4a65c tyJx4a65c tyJx4a65c_ok nmJx4a65c wd2 (fun _ h9 => h9) rfl (by first | rfl | decide) (by first | rfl | decide) dJx4a65c_fastRemove_b59b0_38 (fun H locs hD => ?_)
    refine hs_null hx hb dJx4a65c_fastRemove_b59b0_41 ?_
    obtain ⟨s6, hv, hf⟩ := ob_s hf
    refine hw_qs S hKn hD hv dJx4a65c_fastRemove_b59b0_42 (fun H locs hD => ?_)
    obtain ⟨-, e2⟩ := ret_eq hf
    rw [hQ, ← e2]
    exact hw_vret S hlk hret hD dJx4a65c_fastRemove_b59b0_43
  have hl : lv_has ls 4 [(0, va_rf (some a0)), (1, va_rf (p1)), (2, .int (p2))] := hl
  unfold g_Jx4a65c_fastRemove_b59b0 at hf
  refine hw_aload_n (r := (some a0)) hx hb dJx4a65c_fastRemove_b59b0_0 rfl (lv_at hl 0 rfl) ?_
  refine lv_dup hx hb dJx4a65c_fastRemove_b59b0_1 (va_rf_cat _) ?_
  obtain ⟨x1, hv, hf⟩ := ob_s hf
  refine hw_gi (C := RJx4a65c) (T := TJx4a65c) (N := 3) (ref := "java/util/ArrayList") S hKn hD hv rfl (by decide) (by decide) rfl inJx4a65c wd0 (u_same wd1) dJx4a65c_fastRemove_b59b0_2 ?_
  refine lv_iconst (v := (1)) hx hb dJx4a65c_fastRemove_b59b0_5 (by decide) ?_
  refine lv_iadd hx hb dJx4a65c_fastRemove_b59b0_6 ?_
  obtain ⟨s2, hv, hf⟩ := ob_s hf
  refine hw_pi (C := RJx4a65c) (T := TJx4a65c) (N := 3) (ref := "java/util/ArrayList") S hKn hD hv rfl (by decide) (by decide) rfl inJx4a65c tyJx4a65c tyJx4a65c_ok nmJx4a65c wd0 (u_same wd1) rfl (by first | rfl | decide) (by first | rfl | decide) dJx4a65c_fastRemove_b59b0_7 (fun H locs hD => ?_)
  refine hw_aload_n (r := (some a0)) hx hb dJx4a65c_fastRemove_b59b0_10 rfl (lv_at hl 0 rfl) ?_
  obtain ⟨x3, hv, hf⟩ := ob_s hf
  refine hw_gi (C := RJx4a65c) (T := TJx4a65c) (N := 3) (ref := "java/util/ArrayList") S hKn hD hv rfl (by decide) (by decide) rfl inJx4a65c wd2 (fun _ h9 => h9) dJx4a65c_fastRemove_b59b0_11 ?_
  refine lv_iconst (v := (1)) hx hb dJx4a65c_fastRemove_b59b0_14 (by decide) ?_
  refine lv_isub hx hb dJx4a65c_fastRemove_b59b0_15 ?_
  refine lv_dup hx hb dJx4a65c_fastRemove_b59b0_16 rfl ?_
  refine hs_istore_n (i := 3) (lv' := [(3, .int (x3 - (1 : Int32))), (0, va_rf ((some a0))), (1, va_rf (p1)), (2, .int (p2))]) hx hb dJx4a65c_fastRemove_b59b0_17 rfl hl (by decide) (st_okR (st_okR (st_okI st_ok0))) rfl (fun ls hl => ?_)
  refine lv_iload_n hx hb dJx4a65c_fastRemove_b59b0_18 rfl (lv_at hl 3 rfl) ?_
  refine lv_icmp_le (tgt := 34) hx hb dJx4a65c_fastRemove_b59b0_19 (by decide) (fun hc => ?_) (fun hc => ?_)
  · rw [if_pos hc] at hf
    exact hB34 (some a0) p1 (x3 - (1 : Int32)) _ _ _ _ _ _ hD (lv_sub hl [1, 2, 0] rfl) hf
  · rw [if_neg hc] at hf
    refine hw_aload_n (r := p1) hx hb dJx4a65c_fastRemove_b59b0_22 rfl (lv_at hl 2 rfl) ?_
    refine lv_iload_n hx hb dJx4a65c_fastRemove_b59b0_23 rfl (lv_at hl 3 rfl) ?_
    refine lv_iconst (v := (1)) hx hb dJx4a65c_fastRemove_b59b0_24 (by decide) ?_
    refine lv_iadd hx hb dJx4a65c_fastRemove_b59b0_25 ?_
    refine hw_aload_n (r := p1) hx hb dJx4a65c_fastRemove_b59b0_26 rfl (lv_at hl 2 rfl) ?_
    refine lv_iload_n hx hb dJx4a65c_fastRemove_b59b0_27 rfl (lv_at hl 3 rfl) ?_
    refine lv_iload_n hx hb dJx4a65c_fastRemove_b59b0_28 rfl (lv_at hl 0 rfl) ?_
    refine lv_iload_n hx hb dJx4a65c_fastRemove_b59b0_29 rfl (lv_at hl 3 rfl) ?_
    refine lv_isub hx hb dJx4a65c_fastRemove_b59b0_30 ?_
    obtain ⟨s4, hv, hf⟩ := ob_s hf
    refine hw_cp S hl.1 hKn hD hv wd3 wd4 wd5 wd6 (by rw [hfr]; decide) (by rw [hlo]; exact Nat.le_trans (Nat.add_le_add_right cs_0 _) (by decide)) dJx4a65c_fastRemove_b59b0_31 (fun H locs hD => ?_)
    exact hB34 (some a0) p1 (x3 - (1 : Int32)) _ _ _ _ _ _ hD (lv_sub hl [1, 2, 0] rfl) hf
set_option maxHeartbeats 4000000 in
set_option maxRecDepth 100000 in
theorem c_Jx4a65c_remove_915e3 (l : Launch) (D : va_G) (G : GC) (base : Nat) (E : PE) {a0 : Nat} {p1 : Int32} {σ0 τ : PS} {rv : Option Nat} (hF : f_Jx4a65c_remove_915e3 E (some a0) p1 σ0 = some (rv, τ)) : Ct l D G base E yJx4a65c_remove_915e3 wsJx4a65c_remove_915e3 2 83 ([.ref a0, .int (p1)] : List Value) σ0 (some (va_rf rv)) τ := by
  obtain ⟨hf, hmo⟩ := oM_of hF
  refine Ct.of (own := RJx4a65c) [1, 1] (by decide) rfl rfl hmo (ct_R (ct_I ct_0)) (by decide) ?_
  intro p e s m below meth c R Q ls H locs cells slots S hKn hRm hfr hlo hlk hret hnm hQ hD hl
  have hx := S.1
  have hb := S.2.1
  have hts := S.2.2.2.2
  have inJx4a65c : ∀ w ∈ u_ws RJx4a65c TJx4a65c 3, w ∈ wsJx4a65c_remove_915e3 := by decide +kernel
  have wd0 := hts (.fieldLink RJx4a65c 48 "java/util/ArrayList" "size" "I") (by decide +kernel)
  have wd1 := hts (.fieldLink RJx4a65c 9 "java/util/ArrayList" "elementData" "[Ljava/lang/Object;") (by decide +kernel)
  have hl : lv_has ls 4 [(0, va_rf (some a0)), (1, .int (p1))] := hl
  unfold g_Jx4a65c_remove_915e3 at hf
  refine lv_iload_n hx hb dJx4a65c_remove_915e3_0 rfl (lv_at hl 1 rfl) ?_
  refine hw_aload_n (r := (some a0)) hx hb dJx4a65c_remove_915e3_1 rfl (lv_at hl 0 rfl) ?_
  obtain ⟨x1, hv, hf⟩ := ob_s hf
  refine hw_gi (C := RJx4a65c) (T := TJx4a65c) (N := 3) (ref := "java/util/ArrayList") S hKn hD hv rfl (by decide) (by decide) rfl inJx4a65c wd0 (fun _ h9 => h9) dJx4a65c_remove_915e3_2 ?_
  obtain ⟨r2, s3, hv, hf⟩ := ob_p hf
  refine hw_S (As := [.int (p1), .int (x1)]) (rest := []) S hKn hRm hD (c_J15_checkIndex_7cf53 l D G base E hv) (mo_J15_checkIndex_7cf53 hv) gJx4a65c_remove_915e3_J15_checkIndex_7cf53 rfl 2 (by decide +kernel) ⟨by rw [hfr]; decide, by rw [hlo]; decide⟩ rfl hl.1 (Nat.le_trans cs_0 (by decide)) rfl dJx4a65c_remove_915e3_5 (fun H locs cells slots hD => ?_)
  refine W.eq (g2 := F0 m 8 ls [.int (r2)]) rfl ?_
  refine lv_pop hx hb dJx4a65c_remove_915e3_8 rfl ?_
  refine hw_aload_n (r := (some a0)) hx hb dJx4a65c_remove_915e3_9 rfl (lv_at hl 0 rfl) ?_
  obtain ⟨x4, hv, hf⟩ := ob_s hf
  refine hw_gr (C := RJx4a65c) (T := TJx4a65c) (N := 3) (ref := "java/util/ArrayList") S hKn hD hv rfl (by decide) (by decide) rfl inJx4a65c wd1 (fun _ h9 => h9) dJx4a65c_remove_915e3_10 ?_
  refine hs_astore_n (i := 2) (lv' := [(2, va_rf (x4)), (0, va_rf ((some a0))), (1, .int (p1))]) hx hb dJx4a65c_remove_915e3_13 rfl hl (by decide) (st_okR (st_okI st_ok0)) rfl (fun ls hl => ?_)
  refine hw_aload_n (r := x4) hx hb dJx4a65c_remove_915e3_14 rfl (lv_at hl 0 rfl) ?_
  refine lv_iload_n hx hb dJx4a65c_remove_915e3_15 rfl (lv_at hl 2 rfl) ?_
  obtain ⟨x5, hv, hf⟩ := ob_s hf
  refine hw_ql S hKn hD hv dJx4a65c_remove_915e3_16 ?_
  refine hs_astore_n (i := 3) (lv' := [(3, va_rf (x5)), (2, va_rf (x4)), (0, va_rf ((some a0))), (1, .int (p1))]) hx hb dJx4a65c_remove_915e3_17 rfl hl (by decide) (st_okR (st_okR (st_okI st_ok0))) rfl (fun ls hl => ?_)
  refine hw_aload_n (r := (some a0)) hx hb dJx4a65c_remove_915e3_18 rfl (lv_at hl 2 rfl) ?_
  refine hw_aload_n (r := x4) hx hb dJx4a65c_remove_915e3_19 rfl (lv_at hl 1 rfl) ?_
  refine lv_iload_n hx hb dJx4a65c_remove_915e3_20 rfl (lv_at hl 3 rfl) ?_
  obtain ⟨b8, hv, hf⟩ := ob_s hf
  obtain ⟨e9, hk9⟩ := oK_of hv
  cases e9
  obtain ⟨r6, s7, hv, hf⟩ := ob_p hf
  refine hw_V (b := a0) (ci := 0) (T := TJx4a65c) (N := 3) (As := [va_rf (x4), .int (p1)]) (rest := []) S hKn hRm hD (c_Jx4a65c_fastRemove_b59b0 l D G base E hv) (mo_Jx4a65c_fastRemove_b59b0 hv) hk9 rfl (by decide) gJx4a65c_remove_915e3_Jx4a65c_fastRemove_b59b0 rfl 2 (by decide +kernel) ⟨by rw [hfr]; decide, by rw [hlo]; decide⟩ rfl hl.1 (Nat.le_trans cs_0 (by decide)) rfl dJx4a65c_remove_915e3_21 (fun H locs cells slots hD => ?_)
  refine W.eq (g2 := F0 m 24 ls []) rfl ?_
  refine hw_aload_n (r := x5) hx hb dJx4a65c_remove_915e3_24 rfl (lv_at hl 0 rfl) ?_
  obtain ⟨e1, e2⟩ := ret_eq hf
  rw [hQ, ← e1, ← e2]
  exact hw_aret S hlk hret (Or.inl ⟨_, rfl⟩) hD dJx4a65c_remove_915e3_25
set_option maxHeartbeats 4000000 in
set_option maxRecDepth 100000 in
theorem c_Jx4a65c_clear_da8c8 (l : Launch) (D : va_G) (G : GC) (base : Nat) (E : PE) {a0 : Nat} {σ0 τ : PS} {rv : Unit} (hF : f_Jx4a65c_clear_da8c8 E (some a0) σ0 = some (rv, τ)) : Ct l D G base E yJx4a65c_clear_da8c8 wsJx4a65c_clear_da8c8 0 0 ([.ref a0] : List Value) σ0 none τ := by
  obtain ⟨hf, hmo⟩ := oM_of hF
  refine Ct.of (own := RJx4a65c) [1] (by decide) rfl rfl hmo (ct_R ct_0) (by decide) ?_
  intro p e s m below meth c R Q ls H locs cells slots S hKn hRm hfr hlo hlk hret hnm hQ hD hl
  have hx := S.1
  have hb := S.2.1
  have hts := S.2.2.2.2
  have inJx4a65c : ∀ w ∈ u_ws RJx4a65c TJx4a65c 3, w ∈ wsJx4a65c_clear_da8c8 := by decide +kernel
  have wd0 := hts (.fieldLink RJx4a65c 63 "java/util/ArrayList" "modCount" "I") (by decide +kernel)
  have wd1 := hts (.sameField "java/util/ArrayList" "java/util/AbstractList" "modCount" "I") (by decide +kernel)
  have wd2 := hts (.fieldLink RJx4a65c 9 "java/util/ArrayList" "elementData" "[Ljava/lang/Object;") (by decide +kernel)
  have wd3 := hts (.fieldLink RJx4a65c 48 "java/util/ArrayList" "size" "I") (by decide +kernel)
  have hL27 : ∀ (n : Nat), ∀ (v1 : Option Nat) (v2 : Int32) (v3 : Int32) (σ : PS) (H : Heap) (locs : List Loc) (cells slots : Nat) (ls : Array Slot), Dy D G base E s.heap σ0 σ H locs cells slots → lv_has ls 4 [(1, va_rf (v1)), (2, .int (v2)), (3, .int (v3))] → f_Jx4a65c_clear_da8c8_L27 E n v1 v2 v3 σ = some (rv, τ) → W p l e R s m ([.ref a0] : List Value).toArray below meth c H locs cells slots Q (F0 m 27 ls []) := by
    intro n
    induction n with
    | zero =>
      intro v1 v2 v3 σ H locs cells slots ls hD hl hf
      rw [f_Jx4a65c_clear_da8c8_L27] at hf
      cases hf
    | succ n ih =>
      intro v1 v2 v3 σ H locs cells slots ls hD hl hf
      rw [f_Jx4a65c_clear_da8c8_L27] at hf
      refine lv_iload_n hx hb dJx4a65c_clear_da8c8_27 rfl (lv_at hl 2 rfl) ?_
      refine lv_iload_n hx hb dJx4a65c_clear_da8c8_28 rfl (lv_at hl 1 rfl) ?_
      refine lv_icmp_ge (tgt := 42) hx hb dJx4a65c_clear_da8c8_29 (by decide) (fun hc => ?_) (fun hc => ?_)
      · rw [if_pos hc] at hf
        obtain ⟨-, e2⟩ := ret_eq hf
        rw [hQ, ← e2]
        exact hw_vret S hlk hret hD dJx4a65c_clear_da8c8_42
      · rw [if_neg hc] at hf
        refine hw_aload_n (r := v1) hx hb dJx4a65c_clear_da8c8_32 rfl (lv_at hl 0 rfl) ?_
        refine lv_iload_n hx hb dJx4a65c_clear_da8c8_33 rfl (lv_at hl 2 rfl) ?_
        refine hs_null hx hb dJx4a65c_clear_da8c8_34 ?_
        obtain ⟨s6, hv, hf⟩ := ob_s hf
        refine hw_qs S hKn hD hv dJx4a65c_clear_da8c8_35 (fun H locs hD => ?_)
        refine hs_iinc (i := 3) (k := 2) (v := v3 + 1) (lv' := [(3, .int (v3 + 1)), (1, va_rf (v1)), (2, .int (v2))]) hx hb dJx4a65c_clear_da8c8_36 hl rfl (congrArg (fun z => v3 + z) (by decide)) (by decide) (st_okR (st_okI (st_okI st_ok0))) rfl (fun ls hl => ?_)
        refine lv_goto (tgt := 27) hx hb dJx4a65c_clear_da8c8_39 (by decide) ?_
        exact ih v1 v2 (v3 + 1) _ _ _ _ _ _ hD (lv_sub hl [1, 2, 0] rfl) hf
  have hl : lv_has ls 4 [(0, va_rf (some a0))] := hl
  unfold g_Jx4a65c_clear_da8c8 at hf
  refine hw_aload_n (r := (some a0)) hx hb dJx4a65c_clear_da8c8_0 rfl (lv_at hl 0 rfl) ?_
  refine lv_dup hx hb dJx4a65c_clear_da8c8_1 (va_rf_cat _) ?_
  obtain ⟨x1, hv, hf⟩ := ob_s hf
  refine hw_gi (C := RJx4a65c) (T := TJx4a65c) (N := 3) (ref := "java/util/ArrayList") S hKn hD hv rfl (by decide) (by decide) rfl inJx4a65c wd0 (u_same wd1) dJx4a65c_clear_da8c8_2 ?_
  refine lv_iconst (v := (1)) hx hb dJx4a65c_clear_da8c8_5 (by decide) ?_
  refine lv_iadd hx hb dJx4a65c_clear_da8c8_6 ?_
  obtain ⟨s2, hv, hf⟩ := ob_s hf
  refine hw_pi (C := RJx4a65c) (T := TJx4a65c) (N := 3) (ref := "java/util/ArrayList") S hKn hD hv rfl (by decide) (by decide) rfl inJx4a65c tyJx4a65c tyJx4a65c_ok nmJx4a65c wd0 (u_same wd1) rfl (by first | rfl | decide) (by first | rfl | decide) dJx4a65c_clear_da8c8_7 (fun H locs hD => ?_)
  refine hw_aload_n (r := (some a0)) hx hb dJx4a65c_clear_da8c8_10 rfl (lv_at hl 0 rfl) ?_
  obtain ⟨x3, hv, hf⟩ := ob_s hf
  refine hw_gr (C := RJx4a65c) (T := TJx4a65c) (N := 3) (ref := "java/util/ArrayList") S hKn hD hv rfl (by decide) (by decide) rfl inJx4a65c wd2 (fun _ h9 => h9) dJx4a65c_clear_da8c8_11 ?_
  refine hs_astore_n (i := 1) (lv' := [(1, va_rf (x3)), (0, va_rf ((some a0)))]) hx hb dJx4a65c_clear_da8c8_14 rfl hl (by decide) (st_okR st_ok0) rfl (fun ls hl => ?_)
  refine hw_aload_n (r := (some a0)) hx hb dJx4a65c_clear_da8c8_15 rfl (lv_at hl 1 rfl) ?_
  obtain ⟨x4, hv, hf⟩ := ob_s hf
  refine hw_gi (C := RJx4a65c) (T := TJx4a65c) (N := 3) (ref := "java/util/ArrayList") S hKn hD hv rfl (by decide) (by decide) rfl inJx4a65c wd3 (fun _ h9 => h9) dJx4a65c_clear_da8c8_16 ?_
  refine hs_istore_n (i := 2) (lv' := [(2, .int (x4)), (1, va_rf (x3)), (0, va_rf ((some a0)))]) hx hb dJx4a65c_clear_da8c8_19 rfl hl (by decide) (st_okR (st_okR st_ok0)) rfl (fun ls hl => ?_)
  refine hw_aload_n (r := (some a0)) hx hb dJx4a65c_clear_da8c8_20 rfl (lv_at hl 2 rfl) ?_
  refine lv_iconst (v := (0)) hx hb dJx4a65c_clear_da8c8_21 (by decide) ?_
  refine lv_dup_x1 hx hb dJx4a65c_clear_da8c8_22 rfl (va_rf_cat _) ?_
  obtain ⟨s5, hv, hf⟩ := ob_s hf
  refine hw_pi (C := RJx4a65c) (T := TJx4a65c) (N := 3) (ref := "java/util/ArrayList") S hKn hD hv rfl (by decide) (by decide) rfl inJx4a65c tyJx4a65c tyJx4a65c_ok nmJx4a65c wd3 (fun _ h9 => h9) rfl (by first | rfl | decide) (by first | rfl | decide) dJx4a65c_clear_da8c8_23 (fun H locs hD => ?_)
  refine hs_istore_n (i := 3) (lv' := [(3, .int ((0 : Int32))), (2, .int (x4)), (1, va_rf (x3)), (0, va_rf ((some a0)))]) hx hb dJx4a65c_clear_da8c8_26 rfl hl (by decide) (st_okI (st_okR (st_okR st_ok0))) rfl (fun ls hl => ?_)
  exact hL27 _ x3 x4 (0 : Int32) _ _ _ _ _ _ hD (lv_sub hl [2, 1, 0] rfl) hf
set_option maxHeartbeats 4000000 in
set_option maxRecDepth 100000 in
theorem c_X4_clear (l : Launch) (D : va_G) (G : GC) (base : Nat) (E : PE) {a0 : Nat} {σ0 τ : PS} {rv : Unit} (hF : f_X4_clear E (some a0) σ0 = some (rv, τ)) : Ct l D G base E yX4_clear wsX4_clear 0 0 ([.ref a0] : List Value) σ0 none τ := by
  obtain ⟨hf, hmo⟩ := oM_of hF
  refine Ct.of (own := RX4) [1] (by decide) rfl rfl hmo (ct_R ct_0) (by decide) ?_
  intro p e s m below meth c R Q ls H locs cells slots S hKn hRm hfr hlo hlk hret hnm hQ hD hl
  have hx := S.1
  have hb := S.2.1
  have hts := S.2.2.2.2
  have inX4 : ∀ w ∈ u_ws RX4 TX4 5, w ∈ wsX4_clear := by decide +kernel
  have wd0 := hts (.fieldLink RX4 21 "SolidGroups$TokenRow" "count" "I") (by decide +kernel)
  have wd1 := hts (.fieldLink RX4 25 "SolidGroups$TokenRow" "size" "I") (by decide +kernel)
  have hl : lv_has ls 1 [(0, va_rf (some a0))] := hl
  unfold g_X4_clear at hf
  refine hw_aload_n (r := (some a0)) hx hb dX4_clear_0 rfl (lv_at hl 0 rfl) ?_
  refine lv_iconst (v := (0)) hx hb dX4_clear_1 (by decide) ?_
  obtain ⟨s1, hv, hf⟩ := ob_s hf
  refine hw_pi (C := RX4) (T := TX4) (N := 5) (ref := "SolidGroups$TokenRow") S hKn hD hv rfl (by decide) (by decide) rfl inX4 tyX4 tyX4_ok nmX4 wd0 (fun _ h9 => h9) rfl (by first | rfl | decide) (by first | rfl | decide) dX4_clear_2 (fun H locs hD => ?_)
  refine hw_aload_n (r := (some a0)) hx hb dX4_clear_5 rfl (lv_at hl 0 rfl) ?_
  refine lv_iconst (v := (0)) hx hb dX4_clear_6 (by decide) ?_
  obtain ⟨s2, hv, hf⟩ := ob_s hf
  refine hw_pi (C := RX4) (T := TX4) (N := 5) (ref := "SolidGroups$TokenRow") S hKn hD hv rfl (by decide) (by decide) rfl inX4 tyX4 tyX4_ok nmX4 wd1 (fun _ h9 => h9) rfl (by first | rfl | decide) (by first | rfl | decide) dX4_clear_7 (fun H locs hD => ?_)
  obtain ⟨-, e2⟩ := ret_eq hf
  rw [hQ, ← e2]
  exact hw_vret S hlk hret hD dX4_clear_10
set_option maxHeartbeats 4000000 in
set_option maxRecDepth 100000 in
theorem c_X2_begin (l : Launch) (D : va_G) (G : GC) (base : Nat) (E : PE) {a0 : Nat} {p1 : Int32} {σ0 τ : PS} {rv : Unit} (hF : f_X2_begin E (some a0) p1 σ0 = some (rv, τ)) : Ct l D G base E yX2_begin wsX2_begin 1 23 ([.ref a0, .int (p1)] : List Value) σ0 none τ := by
  obtain ⟨hf, hmo⟩ := oM_of hF
  refine Ct.of (own := RX2) [1, 1] (by decide) rfl rfl hmo (ct_R (ct_I ct_0)) (by decide) ?_
  intro p e s m below meth c R Q ls H locs cells slots S hKn hRm hfr hlo hlk hret hnm hQ hD hl
  have hx := S.1
  have hb := S.2.1
  have hts := S.2.2.2.2
  have inX2 : ∀ w ∈ u_ws RX2 TX2 4, w ∈ wsX2_begin := by decide +kernel
  have wd0 := hts (.fieldLink RX2 25 "SolidGroups$Group" "kind" "I") (by decide +kernel)
  have wd1 := hts (.fieldLink RX2 29 "SolidGroups$Group" "madeAnew" "I") (by decide +kernel)
  have wd2 := hts (.fieldLink RX2 12 "SolidGroups$Group" "members" "Ljava/util/ArrayList;") (by decide +kernel)
  have wd3 := hts (.fieldLink RX2 21 "SolidGroups$Group" "row" "LSolidGroups$TokenRow;") (by decide +kernel)
  have hl : lv_has ls 2 [(0, va_rf (some a0)), (1, .int (p1))] := hl
  unfold g_X2_begin at hf
  refine hw_aload_n (r := (some a0)) hx hb dX2_begin_0 rfl (lv_at hl 0 rfl) ?_
  refine lv_iload_n hx hb dX2_begin_1 rfl (lv_at hl 1 rfl) ?_
  obtain ⟨s1, hv, hf⟩ := ob_s hf
  refine hw_pi (C := RX2) (T := TX2) (N := 4) (ref := "SolidGroups$Group") S hKn hD hv rfl (by decide) (by decide) rfl inX2 tyX2 tyX2_ok nmX2 wd0 (fun _ h9 => h9) rfl (by first | rfl | decide) (by first | rfl | decide) dX2_begin_2 (fun H locs hD => ?_)
  refine hw_aload_n (r := (some a0)) hx hb dX2_begin_5 rfl (lv_at hl 0 rfl) ?_
  refine lv_iconst (v := (0)) hx hb dX2_begin_6 (by decide) ?_
  obtain ⟨s2, hv, hf⟩ := ob_s hf
  refine hw_pi (C := RX2) (T := TX2) (N := 4) (ref := "SolidGroups$Group") S hKn hD hv rfl (by decide) (by decide) rfl inX2 tyX2 tyX2_ok nmX2 wd1 (fun _ h9 => h9) rfl (by first | rfl | decide) (by first | rfl | decide) dX2_begin_7 (fun H locs hD => ?_)
  refine hw_aload_n (r := (some a0)) hx hb dX2_begin_10 rfl (lv_at hl 0 rfl) ?_
  obtain ⟨x3, hv, hf⟩ := ob_s hf
  refine hw_gr (C := RX2) (T := TX2) (N := 4) (ref := "SolidGroups$Group") S hKn hD hv rfl (by decide) (by decide) rfl inX2 wd2 (fun _ h9 => h9) dX2_begin_11 ?_
  obtain ⟨b6, hv, hf⟩ := ob_s hf
  obtain ⟨e9, hk9⟩ := oK_of hv
  cases e9
  obtain ⟨r4, s5, hv, hf⟩ := ob_p hf
  refine hw_V (b := b6) (ci := 0) (T := TJx4a65c) (N := 3) (As := []) (rest := []) S hKn hRm hD (c_Jx4a65c_clear_da8c8 l D G base E hv) (mo_Jx4a65c_clear_da8c8 hv) hk9 rfl (by decide) gX2_begin_Jx4a65c_clear_da8c8 rfl 0 (by decide +kernel) ⟨by rw [hfr]; decide, by rw [hlo]; decide⟩ rfl hl.1 (Nat.le_trans cs_0 (by decide)) rfl dX2_begin_14 (fun H locs cells slots hD => ?_)
  refine W.eq (g2 := F0 m 17 ls []) rfl ?_
  refine hw_aload_n (r := (some a0)) hx hb dX2_begin_17 rfl (lv_at hl 0 rfl) ?_
  obtain ⟨x7, hv, hf⟩ := ob_s hf
  refine hw_gr (C := RX2) (T := TX2) (N := 4) (ref := "SolidGroups$Group") S hKn hD hv rfl (by decide) (by decide) rfl inX2 wd3 (fun _ h9 => h9) dX2_begin_18 ?_
  obtain ⟨b10, hv, hf⟩ := ob_s hf
  obtain ⟨e9, hk9⟩ := oK_of hv
  cases e9
  obtain ⟨r8, s9, hv, hf⟩ := ob_p hf
  refine hw_V (b := b10) (ci := 5) (T := TX4) (N := 5) (As := []) (rest := []) S hKn hRm hD (c_X4_clear l D G base E hv) (mo_X4_clear hv) hk9 rfl (by decide) gX2_begin_X4_clear rfl 0 (by decide +kernel) ⟨by rw [hfr]; decide, by rw [hlo]; decide⟩ rfl hl.1 (Nat.le_trans cs_0 (by decide)) rfl dX2_begin_21 (fun H locs cells slots hD => ?_)
  refine W.eq (g2 := F0 m 24 ls []) rfl ?_
  obtain ⟨-, e2⟩ := ret_eq hf
  rw [hQ, ← e2]
  exact hw_vret S hlk hret hD dX2_begin_24
set_option maxHeartbeats 4000000 in
set_option maxRecDepth 100000 in
theorem c_X5_freshGroup (l : Launch) (D : va_G) (G : GC) (base : Nat) (E : PE) {a0 : Nat} {p1 : Int32} {σ0 τ : PS} {rv : Option Nat} (hF : f_X5_freshGroup E (some a0) p1 σ0 = some (rv, τ)) : Ct l D G base E yX5_freshGroup wsX5_freshGroup 5 140 ([.ref a0, .int (p1)] : List Value) σ0 (some (va_rf rv)) τ := by
  obtain ⟨hf, hmo⟩ := oM_of hF
  refine Ct.of (own := RX5) [1, 1] (by decide) rfl rfl hmo (ct_R (ct_I ct_0)) (by decide) ?_
  intro p e s m below meth c R Q ls H locs cells slots S hKn hRm hfr hlo hlk hret hnm hQ hD hl
  have hx := S.1
  have hb := S.2.1
  have hts := S.2.2.2.2
  have inX5 : ∀ w ∈ u_ws RX5 TX5 8, w ∈ wsX5_freshGroup := by decide +kernel
  have inX2 : ∀ w ∈ u_ws RX2 TX2 4, w ∈ wsX5_freshGroup := by decide +kernel
  have wd0 := hts (.fieldLink RX5 19 "SolidGroups" "spareGroups" "Ljava/util/ArrayList;") (by decide +kernel)
  have wd1 := hts (.classLink RX5 110 RX2) (by decide +kernel)
  have wd2 := hts (.instantiable RX2 4) (by decide +kernel)
  have wd3 := hts (.initialized RX2) (by decide +kernel)
  have wd4 := hts (.instanceMethod yX2_init) (by decide +kernel)
  have hB39 : ∀ (v1 : Int32) (w0 : Option Nat) (σ : PS) (H : Heap) (locs : List Loc) (cells slots : Nat) (ls : Array Slot), Dy D G base E s.heap σ0 σ H locs cells slots → lv_has ls 3 [(1, .int (v1))] → f_X5_freshGroup_B39 E v1 w0 σ = some (rv, τ) → W p l e R s m ([.ref a0, .int (p1)] : List Value).toArray below meth c H locs cells slots Q (F0 m 39 ls [va_rf (w0)]) := by
    intro v1 w0 σ H locs cells slots ls hD hl hf
    unfold f_X5_freshGroup_B39 at hf
    refine hs_astore_n (i := 2) (lv' := [(2, va_rf (w0)), (1, .int (v1))]) hx hb dX5_freshGroup_39 rfl hl (by decide) (st_okI st_ok0) rfl (fun ls hl => ?_)
    refine hw_aload_n (r := w0) hx hb dX5_freshGroup_40 rfl (lv_at hl 0 rfl) ?_
    refine lv_iload_n hx hb dX5_freshGroup_41 rfl (lv_at hl 1 rfl) ?_
    obtain ⟨b21, hv, hf⟩ := ob_s hf
    obtain ⟨e9, hk9⟩ := oK_of hv
    cases e9
    obtain ⟨r19, s20, hv, hf⟩ := ob_p hf
    refine hw_V (b := b21) (ci := 3) (T := TX2) (N := 4) (As := [.int (v1)]) (rest := []) S hKn hRm hD (c_X2_begin l D G base E hv) (mo_X2_begin hv) hk9 rfl (by decide) gX5_freshGroup_X2_begin rfl 1 (by decide +kernel) ⟨by rw [hfr]; decide, by rw [hlo]; decide⟩ rfl hl.1 (Nat.le_trans cs_0 (by decide)) rfl dX5_freshGroup_42 (fun H locs cells slots hD => ?_)
    refine W.eq (g2 := F0 m 45 ls []) rfl ?_
    refine hw_aload_n (r := (some b21)) hx hb dX5_freshGroup_45 rfl (lv_at hl 0 rfl) ?_
    obtain ⟨e1, e2⟩ := ret_eq hf
    rw [hQ, ← e1, ← e2]
    exact hw_aret S hlk hret (Or.inl ⟨_, rfl⟩) hD dX5_freshGroup_46
  have hl : lv_has ls 3 [(0, va_rf (some a0)), (1, .int (p1))] := hl
  unfold g_X5_freshGroup at hf
  refine hw_aload_n (r := (some a0)) hx hb dX5_freshGroup_0 rfl (lv_at hl 0 rfl) ?_
  obtain ⟨x1, hv, hf⟩ := ob_s hf
  refine hw_gr (C := RX5) (T := TX5) (N := 8) (ref := "SolidGroups") S hKn hD hv rfl (by decide) (by decide) rfl inX5 wd0 (fun _ h9 => h9) dX5_freshGroup_1 ?_
  obtain ⟨b4, hv, hf⟩ := ob_s hf
  obtain ⟨e9, hk9⟩ := oK_of hv
  cases e9
  obtain ⟨r2, s3, hv, hf⟩ := ob_p hf
  refine hw_V (b := b4) (ci := 0) (T := TJx4a65c) (N := 3) (As := []) (rest := []) S hKn hRm hD (c_Jx4a65c_isEmpty_aae02 l D G base E hv) (mo_Jx4a65c_isEmpty_aae02 hv) hk9 rfl (by decide) gX5_freshGroup_Jx4a65c_isEmpty_aae02 rfl 0 (by decide +kernel) ⟨by rw [hfr]; decide, by rw [hlo]; decide⟩ rfl hl.1 (Nat.le_trans cs_0 (by decide)) rfl dX5_freshGroup_4 (fun H locs cells slots hD => ?_)
  refine W.eq (g2 := F0 m 7 ls [.int (r2)]) rfl ?_
  refine lv_if_eq (tgt := 20) hx hb dX5_freshGroup_7 (by decide) (fun hc => ?_) (fun hc => ?_)
  · rw [if_pos hc] at hf
    refine hw_aload_n (r := (some a0)) hx hb dX5_freshGroup_20 rfl (lv_at hl 0 rfl) ?_
    obtain ⟨x5, hv, hf⟩ := ob_s hf
    refine hw_gr (C := RX5) (T := TX5) (N := 8) (ref := "SolidGroups") S hKn hD hv rfl (by decide) (by decide) rfl inX5 wd0 (fun _ h9 => h9) dX5_freshGroup_21 ?_
    refine hw_aload_n (r := (some a0)) hx hb dX5_freshGroup_24 rfl (lv_at hl 0 rfl) ?_
    obtain ⟨x6, hv, hf⟩ := ob_s hf
    refine hw_gr (C := RX5) (T := TX5) (N := 8) (ref := "SolidGroups") S hKn hD hv rfl (by decide) (by decide) rfl inX5 wd0 (fun _ h9 => h9) dX5_freshGroup_25 ?_
    obtain ⟨b9, hv, hf⟩ := ob_s hf
    obtain ⟨e9, hk9⟩ := oK_of hv
    cases e9
    obtain ⟨r7, s8, hv, hf⟩ := ob_p hf
    refine hw_V (b := b9) (ci := 0) (T := TJx4a65c) (N := 3) (As := []) (rest := [va_rf (x5)]) S hKn hRm hD (c_Jx4a65c_size_8abf5 l D G base E hv) (mo_Jx4a65c_size_8abf5 hv) hk9 rfl (by decide) gX5_freshGroup_Jx4a65c_size_8abf5 rfl 0 (by decide +kernel) ⟨by rw [hfr]; decide, by rw [hlo]; decide⟩ rfl hl.1 (Nat.le_trans (cs_A cs_0) (by decide)) rfl dX5_freshGroup_28 (fun H locs cells slots hD => ?_)
    refine W.eq (g2 := F0 m 31 ls [.int (r7), va_rf (x5)]) rfl ?_
    refine lv_iconst (v := (1)) hx hb dX5_freshGroup_31 (by decide) ?_
    refine lv_isub hx hb dX5_freshGroup_32 ?_
    obtain ⟨b12, hv, hf⟩ := ob_s hf
    obtain ⟨e9, hk9⟩ := oK_of hv
    cases e9
    obtain ⟨r10, s11, hv, hf⟩ := ob_p hf
    refine hw_V (b := b12) (ci := 0) (T := TJx4a65c) (N := 3) (As := [.int (r7 - (1 : Int32))]) (rest := []) S hKn hRm hD (c_Jx4a65c_remove_915e3 l D G base E hv) (mo_Jx4a65c_remove_915e3 hv) hk9 rfl (by decide) gX5_freshGroup_Jx4a65c_remove_915e3 rfl 1 (by decide +kernel) ⟨by rw [hfr]; decide, by rw [hlo]; decide⟩ rfl hl.1 (Nat.le_trans cs_0 (by decide)) rfl dX5_freshGroup_33 (fun H locs cells slots hD => ?_)
    refine W.eq (g2 := F0 m 36 ls [va_rf (r10)]) rfl ?_
    obtain ⟨u13, hv, hf⟩ := ob_s hf
    refine hw_ca (C := RX2) (T := TX2) (N := 4) S hKn hD hv rfl (by decide) wd1 dX5_freshGroup_36 ?_
    exact hB39 p1 r10 _ _ _ _ _ _ hD (lv_sub hl [1] rfl) hf
  · rw [if_neg hc] at hf
    obtain ⟨x14, s15, hv, hf⟩ := ob_p hf
    refine hw_nw (C := RX2) (T := TX2) (N := 4) S hKn hRm hD hv rfl (by decide) inX2 tyX2 tyX2_ok wd1 wd2 wd3 dfX2 dX5_freshGroup_10 (fun H hD => ?_)
    generalize cells + 1 = cells, slots + 4 = slots at hD ⊢
    refine lv_dup hx hb dX5_freshGroup_13 (va_rf_cat _) ?_
    obtain ⟨b18, hv, hf⟩ := ob_s hf
    obtain ⟨e9, hk9⟩ := oK_of hv
    cases e9
    obtain ⟨r16, s17, hv, hf⟩ := ob_p hf
    refine hw_IN (b := b18) (As := []) (rest := [va_rf ((some b18))]) S hKn hRm hD (c_X2_init l D G base E hv) (mo_X2_init hv) hKn.2.2.2.2.2.1.1 ggX5_freshGroup_X2_init rfl 0 wd3 wd4 rfl (by decide +kernel) ⟨by rw [hfr]; decide, by rw [hlo]; decide⟩ rfl hl.1 (Nat.le_trans (cs_A cs_0) (by decide)) rfl dX5_freshGroup_14 (fun H locs cells slots hD => ?_)
    refine W.eq (g2 := F0 m 17 ls [va_rf ((some b18))]) rfl ?_
    refine lv_goto (tgt := 39) hx hb dX5_freshGroup_17 (by decide) ?_
    exact hB39 p1 (some b18) _ _ _ _ _ _ hD (lv_sub hl [1] rfl) hf
set_option maxHeartbeats 4000000 in
set_option maxRecDepth 100000 in
theorem c_Jx4a65c_rangeCheckForAdd_d00df (l : Launch) (D : va_G) (G : GC) (base : Nat) (E : PE) {a0 : Nat} {p1 : Int32} {σ0 τ : PS} {rv : Unit} (hF : f_Jx4a65c_rangeCheckForAdd_d00df E (some a0) p1 σ0 = some (rv, τ)) : Ct l D G base E yJx4a65c_rangeCheckForAdd_d00df wsJx4a65c_rangeCheckForAdd_d00df 0 0 ([.ref a0, .int (p1)] : List Value) σ0 none τ := by
  obtain ⟨hf, hmo⟩ := oM_of hF
  refine Ct.of (own := RJx4a65c) [1, 1] (by decide) rfl rfl hmo (ct_R (ct_I ct_0)) (by decide) ?_
  intro p e s m below meth c R Q ls H locs cells slots S hKn hRm hfr hlo hlk hret hnm hQ hD hl
  have hx := S.1
  have hb := S.2.1
  have hts := S.2.2.2.2
  have inJx4a65c : ∀ w ∈ u_ws RJx4a65c TJx4a65c 3, w ∈ wsJx4a65c_rangeCheckForAdd_d00df := by decide +kernel
  have wd0 := hts (.fieldLink RJx4a65c 48 "java/util/ArrayList" "size" "I") (by decide +kernel)
  have hB12 : ∀ (v0 : Option Nat) (v1 : Int32) (σ : PS) (H : Heap) (locs : List Loc) (cells slots : Nat) (ls : Array Slot), Dy D G base E s.heap σ0 σ H locs cells slots → lv_has ls 2 [(0, va_rf (v0)), (1, .int (v1))] → f_Jx4a65c_rangeCheckForAdd_d00df_B12 E v0 v1 σ = some (rv, τ) → W p l e R s m ([.ref a0, .int (p1)] : List Value).toArray below meth c H locs cells slots Q (F0 m 12 ls []) := by
    intro v0 v1 σ H locs cells slots ls hD hl hf
    unfold f_Jx4a65c_rangeCheckForAdd_d00df_B12 at hf
    cases hf
  have hl : lv_has ls 2 [(0, va_rf (some a0)), (1, .int (p1))] := hl
  unfold g_Jx4a65c_rangeCheckForAdd_d00df at hf
  refine lv_iload_n hx hb dJx4a65c_rangeCheckForAdd_d00df_0 rfl (lv_at hl 1 rfl) ?_
  refine hw_aload_n (r := (some a0)) hx hb dJx4a65c_rangeCheckForAdd_d00df_1 rfl (lv_at hl 0 rfl) ?_
  obtain ⟨x1, hv, hf⟩ := ob_s hf
  refine hw_gi (C := RJx4a65c) (T := TJx4a65c) (N := 3) (ref := "java/util/ArrayList") S hKn hD hv rfl (by decide) (by decide) rfl inJx4a65c wd0 (fun _ h9 => h9) dJx4a65c_rangeCheckForAdd_d00df_2 ?_
  refine lv_icmp_gt (tgt := 12) hx hb dJx4a65c_rangeCheckForAdd_d00df_5 (by decide) (fun hc => ?_) (fun hc => ?_)
  · rw [if_pos hc] at hf
    exact hB12 (some a0) p1 _ _ _ _ _ _ hD (lv_sub hl [0, 1] rfl) hf
  · rw [if_neg hc] at hf
    refine lv_iload_n hx hb dJx4a65c_rangeCheckForAdd_d00df_8 rfl (lv_at hl 1 rfl) ?_
    refine lv_if_ge (tgt := 25) hx hb dJx4a65c_rangeCheckForAdd_d00df_9 (by decide) (fun hc => ?_) (fun hc => ?_)
    · rw [if_pos hc] at hf
      obtain ⟨-, e2⟩ := ret_eq hf
      rw [hQ, ← e2]
      exact hw_vret S hlk hret hD dJx4a65c_rangeCheckForAdd_d00df_25
    · rw [if_neg hc] at hf
      exact hB12 (some a0) p1 _ _ _ _ _ _ hD (lv_sub hl [0, 1] rfl) hf
set_option maxHeartbeats 4000000 in
set_option maxRecDepth 100000 in
theorem c_Jx4a65c_add_7a177 (l : Launch) (D : va_G) (G : GC) (base : Nat) (E : PE) {a0 : Nat} {p1 : Int32} {p2 : Option Nat} {σ0 τ : PS} {rv : Unit} (hF : f_Jx4a65c_add_7a177 E (some a0) p1 p2 σ0 = some (rv, τ)) : Ct l D G base E yJx4a65c_add_7a177 wsJx4a65c_add_7a177 5 147 ([.ref a0, .int (p1), va_rf (p2)] : List Value) σ0 none τ := by
  obtain ⟨hf, hmo⟩ := oM_of hF
  refine Ct.of (own := RJx4a65c) [1, 1, 1] (by decide) rfl rfl hmo (ct_R (ct_I (ct_A ct_0))) (by decide) ?_
  intro p e s m below meth c R Q ls H locs cells slots S hKn hRm hfr hlo hlk hret hnm hQ hD hl
  have hx := S.1
  have hb := S.2.1
  have hts := S.2.2.2.2
  have inJx4a65c : ∀ w ∈ u_ws RJx4a65c TJx4a65c 3, w ∈ wsJx4a65c_add_7a177 := by decide +kernel
  have wd0 := hts (.fieldLink RJx4a65c 63 "java/util/ArrayList" "modCount" "I") (by decide +kernel)
  have wd1 := hts (.sameField "java/util/ArrayList" "java/util/AbstractList" "modCount" "I") (by decide +kernel)
  have wd2 := hts (.fieldLink RJx4a65c 48 "java/util/ArrayList" "size" "I") (by decide +kernel)
  have wd3 := hts (.fieldLink RJx4a65c 9 "java/util/ArrayList" "elementData" "[Ljava/lang/Object;") (by decide +kernel)
  have wd4 := hts (.methodLink RJx4a65c 112 arraycopyName) (by decide +kernel)
  have wd5 := hts (.native arraycopyName) (by decide +kernel)
  have wd6 := hts (.static arraycopyName) (by decide +kernel)
  have wd7 := hts (.initialized "java/lang/System") (by decide +kernel)
  have hB38 : ∀ (v0 : Option Nat) (v1 : Int32) (v2 : Option Nat) (v3 : Int32) (v4 : Option Nat) (σ : PS) (H : Heap) (locs : List Loc) (cells slots : Nat) (ls : Array Slot), Dy D G base E s.heap σ0 σ H locs cells slots → lv_has ls 5 [(0, va_rf (v0)), (1, .int (v1)), (2, va_rf (v2)), (3, .int (v3)), (4, va_rf (v4))] → f_Jx4a65c_add_7a177_B38 E v0 v1 v2 v3 v4 σ = some (rv, τ) → W p l e R s m ([.ref a0, .int (p1), va_rf (p2)] : List Value).toArray below meth c H locs cells slots Q (F0 m 38 ls []) := by
    intro v0 v1 v2 v3 v4 σ H locs cells slots ls hD hl hf
    unfold f_Jx4a65c_add_7a177_B38 at hf
    refine hw_aload (r := v4) hx hb dJx4a65c_add_7a177_38 (lv_at hl 4 rfl) ?_
    refine lv_iload_n hx hb dJx4a65c_add_7a177_40 rfl (lv_at hl 1 rfl) ?_
    refine hw_aload (r := v4) hx hb dJx4a65c_add_7a177_41 (lv_at hl 4 rfl) ?_
    refine lv_iload_n hx hb dJx4a65c_add_7a177_43 rfl (lv_at hl 1 rfl) ?_
    refine lv_iconst (v := (1)) hx hb dJx4a65c_add_7a177_44 (by decide) ?_
    refine lv_iadd hx hb dJx4a65c_add_7a177_45 ?_
    refine lv_iload_n hx hb dJx4a65c_add_7a177_46 rfl (lv_at hl 3 rfl) ?_
    refine lv_iload_n hx hb dJx4a65c_add_7a177_47 rfl (lv_at hl 1 rfl) ?_
    refine lv_isub hx hb dJx4a65c_add_7a177_48 ?_
    obtain ⟨s12, hv, hf⟩ := ob_s hf
    refine hw_cp S hl.1 hKn hD hv wd4 wd5 wd6 wd7 (by rw [hfr]; decide) (by rw [hlo]; exact Nat.le_trans (Nat.add_le_add_right cs_0 _) (by decide)) dJx4a65c_add_7a177_49 (fun H locs hD => ?_)
    refine hw_aload (r := v4) hx hb dJx4a65c_add_7a177_52 (lv_at hl 4 rfl) ?_
    refine lv_iload_n hx hb dJx4a65c_add_7a177_54 rfl (lv_at hl 1 rfl) ?_
    refine hw_aload_n (r := v2) hx hb dJx4a65c_add_7a177_55 rfl (lv_at hl 2 rfl) ?_
    obtain ⟨s13, hv, hf⟩ := ob_s hf
    refine hw_qs S hKn hD hv dJx4a65c_add_7a177_56 (fun H locs hD => ?_)
    refine hw_aload_n (r := v0) hx hb dJx4a65c_add_7a177_57 rfl (lv_at hl 0 rfl) ?_
    refine lv_iload_n hx hb dJx4a65c_add_7a177_58 rfl (lv_at hl 3 rfl) ?_
    refine lv_iconst (v := (1)) hx hb dJx4a65c_add_7a177_59 (by decide) ?_
    refine lv_iadd hx hb dJx4a65c_add_7a177_60 ?_
    obtain ⟨s14, hv, hf⟩ := ob_s hf
    refine hw_pi (C := RJx4a65c) (T := TJx4a65c) (N := 3) (ref := "java/util/ArrayList") S hKn hD hv rfl (by decide) (by decide) rfl inJx4a65c tyJx4a65c tyJx4a65c_ok nmJx4a65c wd2 (fun _ h9 => h9) rfl (by first | rfl | decide) (by first | rfl | decide) dJx4a65c_add_7a177_61 (fun H locs hD => ?_)
    obtain ⟨-, e2⟩ := ret_eq hf
    rw [hQ, ← e2]
    exact hw_vret S hlk hret hD dJx4a65c_add_7a177_64
  have hl : lv_has ls 5 [(0, va_rf (some a0)), (1, .int (p1)), (2, va_rf (p2))] := hl
  unfold g_Jx4a65c_add_7a177 at hf
  refine hw_aload_n (r := (some a0)) hx hb dJx4a65c_add_7a177_0 rfl (lv_at hl 0 rfl) ?_
  refine lv_iload_n hx hb dJx4a65c_add_7a177_1 rfl (lv_at hl 1 rfl) ?_
  obtain ⟨b3, hv, hf⟩ := ob_s hf
  obtain ⟨e9, hk9⟩ := oK_of hv
  cases e9
  obtain ⟨r1, s2, hv, hf⟩ := ob_p hf
  refine hw_V (b := a0) (ci := 0) (T := TJx4a65c) (N := 3) (As := [.int (p1)]) (rest := []) S hKn hRm hD (c_Jx4a65c_rangeCheckForAdd_d00df l D G base E hv) (mo_Jx4a65c_rangeCheckForAdd_d00df hv) hk9 rfl (by decide) gJx4a65c_add_7a177_Jx4a65c_rangeCheckForAdd_d00df rfl 1 (by decide +kernel) ⟨by rw [hfr]; decide, by rw [hlo]; decide⟩ rfl hl.1 (Nat.le_trans cs_0 (by decide)) rfl dJx4a65c_add_7a177_2 (fun H locs cells slots hD => ?_)
  refine W.eq (g2 := F0 m 5 ls []) rfl ?_
  refine hw_aload_n (r := (some a0)) hx hb dJx4a65c_add_7a177_5 rfl (lv_at hl 0 rfl) ?_
  refine lv_dup hx hb dJx4a65c_add_7a177_6 (va_rf_cat _) ?_
  obtain ⟨x4, hv, hf⟩ := ob_s hf
  refine hw_gi (C := RJx4a65c) (T := TJx4a65c) (N := 3) (ref := "java/util/ArrayList") S hKn hD hv rfl (by decide) (by decide) rfl inJx4a65c wd0 (u_same wd1) dJx4a65c_add_7a177_7 ?_
  refine lv_iconst (v := (1)) hx hb dJx4a65c_add_7a177_10 (by decide) ?_
  refine lv_iadd hx hb dJx4a65c_add_7a177_11 ?_
  obtain ⟨s5, hv, hf⟩ := ob_s hf
  refine hw_pi (C := RJx4a65c) (T := TJx4a65c) (N := 3) (ref := "java/util/ArrayList") S hKn hD hv rfl (by decide) (by decide) rfl inJx4a65c tyJx4a65c tyJx4a65c_ok nmJx4a65c wd0 (u_same wd1) rfl (by first | rfl | decide) (by first | rfl | decide) dJx4a65c_add_7a177_12 (fun H locs hD => ?_)
  refine hw_aload_n (r := (some a0)) hx hb dJx4a65c_add_7a177_15 rfl (lv_at hl 0 rfl) ?_
  obtain ⟨x6, hv, hf⟩ := ob_s hf
  refine hw_gi (C := RJx4a65c) (T := TJx4a65c) (N := 3) (ref := "java/util/ArrayList") S hKn hD hv rfl (by decide) (by decide) rfl inJx4a65c wd2 (fun _ h9 => h9) dJx4a65c_add_7a177_16 ?_
  refine lv_dup hx hb dJx4a65c_add_7a177_19 rfl ?_
  refine hs_istore_n (i := 3) (lv' := [(3, .int (x6)), (0, va_rf ((some a0))), (1, .int (p1)), (2, va_rf (p2))]) hx hb dJx4a65c_add_7a177_20 rfl hl (by decide) (st_okR (st_okI (st_okR st_ok0))) rfl (fun ls hl => ?_)
  refine hw_aload_n (r := (some a0)) hx hb dJx4a65c_add_7a177_21 rfl (lv_at hl 1 rfl) ?_
  obtain ⟨x7, hv, hf⟩ := ob_s hf
  refine hw_gr (C := RJx4a65c) (T := TJx4a65c) (N := 3) (ref := "java/util/ArrayList") S hKn hD hv rfl (by decide) (by decide) rfl inJx4a65c wd3 (fun _ h9 => h9) dJx4a65c_add_7a177_22 ?_
  refine lv_dup hx hb dJx4a65c_add_7a177_25 (va_rf_cat _) ?_
  refine hs_astore (i := 4) (lv' := [(4, va_rf (x7)), (3, .int (x6)), (0, va_rf ((some a0))), (1, .int (p1)), (2, va_rf (p2))]) hx hb dJx4a65c_add_7a177_26 hl (by decide) (st_okI (st_okR (st_okI (st_okR st_ok0)))) rfl (fun ls hl => ?_)
  obtain ⟨x8, hv, hf⟩ := ob_s hf
  refine hw_ln S hKn hD hv dJx4a65c_add_7a177_28 ?_
  refine lv_icmp_ne (tgt := 38) hx hb dJx4a65c_add_7a177_29 (by decide) (fun hc => ?_) (fun hc => ?_)
  · rw [if_neg hc] at hf
    exact hB38 (some a0) p1 p2 x6 x7 _ _ _ _ _ _ hD (lv_sub hl [2, 3, 4, 1, 0] rfl) hf
  · rw [if_pos hc] at hf
    refine hw_aload_n (r := (some a0)) hx hb dJx4a65c_add_7a177_32 rfl (lv_at hl 2 rfl) ?_
    obtain ⟨b11, hv, hf⟩ := ob_s hf
    obtain ⟨e9, hk9⟩ := oK_of hv
    cases e9
    obtain ⟨r9, s10, hv, hf⟩ := ob_p hf
    refine hw_V (b := a0) (ci := 0) (T := TJx4a65c) (N := 3) (As := []) (rest := []) S hKn hRm hD (c_Jx4a65c_grow_d5877 l D G base E hv) (mo_Jx4a65c_grow_d5877 hv) hk9 rfl (by decide) gJx4a65c_add_7a177_Jx4a65c_grow_d5877 rfl 0 (by decide +kernel) ⟨by rw [hfr]; decide, by rw [hlo]; decide⟩ rfl hl.1 (Nat.le_trans cs_0 (by decide)) rfl dJx4a65c_add_7a177_33 (fun H locs cells slots hD => ?_)
    refine W.eq (g2 := F0 m 36 ls [va_rf (r9)]) rfl ?_
    refine hs_astore (i := 4) (lv' := [(4, va_rf (r9)), (3, .int (x6)), (0, va_rf ((some a0))), (1, .int (p1)), (2, va_rf (p2))]) hx hb dJx4a65c_add_7a177_36 hl (by decide) (st_okR (st_okI (st_okR (st_okI (st_okR st_ok0))))) rfl (fun ls hl => ?_)
    exact hB38 (some a0) p1 p2 x6 r9 _ _ _ _ _ _ hD (lv_sub hl [2, 3, 4, 1, 0] rfl) hf
