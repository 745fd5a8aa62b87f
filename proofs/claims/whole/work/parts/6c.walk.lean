set_option maxHeartbeats 4000000 in
set_option maxRecDepth 100000 in
theorem c_X5_putAtEndOf (l : Launch) (D : va_G) (G : GC) (base : Nat) (E : PE) {a0 : Nat} {p1 : Int32} {p2 : Option Nat} {σ0 τ : PS} {rv : Option Nat} (hF : f_X5_putAtEndOf E (some a0) p1 p2 σ0 = some (rv, τ)) : Ct l D G base E yX5_putAtEndOf wsX5_putAtEndOf 7 191 ([.ref a0, .int (p1), va_rf (p2)] : List Value) σ0 (some (va_rf rv)) τ := by
  obtain ⟨hf, hmo⟩ := oM_of hF
  refine Ct.of (own := RX5) [1, 1, 1] (by decide) rfl rfl hmo (ct_R (ct_I (ct_A ct_0))) (by decide) ?_
  intro p e s m below meth c R Q ls H locs cells slots S hKn hRm hfr hlo hlk hret hnm hQ hD hl
  have hx := S.1
  have hb := S.2.1
  have hts := S.2.2.2.2
  have inX5 : ∀ w ∈ u_ws RX5 TX5 8, w ∈ wsX5_putAtEndOf := by decide +kernel
  have inX1 : ∀ w ∈ u_ws RX1 TX1 6, w ∈ wsX5_putAtEndOf := by decide +kernel
  have inX2 : ∀ w ∈ u_ws RX2 TX2 4, w ∈ wsX5_putAtEndOf := by decide +kernel
  have wd0 := hts (.fieldLink RX5 16 "SolidGroups" "groups" "Ljava/util/ArrayList;") (by decide +kernel)
  have wd1 := hts (.classLink RX5 110 RX2) (by decide +kernel)
  have wd2 := hts (.fieldLink RX5 71 "SolidGroups$Entry" "length" "I") (by decide +kernel)
  have wd3 := hts (.fieldLink RX5 43 "SolidGroups" "packedBound" "I") (by decide +kernel)
  have wd4 := hts (.fieldLink RX5 133 "SolidGroups$Group" "members" "Ljava/util/ArrayList;") (by decide +kernel)
  have hB99 : ∀ (v4 : Option Nat) (w0 : Option Nat) (w1 : Int32) (σ : PS) (H : Heap) (locs : List Loc) (cells slots : Nat) (ls : Array Slot), Dy D G base E s.heap σ0 σ H locs cells slots → lv_has ls 5 [(4, va_rf (v4))] → f_X5_putAtEndOf_B99 E v4 w0 w1 σ = some (rv, τ) → W p l e R s m ([.ref a0, .int (p1), va_rf (p2)] : List Value).toArray below meth c H locs cells slots Q (F0 m 99 ls [.int (w1), va_rf (w0)]) := by
    intro v4 w0 w1 σ H locs cells slots ls hD hl hf
    unfold f_X5_putAtEndOf_B99 at hf
    refine hw_aload (r := v4) hx hb dX5_putAtEndOf_99 (lv_at hl 0 rfl) ?_
    obtain ⟨b38, hv, hf⟩ := ob_s hf
    obtain ⟨e9, hk9⟩ := oK_of hv
    cases e9
    obtain ⟨r36, s37, hv, hf⟩ := ob_p hf
    refine hw_V (b := b38) (ci := 0) (T := TJx4a65c) (N := 3) (As := [.int (w1), va_rf (v4)]) (rest := []) S hKn hRm hD (c_Jx4a65c_add_7a177 l D G base E hv) (mo_Jx4a65c_add_7a177 hv) hk9 rfl (by decide) gX5_putAtEndOf_Jx4a65c_add_7a177 rfl 2 (by decide +kernel) ⟨by rw [hfr]; decide, by rw [hlo]; decide⟩ rfl hl.1 (Nat.le_trans cs_0 (by decide)) rfl dX5_putAtEndOf_101 (fun H locs cells slots hD => ?_)
    refine W.eq (g2 := F0 m 104 ls []) rfl ?_
    refine hw_aload (r := v4) hx hb dX5_putAtEndOf_104 (lv_at hl 0 rfl) ?_
    obtain ⟨e1, e2⟩ := ret_eq hf
    rw [hQ, ← e1, ← e2]
    exact hw_aret S hlk hret (Or.inl ⟨_, rfl⟩) hD dX5_putAtEndOf_106
  have hB57 : ∀ (v0 : Option Nat) (v1 : Int32) (v2 : Option Nat) (v3 : Int32) (σ : PS) (H : Heap) (locs : List Loc) (cells slots : Nat) (ls : Array Slot), Dy D G base E s.heap σ0 σ H locs cells slots → lv_has ls 5 [(0, va_rf (v0)), (1, .int (v1)), (2, va_rf (v2)), (3, .int (v3))] → f_X5_putAtEndOf_B57 E v0 v1 v2 v3 σ = some (rv, τ) → W p l e R s m ([.ref a0, .int (p1), va_rf (p2)] : List Value).toArray below meth c H locs cells slots Q (F0 m 57 ls []) := by
    intro v0 v1 v2 v3 σ H locs cells slots ls hD hl hf
    unfold f_X5_putAtEndOf_B57 at hf
    refine hw_aload_n (r := v0) hx hb dX5_putAtEndOf_57 rfl (lv_at hl 0 rfl) ?_
    refine lv_iload_n hx hb dX5_putAtEndOf_58 rfl (lv_at hl 1 rfl) ?_
    obtain ⟨b23, hv, hf⟩ := ob_s hf
    obtain ⟨e9, hk9⟩ := oK_of hv
    cases e9
    obtain ⟨r21, s22, hv, hf⟩ := ob_p hf
    refine hw_V (b := b23) (ci := 6) (T := TX5) (N := 8) (As := [.int (v1)]) (rest := []) S hKn hRm hD (c_X5_freshGroup l D G base E hv) (mo_X5_freshGroup hv) hk9 rfl (by decide) gX5_putAtEndOf_X5_freshGroup rfl 1 (by decide +kernel) ⟨by rw [hfr]; decide, by rw [hlo]; decide⟩ rfl hl.1 (Nat.le_trans cs_0 (by decide)) rfl dX5_putAtEndOf_59 (fun H locs cells slots hD => ?_)
    refine W.eq (g2 := F0 m 62 ls [va_rf (r21)]) rfl ?_
    refine hs_astore (i := 4) (lv' := [(4, va_rf (r21)), (0, va_rf ((some b23))), (1, .int (v1)), (2, va_rf (v2)), (3, .int (v3))]) hx hb dX5_putAtEndOf_62 hl (by decide) (st_okR (st_okI (st_okR (st_okI st_ok0)))) rfl (fun ls hl => ?_)
    refine hw_aload (r := r21) hx hb dX5_putAtEndOf_64 (lv_at hl 0 rfl) ?_
    obtain ⟨x24, hv, hf⟩ := ob_s hf
    refine hw_gr (C := RX2) (T := TX2) (N := 4) (ref := "SolidGroups$Group") S hKn hD hv rfl (by decide) (by decide) rfl inX2 wd4 (fun _ h9 => h9) dX5_putAtEndOf_66 ?_
    refine hw_aload_n (r := v2) hx hb dX5_putAtEndOf_69 rfl (lv_at hl 3 rfl) ?_
    obtain ⟨b27, hv, hf⟩ := ob_s hf
    obtain ⟨e9, hk9⟩ := oK_of hv
    cases e9
    obtain ⟨r25, s26, hv, hf⟩ := ob_p hf
    refine hw_V (b := b27) (ci := 0) (T := TJx4a65c) (N := 3) (As := [va_rf (v2)]) (rest := []) S hKn hRm hD (c_Jx4a65c_add_9ea2d l D G base E hv) (mo_Jx4a65c_add_9ea2d hv) hk9 rfl (by decide) gX5_putAtEndOf_Jx4a65c_add_9ea2d rfl 1 (by decide +kernel) ⟨by rw [hfr]; decide, by rw [hlo]; decide⟩ rfl hl.1 (Nat.le_trans cs_0 (by decide)) rfl dX5_putAtEndOf_70 (fun H locs cells slots hD => ?_)
    refine W.eq (g2 := F0 m 73 ls [.int (r25)]) rfl ?_
    refine lv_pop hx hb dX5_putAtEndOf_73 rfl ?_
    refine hw_aload_n (r := (some b23)) hx hb dX5_putAtEndOf_74 rfl (lv_at hl 1 rfl) ?_
    obtain ⟨x28, hv, hf⟩ := ob_s hf
    refine hw_gr (C := RX5) (T := TX5) (N := 8) (ref := "SolidGroups") S hKn hD hv rfl (by decide) (by decide) rfl inX5 wd0 (fun _ h9 => h9) dX5_putAtEndOf_75 ?_
    refine hw_aload_n (r := (some b23)) hx hb dX5_putAtEndOf_78 rfl (lv_at hl 1 rfl) ?_
    refine lv_iload_n hx hb dX5_putAtEndOf_79 rfl (lv_at hl 4 rfl) ?_
    obtain ⟨b31, hv, hf⟩ := ob_s hf
    obtain ⟨e9, hk9⟩ := oK_of hv
    cases e9
    obtain ⟨r29, s30, hv, hf⟩ := ob_p hf
    refine hw_V (b := b23) (ci := 6) (T := TX5) (N := 8) (As := [.int (v3)]) (rest := [va_rf (x28)]) S hKn hRm hD (c_X5_isGroup l D G base E hv) (mo_X5_isGroup hv) hk9 rfl (by decide) gX5_putAtEndOf_X5_isGroup rfl 1 (by decide +kernel) ⟨by rw [hfr]; decide, by rw [hlo]; decide⟩ rfl hl.1 (Nat.le_trans (cs_A cs_0) (by decide)) rfl dX5_putAtEndOf_80 (fun H locs cells slots hD => ?_)
    refine W.eq (g2 := F0 m 83 ls [.int (r29), va_rf (x28)]) rfl ?_
    refine lv_if_eq (tgt := 92) hx hb dX5_putAtEndOf_83 (by decide) (fun hc => ?_) (fun hc => ?_)
    · rw [if_pos hc] at hf
      refine hw_aload_n (r := (some b23)) hx hb dX5_putAtEndOf_92 rfl (lv_at hl 1 rfl) ?_
      obtain ⟨x32, hv, hf⟩ := ob_s hf
      refine hw_gr (C := RX5) (T := TX5) (N := 8) (ref := "SolidGroups") S hKn hD hv rfl (by decide) (by decide) rfl inX5 wd0 (fun _ h9 => h9) dX5_putAtEndOf_93 ?_
      obtain ⟨b35, hv, hf⟩ := ob_s hf
      obtain ⟨e9, hk9⟩ := oK_of hv
      cases e9
      obtain ⟨r33, s34, hv, hf⟩ := ob_p hf
      refine hw_V (b := b35) (ci := 0) (T := TJx4a65c) (N := 3) (As := []) (rest := [va_rf (x28)]) S hKn hRm hD (c_Jx4a65c_size_8abf5 l D G base E hv) (mo_Jx4a65c_size_8abf5 hv) hk9 rfl (by decide) gX5_putAtEndOf_Jx4a65c_size_8abf5 rfl 0 (by decide +kernel) ⟨by rw [hfr]; decide, by rw [hlo]; decide⟩ rfl hl.1 (Nat.le_trans (cs_A cs_0) (by decide)) rfl dX5_putAtEndOf_96 (fun H locs cells slots hD => ?_)
      refine W.eq (g2 := F0 m 99 ls [.int (r33), va_rf (x28)]) rfl ?_
      exact hB99 r21 x28 r33 _ _ _ _ _ _ hD (lv_sub hl [0] rfl) hf
    · rw [if_neg hc] at hf
      refine lv_iload_n hx hb dX5_putAtEndOf_86 rfl (lv_at hl 4 rfl) ?_
      refine lv_iconst (v := (1)) hx hb dX5_putAtEndOf_87 (by decide) ?_
      refine lv_iadd hx hb dX5_putAtEndOf_88 ?_
      refine lv_goto (tgt := 99) hx hb dX5_putAtEndOf_89 (by decide) ?_
      exact hB99 r21 x28 (v3 + (1 : Int32)) _ _ _ _ _ _ hD (lv_sub hl [0] rfl) hf
  have hl : lv_has ls 5 [(0, va_rf (some a0)), (1, .int (p1)), (2, va_rf (p2))] := hl
  unfold g_X5_putAtEndOf at hf
  refine hw_aload_n (r := (some a0)) hx hb dX5_putAtEndOf_0 rfl (lv_at hl 0 rfl) ?_
  refine lv_iload_n hx hb dX5_putAtEndOf_1 rfl (lv_at hl 1 rfl) ?_
  obtain ⟨b3, hv, hf⟩ := ob_s hf
  obtain ⟨e9, hk9⟩ := oK_of hv
  cases e9
  obtain ⟨r1, s2, hv, hf⟩ := ob_p hf
  refine hw_V (b := a0) (ci := 6) (T := TX5) (N := 8) (As := [.int (p1)]) (rest := []) S hKn hRm hD (c_X5_lastGroupOf l D G base E hv) (mo_X5_lastGroupOf hv) hk9 rfl (by decide) gX5_putAtEndOf_X5_lastGroupOf rfl 1 (by decide +kernel) ⟨by rw [hfr]; decide, by rw [hlo]; decide⟩ rfl hl.1 (Nat.le_trans cs_0 (by decide)) rfl dX5_putAtEndOf_2 (fun H locs cells slots hD => ?_)
  refine W.eq (g2 := F0 m 5 ls [.int (r1)]) rfl ?_
  refine hs_istore_n (i := 3) (lv' := [(3, .int (r1)), (0, va_rf ((some a0))), (1, .int (p1)), (2, va_rf (p2))]) hx hb dX5_putAtEndOf_5 rfl hl (by decide) (st_okR (st_okI (st_okR st_ok0))) rfl (fun ls hl => ?_)
  refine hw_aload_n (r := (some a0)) hx hb dX5_putAtEndOf_6 rfl (lv_at hl 1 rfl) ?_
  refine lv_iload_n hx hb dX5_putAtEndOf_7 rfl (lv_at hl 0 rfl) ?_
  obtain ⟨b6, hv, hf⟩ := ob_s hf
  obtain ⟨e9, hk9⟩ := oK_of hv
  cases e9
  obtain ⟨r4, s5, hv, hf⟩ := ob_p hf
  refine hw_V (b := a0) (ci := 6) (T := TX5) (N := 8) (As := [.int (r1)]) (rest := []) S hKn hRm hD (c_X5_isGroup l D G base E hv) (mo_X5_isGroup hv) hk9 rfl (by decide) gX5_putAtEndOf_X5_isGroup rfl 1 (by decide +kernel) ⟨by rw [hfr]; decide, by rw [hlo]; decide⟩ rfl hl.1 (Nat.le_trans cs_0 (by decide)) rfl dX5_putAtEndOf_8 (fun H locs cells slots hD => ?_)
  refine W.eq (g2 := F0 m 11 ls [.int (r4)]) rfl ?_
  refine lv_if_eq (tgt := 57) hx hb dX5_putAtEndOf_11 (by decide) (fun hc => ?_) (fun hc => ?_)
  · rw [if_pos hc] at hf
    exact hB57 (some a0) p1 p2 r1 _ _ _ _ _ _ hD (lv_sub hl [1, 2, 3, 0] rfl) hf
  · rw [if_neg hc] at hf
    refine hw_aload_n (r := (some a0)) hx hb dX5_putAtEndOf_14 rfl (lv_at hl 1 rfl) ?_
    obtain ⟨x7, hv, hf⟩ := ob_s hf
    refine hw_gr (C := RX5) (T := TX5) (N := 8) (ref := "SolidGroups") S hKn hD hv rfl (by decide) (by decide) rfl inX5 wd0 (fun _ h9 => h9) dX5_putAtEndOf_15 ?_
    refine lv_iload_n hx hb dX5_putAtEndOf_18 rfl (lv_at hl 0 rfl) ?_
    obtain ⟨b10, hv, hf⟩ := ob_s hf
    obtain ⟨e9, hk9⟩ := oK_of hv
    cases e9
    obtain ⟨r8, s9, hv, hf⟩ := ob_p hf
    refine hw_V (b := b10) (ci := 0) (T := TJx4a65c) (N := 3) (As := [.int (r1)]) (rest := []) S hKn hRm hD (c_Jx4a65c_get_915e3 l D G base E hv) (mo_Jx4a65c_get_915e3 hv) hk9 rfl (by decide) gX5_putAtEndOf_Jx4a65c_get_915e3 rfl 1 (by decide +kernel) ⟨by rw [hfr]; decide, by rw [hlo]; decide⟩ rfl hl.1 (Nat.le_trans cs_0 (by decide)) rfl dX5_putAtEndOf_19 (fun H locs cells slots hD => ?_)
    refine W.eq (g2 := F0 m 22 ls [va_rf (r8)]) rfl ?_
    obtain ⟨u11, hv, hf⟩ := ob_s hf
    refine hw_ca (C := RX2) (T := TX2) (N := 4) S hKn hD hv rfl (by decide) wd1 dX5_putAtEndOf_22 ?_
    refine hs_astore (i := 4) (lv' := [(4, va_rf (r8)), (3, .int (r1)), (0, va_rf ((some a0))), (1, .int (p1)), (2, va_rf (p2))]) hx hb dX5_putAtEndOf_25 hl (by decide) (st_okI (st_okR (st_okI (st_okR st_ok0)))) rfl (fun ls hl => ?_)
    refine hw_aload (r := r8) hx hb dX5_putAtEndOf_27 (lv_at hl 0 rfl) ?_
    obtain ⟨b14, hv, hf⟩ := ob_s hf
    obtain ⟨e9, hk9⟩ := oK_of hv
    cases e9
    obtain ⟨r12, s13, hv, hf⟩ := ob_p hf
    refine hw_V (b := b14) (ci := 3) (T := TX2) (N := 4) (As := []) (rest := []) S hKn hRm hD (c_X2_byteCount l D G base E hv) (mo_X2_byteCount hv) hk9 rfl (by decide) gX5_putAtEndOf_X2_byteCount rfl 0 (by decide +kernel) ⟨by rw [hfr]; decide, by rw [hlo]; decide⟩ rfl hl.1 (Nat.le_trans cs_0 (by decide)) rfl dX5_putAtEndOf_29 (fun H locs cells slots hD => ?_)
    refine W.eq (g2 := F0 m 32 ls [.int (r12)]) rfl ?_
    refine hw_aload_n (r := p2) hx hb dX5_putAtEndOf_32 rfl (lv_at hl 4 rfl) ?_
    obtain ⟨x15, hv, hf⟩ := ob_s hf
    refine hw_gi (C := RX1) (T := TX1) (N := 6) (ref := "SolidGroups$Entry") S hKn hD hv rfl (by decide) (by decide) rfl inX1 wd2 (fun _ h9 => h9) dX5_putAtEndOf_33 ?_
    refine lv_iadd hx hb dX5_putAtEndOf_36 ?_
    refine hw_aload_n (r := (some a0)) hx hb dX5_putAtEndOf_37 rfl (lv_at hl 2 rfl) ?_
    obtain ⟨x16, hv, hf⟩ := ob_s hf
    refine hw_gi (C := RX5) (T := TX5) (N := 8) (ref := "SolidGroups") S hKn hD hv rfl (by decide) (by decide) rfl inX5 wd3 (fun _ h9 => h9) dX5_putAtEndOf_38 ?_
    refine lv_icmp_gt (tgt := 57) hx hb dX5_putAtEndOf_41 (by decide) (fun hc => ?_) (fun hc => ?_)
    · rw [if_pos hc] at hf
      exact hB57 (some a0) p1 p2 r1 _ _ _ _ _ _ hD (lv_sub hl [2, 3, 4, 1] rfl) hf
    · rw [if_neg hc] at hf
      refine hw_aload (r := (some b14)) hx hb dX5_putAtEndOf_44 (lv_at hl 0 rfl) ?_
      obtain ⟨x17, hv, hf⟩ := ob_s hf
      refine hw_gr (C := RX2) (T := TX2) (N := 4) (ref := "SolidGroups$Group") S hKn hD hv rfl (by decide) (by decide) rfl inX2 wd4 (fun _ h9 => h9) dX5_putAtEndOf_46 ?_
      refine hw_aload_n (r := p2) hx hb dX5_putAtEndOf_49 rfl (lv_at hl 4 rfl) ?_
      obtain ⟨b20, hv, hf⟩ := ob_s hf
      obtain ⟨e9, hk9⟩ := oK_of hv
      cases e9
      obtain ⟨r18, s19, hv, hf⟩ := ob_p hf
      refine hw_V (b := b20) (ci := 0) (T := TJx4a65c) (N := 3) (As := [va_rf (p2)]) (rest := []) S hKn hRm hD (c_Jx4a65c_add_9ea2d l D G base E hv) (mo_Jx4a65c_add_9ea2d hv) hk9 rfl (by decide) gX5_putAtEndOf_Jx4a65c_add_9ea2d rfl 1 (by decide +kernel) ⟨by rw [hfr]; decide, by rw [hlo]; decide⟩ rfl hl.1 (Nat.le_trans cs_0 (by decide)) rfl dX5_putAtEndOf_50 (fun H locs cells slots hD => ?_)
      refine W.eq (g2 := F0 m 53 ls [.int (r18)]) rfl ?_
      refine lv_pop hx hb dX5_putAtEndOf_53 rfl ?_
      refine hw_aload (r := (some b14)) hx hb dX5_putAtEndOf_54 (lv_at hl 0 rfl) ?_
      obtain ⟨e1, e2⟩ := ret_eq hf
      rw [hQ, ← e1, ← e2]
      exact hw_aret S hlk hret (Or.inl ⟨_, rfl⟩) hD dX5_putAtEndOf_56
set_option maxHeartbeats 4000000 in
set_option maxRecDepth 100000 in
theorem c_X5_leastTwinOf (l : Launch) (D : va_G) (G : GC) (base : Nat) (E : PE) {a0 : Nat} {p1 : Int32} {σ0 τ : PS} {rv : Int32} (hF : f_X5_leastTwinOf E (some a0) p1 σ0 = some (rv, τ)) : Ct l D G base E yX5_leastTwinOf wsX5_leastTwinOf 3 64 ([.ref a0, .int (p1)] : List Value) σ0 (some (.int rv)) τ := by
  obtain ⟨hf, hmo⟩ := oM_of hF
  refine Ct.of (own := RX5) [1, 1] (by decide) rfl rfl hmo (ct_R (ct_I ct_0)) (by decide) ?_
  intro p e s m below meth c R Q ls H locs cells slots S hKn hRm hfr hlo hlk hret hnm hQ hD hl
  have hx := S.1
  have hb := S.2.1
  have hts := S.2.2.2.2
  have inX5 : ∀ w ∈ u_ws RX5 TX5 8, w ∈ wsX5_leastTwinOf := by decide +kernel
  have inX1 : ∀ w ∈ u_ws RX1 TX1 6, w ∈ wsX5_leastTwinOf := by decide +kernel
  have wd0 := hts (.fieldLink RX5 10 "SolidGroups" "entries" "Ljava/util/ArrayList;") (by decide +kernel)
  have wd1 := hts (.classLink RX5 55 "SolidGroups$Entry") (by decide +kernel)
  have wd2 := hts (.fieldLink RX5 139 "SolidGroups$Entry" "twinOf" "I") (by decide +kernel)
  have hB38 : ∀ (k2 : Option Nat → Int32 → Int32 → PS → Option (Int32 × PS)) (hk2 : ∀ (z0 : Option Nat) (z1 : Int32) (z2 : Int32) (σ : PS) (H : Heap) (locs : List Loc) (cells slots : Nat) (ls : Array Slot), Dy D G base E s.heap σ0 σ H locs cells slots → lv_has ls 3 [(0, va_rf (z0)), (1, .int (z1)), (2, .int (z2))] → k2 z0 z1 z2 σ = some (rv, τ) → W p l e R s m ([.ref a0, .int (p1)] : List Value).toArray below meth c H locs cells slots Q (F0 m 2 ls [])), ∀ (v0 : Option Nat) (v1 : Int32) (v2 : Int32) (σ : PS) (H : Heap) (locs : List Loc) (cells slots : Nat) (ls : Array Slot), Dy D G base E s.heap σ0 σ H locs cells slots → lv_has ls 3 [(0, va_rf (v0)), (1, .int (v1)), (2, .int (v2))] → f_X5_leastTwinOf_B38 E k2 v0 v1 v2 σ = some (rv, τ) → W p l e R s m ([.ref a0, .int (p1)] : List Value).toArray below meth c H locs cells slots Q (F0 m 38 ls []) := by
    intro k2 hk2 v0 v1 v2 σ H locs cells slots ls hD hl hf
    unfold f_X5_leastTwinOf_B38 at hf
    refine hs_iinc (i := 2) (k := 2) (v := v2 + 1) (lv' := [(2, .int (v2 + 1)), (0, va_rf (v0)), (1, .int (v1))]) hx hb dX5_leastTwinOf_38 hl rfl (congrArg (fun z => v2 + z) (by decide)) (by decide) (st_okR (st_okI (st_okI st_ok0))) rfl (fun ls hl => ?_)
    refine lv_goto (tgt := 2) hx hb dX5_leastTwinOf_41 (by decide) ?_
    exact hk2 v0 v1 (v2 + 1) _ _ _ _ _ _ hD (lv_sub hl [1, 2, 0] rfl) hf
  have hL2 : ∀ (n : Nat), ∀ (v0 : Option Nat) (v1 : Int32) (v2 : Int32) (σ : PS) (H : Heap) (locs : List Loc) (cells slots : Nat) (ls : Array Slot), Dy D G base E s.heap σ0 σ H locs cells slots → lv_has ls 3 [(0, va_rf (v0)), (1, .int (v1)), (2, .int (v2))] → f_X5_leastTwinOf_L2 E n v0 v1 v2 σ = some (rv, τ) → W p l e R s m ([.ref a0, .int (p1)] : List Value).toArray below meth c H locs cells slots Q (F0 m 2 ls []) := by
    intro n
    induction n with
    | zero =>
      intro v0 v1 v2 σ H locs cells slots ls hD hl hf
      rw [f_X5_leastTwinOf_L2] at hf
      cases hf
    | succ n ih =>
      intro v0 v1 v2 σ H locs cells slots ls hD hl hf
      rw [f_X5_leastTwinOf_L2] at hf
      refine lv_iload_n hx hb dX5_leastTwinOf_2 rfl (lv_at hl 2 rfl) ?_
      refine hw_aload_n (r := v0) hx hb dX5_leastTwinOf_3 rfl (lv_at hl 0 rfl) ?_
      obtain ⟨x1, hv, hf⟩ := ob_s hf
      refine hw_gr (C := RX5) (T := TX5) (N := 8) (ref := "SolidGroups") S hKn hD hv rfl (by decide) (by decide) rfl inX5 wd0 (fun _ h9 => h9) dX5_leastTwinOf_4 ?_
      obtain ⟨b4, hv, hf⟩ := ob_s hf
      obtain ⟨e9, hk9⟩ := oK_of hv
      cases e9
      obtain ⟨r2, s3, hv, hf⟩ := ob_p hf
      refine hw_V (b := b4) (ci := 0) (T := TJx4a65c) (N := 3) (As := []) (rest := [.int (v2)]) S hKn hRm hD (c_Jx4a65c_size_8abf5 l D G base E hv) (mo_Jx4a65c_size_8abf5 hv) hk9 rfl (by decide) gX5_leastTwinOf_Jx4a65c_size_8abf5 rfl 0 (by decide +kernel) ⟨by rw [hfr]; decide, by rw [hlo]; decide⟩ rfl hl.1 (Nat.le_trans (cs_I cs_0) (by decide)) rfl dX5_leastTwinOf_7 (fun H locs cells slots hD => ?_)
      refine W.eq (g2 := F0 m 10 ls [.int (r2), .int (v2)]) rfl ?_
      refine lv_icmp_ge (tgt := 44) hx hb dX5_leastTwinOf_10 (by decide) (fun hc => ?_) (fun hc => ?_)
      · rw [if_pos hc] at hf
        refine lv_iconst (v := (-1)) hx hb dX5_leastTwinOf_44 (by decide) ?_
        obtain ⟨e1, e2⟩ := ret_eq hf
        rw [hQ, ← e1, ← e2]
        exact hw_iret S hlk hret rfl hD dX5_leastTwinOf_45
      · rw [if_neg hc] at hf
        refine lv_iload_n hx hb dX5_leastTwinOf_13 rfl (lv_at hl 2 rfl) ?_
        refine lv_iload_n hx hb dX5_leastTwinOf_14 rfl (lv_at hl 1 rfl) ?_
        refine lv_icmp_eq (tgt := 38) hx hb dX5_leastTwinOf_15 (by decide) (fun hc => ?_) (fun hc => ?_)
        · rw [if_pos hc] at hf
          exact hB38 _ ih v0 v1 v2 _ _ _ _ _ _ hD (lv_sub hl [0, 1, 2] rfl) hf
        · rw [if_neg hc] at hf
          refine hw_aload_n (r := v0) hx hb dX5_leastTwinOf_18 rfl (lv_at hl 0 rfl) ?_
          obtain ⟨x5, hv, hf⟩ := ob_s hf
          refine hw_gr (C := RX5) (T := TX5) (N := 8) (ref := "SolidGroups") S hKn hD hv rfl (by decide) (by decide) rfl inX5 wd0 (fun _ h9 => h9) dX5_leastTwinOf_19 ?_
          refine lv_iload_n hx hb dX5_leastTwinOf_22 rfl (lv_at hl 2 rfl) ?_
          obtain ⟨b8, hv, hf⟩ := ob_s hf
          obtain ⟨e9, hk9⟩ := oK_of hv
          cases e9
          obtain ⟨r6, s7, hv, hf⟩ := ob_p hf
          refine hw_V (b := b8) (ci := 0) (T := TJx4a65c) (N := 3) (As := [.int (v2)]) (rest := []) S hKn hRm hD (c_Jx4a65c_get_915e3 l D G base E hv) (mo_Jx4a65c_get_915e3 hv) hk9 rfl (by decide) gX5_leastTwinOf_Jx4a65c_get_915e3 rfl 1 (by decide +kernel) ⟨by rw [hfr]; decide, by rw [hlo]; decide⟩ rfl hl.1 (Nat.le_trans cs_0 (by decide)) rfl dX5_leastTwinOf_23 (fun H locs cells slots hD => ?_)
          refine W.eq (g2 := F0 m 26 ls [va_rf (r6)]) rfl ?_
          obtain ⟨u9, hv, hf⟩ := ob_s hf
          refine hw_ca (C := RX1) (T := TX1) (N := 6) S hKn hD hv rfl (by decide) wd1 dX5_leastTwinOf_26 ?_
          obtain ⟨x10, hv, hf⟩ := ob_s hf
          refine hw_gi (C := RX1) (T := TX1) (N := 6) (ref := "SolidGroups$Entry") S hKn hD hv rfl (by decide) (by decide) rfl inX1 wd2 (fun _ h9 => h9) dX5_leastTwinOf_29 ?_
          refine lv_iload_n hx hb dX5_leastTwinOf_32 rfl (lv_at hl 1 rfl) ?_
          refine lv_icmp_ne (tgt := 38) hx hb dX5_leastTwinOf_33 (by decide) (fun hc => ?_) (fun hc => ?_)
          · rw [if_neg hc] at hf
            exact hB38 _ ih v0 v1 v2 _ _ _ _ _ _ hD (lv_sub hl [0, 1, 2] rfl) hf
          · rw [if_pos hc] at hf
            refine lv_iload_n hx hb dX5_leastTwinOf_36 rfl (lv_at hl 2 rfl) ?_
            obtain ⟨e1, e2⟩ := ret_eq hf
            rw [hQ, ← e1, ← e2]
            exact hw_iret S hlk hret rfl hD dX5_leastTwinOf_37
  have hl : lv_has ls 3 [(0, va_rf (some a0)), (1, .int (p1))] := hl
  unfold g_X5_leastTwinOf at hf
  refine lv_iconst (v := (0)) hx hb dX5_leastTwinOf_0 (by decide) ?_
  refine hs_istore_n (i := 2) (lv' := [(2, .int ((0 : Int32))), (0, va_rf ((some a0))), (1, .int (p1))]) hx hb dX5_leastTwinOf_1 rfl hl (by decide) (st_okR (st_okI st_ok0)) rfl (fun ls hl => ?_)
  exact hL2 _ (some a0) p1 (0 : Int32) _ _ _ _ _ _ hD (lv_sub hl [1, 2, 0] rfl) hf
set_option maxHeartbeats 4000000 in
set_option maxRecDepth 100000 in
theorem c_X2_indexOf (l : Launch) (D : va_G) (G : GC) (base : Nat) (E : PE) {a0 : Nat} {p1 : Int32} {σ0 τ : PS} {rv : Int32} (hF : f_X2_indexOf E (some a0) p1 σ0 = some (rv, τ)) : Ct l D G base E yX2_indexOf wsX2_indexOf 3 64 ([.ref a0, .int (p1)] : List Value) σ0 (some (.int rv)) τ := by
  obtain ⟨hf, hmo⟩ := oM_of hF
  refine Ct.of (own := RX2) [1, 1] (by decide) rfl rfl hmo (ct_R (ct_I ct_0)) (by decide) ?_
  intro p e s m below meth c R Q ls H locs cells slots S hKn hRm hfr hlo hlk hret hnm hQ hD hl
  have hx := S.1
  have hb := S.2.1
  have hts := S.2.2.2.2
  have inX2 : ∀ w ∈ u_ws RX2 TX2 4, w ∈ wsX2_indexOf := by decide +kernel
  have inX1 : ∀ w ∈ u_ws RX1 TX1 6, w ∈ wsX2_indexOf := by decide +kernel
  have wd0 := hts (.fieldLink RX2 12 "SolidGroups$Group" "members" "Ljava/util/ArrayList;") (by decide +kernel)
  have wd1 := hts (.classLink RX2 48 "SolidGroups$Entry") (by decide +kernel)
  have wd2 := hts (.fieldLink RX2 50 "SolidGroups$Entry" "number" "I") (by decide +kernel)
  have hL2 : ∀ (n : Nat), ∀ (v0 : Option Nat) (v1 : Int32) (v2 : Int32) (σ : PS) (H : Heap) (locs : List Loc) (cells slots : Nat) (ls : Array Slot), Dy D G base E s.heap σ0 σ H locs cells slots → lv_has ls 3 [(0, va_rf (v0)), (1, .int (v1)), (2, .int (v2))] → f_X2_indexOf_L2 E n v0 v1 v2 σ = some (rv, τ) → W p l e R s m ([.ref a0, .int (p1)] : List Value).toArray below meth c H locs cells slots Q (F0 m 2 ls []) := by
    intro n
    induction n with
    | zero =>
      intro v0 v1 v2 σ H locs cells slots ls hD hl hf
      rw [f_X2_indexOf_L2] at hf
      cases hf
    | succ n ih =>
      intro v0 v1 v2 σ H locs cells slots ls hD hl hf
      rw [f_X2_indexOf_L2] at hf
      refine lv_iload_n hx hb dX2_indexOf_2 rfl (lv_at hl 2 rfl) ?_
      refine hw_aload_n (r := v0) hx hb dX2_indexOf_3 rfl (lv_at hl 0 rfl) ?_
      obtain ⟨x1, hv, hf⟩ := ob_s hf
      refine hw_gr (C := RX2) (T := TX2) (N := 4) (ref := "SolidGroups$Group") S hKn hD hv rfl (by decide) (by decide) rfl inX2 wd0 (fun _ h9 => h9) dX2_indexOf_4 ?_
      obtain ⟨b4, hv, hf⟩ := ob_s hf
      obtain ⟨e9, hk9⟩ := oK_of hv
      cases e9
      obtain ⟨r2, s3, hv, hf⟩ := ob_p hf
      refine hw_V (b := b4) (ci := 0) (T := TJx4a65c) (N := 3) (As := []) (rest := [.int (v2)]) S hKn hRm hD (c_Jx4a65c_size_8abf5 l D G base E hv) (mo_Jx4a65c_size_8abf5 hv) hk9 rfl (by decide) gX2_indexOf_Jx4a65c_size_8abf5 rfl 0 (by decide +kernel) ⟨by rw [hfr]; decide, by rw [hlo]; decide⟩ rfl hl.1 (Nat.le_trans (cs_I cs_0) (by decide)) rfl dX2_indexOf_7 (fun H locs cells slots hD => ?_)
      refine W.eq (g2 := F0 m 10 ls [.int (r2), .int (v2)]) rfl ?_
      refine lv_icmp_ge (tgt := 39) hx hb dX2_indexOf_10 (by decide) (fun hc => ?_) (fun hc => ?_)
      · rw [if_pos hc] at hf
        refine lv_iconst (v := (-1)) hx hb dX2_indexOf_39 (by decide) ?_
        obtain ⟨e1, e2⟩ := ret_eq hf
        rw [hQ, ← e1, ← e2]
        exact hw_iret S hlk hret rfl hD dX2_indexOf_40
      · rw [if_neg hc] at hf
        refine hw_aload_n (r := v0) hx hb dX2_indexOf_13 rfl (lv_at hl 0 rfl) ?_
        obtain ⟨x5, hv, hf⟩ := ob_s hf
        refine hw_gr (C := RX2) (T := TX2) (N := 4) (ref := "SolidGroups$Group") S hKn hD hv rfl (by decide) (by decide) rfl inX2 wd0 (fun _ h9 => h9) dX2_indexOf_14 ?_
        refine lv_iload_n hx hb dX2_indexOf_17 rfl (lv_at hl 2 rfl) ?_
        obtain ⟨b8, hv, hf⟩ := ob_s hf
        obtain ⟨e9, hk9⟩ := oK_of hv
        cases e9
        obtain ⟨r6, s7, hv, hf⟩ := ob_p hf
        refine hw_V (b := b8) (ci := 0) (T := TJx4a65c) (N := 3) (As := [.int (v2)]) (rest := []) S hKn hRm hD (c_Jx4a65c_get_915e3 l D G base E hv) (mo_Jx4a65c_get_915e3 hv) hk9 rfl (by decide) gX2_indexOf_Jx4a65c_get_915e3 rfl 1 (by decide +kernel) ⟨by rw [hfr]; decide, by rw [hlo]; decide⟩ rfl hl.1 (Nat.le_trans cs_0 (by decide)) rfl dX2_indexOf_18 (fun H locs cells slots hD => ?_)
        refine W.eq (g2 := F0 m 21 ls [va_rf (r6)]) rfl ?_
        obtain ⟨u9, hv, hf⟩ := ob_s hf
        refine hw_ca (C := RX1) (T := TX1) (N := 6) S hKn hD hv rfl (by decide) wd1 dX2_indexOf_21 ?_
        obtain ⟨x10, hv, hf⟩ := ob_s hf
        refine hw_gi (C := RX1) (T := TX1) (N := 6) (ref := "SolidGroups$Entry") S hKn hD hv rfl (by decide) (by decide) rfl inX1 wd2 (fun _ h9 => h9) dX2_indexOf_24 ?_
        refine lv_iload_n hx hb dX2_indexOf_27 rfl (lv_at hl 1 rfl) ?_
        refine lv_icmp_ne (tgt := 33) hx hb dX2_indexOf_28 (by decide) (fun hc => ?_) (fun hc => ?_)
        · rw [if_neg hc] at hf
          refine hs_iinc (i := 2) (k := 2) (v := v2 + 1) (lv' := [(2, .int (v2 + 1)), (0, va_rf (v0)), (1, .int (v1))]) hx hb dX2_indexOf_33 hl rfl (congrArg (fun z => v2 + z) (by decide)) (by decide) (st_okR (st_okI (st_okI st_ok0))) rfl (fun ls hl => ?_)
          refine lv_goto (tgt := 2) hx hb dX2_indexOf_36 (by decide) ?_
          exact ih v0 v1 (v2 + 1) _ _ _ _ _ _ hD (lv_sub hl [1, 2, 0] rfl) hf
        · rw [if_pos hc] at hf
          refine lv_iload_n hx hb dX2_indexOf_31 rfl (lv_at hl 2 rfl) ?_
          obtain ⟨e1, e2⟩ := ret_eq hf
          rw [hQ, ← e1, ← e2]
          exact hw_iret S hlk hret rfl hD dX2_indexOf_32
  have hl : lv_has ls 3 [(0, va_rf (some a0)), (1, .int (p1))] := hl
  unfold g_X2_indexOf at hf
  refine lv_iconst (v := (0)) hx hb dX2_indexOf_0 (by decide) ?_
  refine hs_istore_n (i := 2) (lv' := [(2, .int ((0 : Int32))), (0, va_rf ((some a0))), (1, .int (p1))]) hx hb dX2_indexOf_1 rfl hl (by decide) (st_okR (st_okI st_ok0)) rfl (fun ls hl => ?_)
  exact hL2 _ (some a0) p1 (0 : Int32) _ _ _ _ _ _ hD (lv_sub hl [1, 2, 0] rfl) hf
set_option maxHeartbeats 4000000 in
set_option maxRecDepth 100000 in
theorem c_X5_groupNumberOf (l : Launch) (D : va_G) (G : GC) (base : Nat) (E : PE) {a0 : Nat} {p1 : Int32} {σ0 τ : PS} {rv : Int32} (hF : f_X5_groupNumberOf E (some a0) p1 σ0 = some (rv, τ)) : Ct l D G base E yX5_groupNumberOf wsX5_groupNumberOf 4 86 ([.ref a0, .int (p1)] : List Value) σ0 (some (.int rv)) τ := by
  obtain ⟨hf, hmo⟩ := oM_of hF
  refine Ct.of (own := RX5) [1, 1] (by decide) rfl rfl hmo (ct_R (ct_I ct_0)) (by decide) ?_
  intro p e s m below meth c R Q ls H locs cells slots S hKn hRm hfr hlo hlk hret hnm hQ hD hl
  have hx := S.1
  have hb := S.2.1
  have hts := S.2.2.2.2
  have inX5 : ∀ w ∈ u_ws RX5 TX5 8, w ∈ wsX5_groupNumberOf := by decide +kernel
  have wd0 := hts (.fieldLink RX5 16 "SolidGroups" "groups" "Ljava/util/ArrayList;") (by decide +kernel)
  have wd1 := hts (.classLink RX5 110 RX2) (by decide +kernel)
  have hL2 : ∀ (n : Nat), ∀ (v0 : Option Nat) (v1 : Int32) (v2 : Int32) (σ : PS) (H : Heap) (locs : List Loc) (cells slots : Nat) (ls : Array Slot), Dy D G base E s.heap σ0 σ H locs cells slots → lv_has ls 3 [(0, va_rf (v0)), (1, .int (v1)), (2, .int (v2))] → f_X5_groupNumberOf_L2 E n v0 v1 v2 σ = some (rv, τ) → W p l e R s m ([.ref a0, .int (p1)] : List Value).toArray below meth c H locs cells slots Q (F0 m 2 ls []) := by
    intro n
    induction n with
    | zero =>
      intro v0 v1 v2 σ H locs cells slots ls hD hl hf
      rw [f_X5_groupNumberOf_L2] at hf
      cases hf
    | succ n ih =>
      intro v0 v1 v2 σ H locs cells slots ls hD hl hf
      rw [f_X5_groupNumberOf_L2] at hf
      refine lv_iload_n hx hb dX5_groupNumberOf_2 rfl (lv_at hl 2 rfl) ?_
      refine hw_aload_n (r := v0) hx hb dX5_groupNumberOf_3 rfl (lv_at hl 0 rfl) ?_
      obtain ⟨x1, hv, hf⟩ := ob_s hf
      refine hw_gr (C := RX5) (T := TX5) (N := 8) (ref := "SolidGroups") S hKn hD hv rfl (by decide) (by decide) rfl inX5 wd0 (fun _ h9 => h9) dX5_groupNumberOf_4 ?_
      obtain ⟨b4, hv, hf⟩ := ob_s hf
      obtain ⟨e9, hk9⟩ := oK_of hv
      cases e9
      obtain ⟨r2, s3, hv, hf⟩ := ob_p hf
      refine hw_V (b := b4) (ci := 0) (T := TJx4a65c) (N := 3) (As := []) (rest := [.int (v2)]) S hKn hRm hD (c_Jx4a65c_size_8abf5 l D G base E hv) (mo_Jx4a65c_size_8abf5 hv) hk9 rfl (by decide) gX5_groupNumberOf_Jx4a65c_size_8abf5 rfl 0 (by decide +kernel) ⟨by rw [hfr]; decide, by rw [hlo]; decide⟩ rfl hl.1 (Nat.le_trans (cs_I cs_0) (by decide)) rfl dX5_groupNumberOf_7 (fun H locs cells slots hD => ?_)
      refine W.eq (g2 := F0 m 10 ls [.int (r2), .int (v2)]) rfl ?_
      refine lv_icmp_ge (tgt := 40) hx hb dX5_groupNumberOf_10 (by decide) (fun hc => ?_) (fun hc => ?_)
      · rw [if_pos hc] at hf
        refine lv_iconst (v := (-1)) hx hb dX5_groupNumberOf_40 (by decide) ?_
        obtain ⟨e1, e2⟩ := ret_eq hf
        rw [hQ, ← e1, ← e2]
        exact hw_iret S hlk hret rfl hD dX5_groupNumberOf_41
      · rw [if_neg hc] at hf
        refine hw_aload_n (r := v0) hx hb dX5_groupNumberOf_13 rfl (lv_at hl 0 rfl) ?_
        obtain ⟨x5, hv, hf⟩ := ob_s hf
        refine hw_gr (C := RX5) (T := TX5) (N := 8) (ref := "SolidGroups") S hKn hD hv rfl (by decide) (by decide) rfl inX5 wd0 (fun _ h9 => h9) dX5_groupNumberOf_14 ?_
        refine lv_iload_n hx hb dX5_groupNumberOf_17 rfl (lv_at hl 2 rfl) ?_
        obtain ⟨b8, hv, hf⟩ := ob_s hf
        obtain ⟨e9, hk9⟩ := oK_of hv
        cases e9
        obtain ⟨r6, s7, hv, hf⟩ := ob_p hf
        refine hw_V (b := b8) (ci := 0) (T := TJx4a65c) (N := 3) (As := [.int (v2)]) (rest := []) S hKn hRm hD (c_Jx4a65c_get_915e3 l D G base E hv) (mo_Jx4a65c_get_915e3 hv) hk9 rfl (by decide) gX5_groupNumberOf_Jx4a65c_get_915e3 rfl 1 (by decide +kernel) ⟨by rw [hfr]; decide, by rw [hlo]; decide⟩ rfl hl.1 (Nat.le_trans cs_0 (by decide)) rfl dX5_groupNumberOf_18 (fun H locs cells slots hD => ?_)
        refine W.eq (g2 := F0 m 21 ls [va_rf (r6)]) rfl ?_
        obtain ⟨u9, hv, hf⟩ := ob_s hf
        refine hw_ca (C := RX2) (T := TX2) (N := 4) S hKn hD hv rfl (by decide) wd1 dX5_groupNumberOf_21 ?_
        refine lv_iload_n hx hb dX5_groupNumberOf_24 rfl (lv_at hl 1 rfl) ?_
        obtain ⟨b12, hv, hf⟩ := ob_s hf
        obtain ⟨e9, hk9⟩ := oK_of hv
        cases e9
        obtain ⟨r10, s11, hv, hf⟩ := ob_p hf
        refine hw_V (b := b12) (ci := 3) (T := TX2) (N := 4) (As := [.int (v1)]) (rest := []) S hKn hRm hD (c_X2_indexOf l D G base E hv) (mo_X2_indexOf hv) hk9 rfl (by decide) gX5_groupNumberOf_X2_indexOf rfl 1 (by decide +kernel) ⟨by rw [hfr]; decide, by rw [hlo]; decide⟩ rfl hl.1 (Nat.le_trans cs_0 (by decide)) rfl dX5_groupNumberOf_25 (fun H locs cells slots hD => ?_)
        refine W.eq (g2 := F0 m 28 ls [.int (r10)]) rfl ?_
        refine lv_iconst (v := (-1)) hx hb dX5_groupNumberOf_28 (by decide) ?_
        refine lv_icmp_eq (tgt := 34) hx hb dX5_groupNumberOf_29 (by decide) (fun hc => ?_) (fun hc => ?_)
        · rw [if_pos hc] at hf
          refine hs_iinc (i := 2) (k := 2) (v := v2 + 1) (lv' := [(2, .int (v2 + 1)), (0, va_rf (v0)), (1, .int (v1))]) hx hb dX5_groupNumberOf_34 hl rfl (congrArg (fun z => v2 + z) (by decide)) (by decide) (st_okR (st_okI (st_okI st_ok0))) rfl (fun ls hl => ?_)
          refine lv_goto (tgt := 2) hx hb dX5_groupNumberOf_37 (by decide) ?_
          exact ih v0 v1 (v2 + 1) _ _ _ _ _ _ hD (lv_sub hl [1, 2, 0] rfl) hf
        · rw [if_neg hc] at hf
          refine lv_iload_n hx hb dX5_groupNumberOf_32 rfl (lv_at hl 2 rfl) ?_
          obtain ⟨e1, e2⟩ := ret_eq hf
          rw [hQ, ← e1, ← e2]
          exact hw_iret S hlk hret rfl hD dX5_groupNumberOf_33
  have hl : lv_has ls 3 [(0, va_rf (some a0)), (1, .int (p1))] := hl
  unfold g_X5_groupNumberOf at hf
  refine lv_iconst (v := (0)) hx hb dX5_groupNumberOf_0 (by decide) ?_
  refine hs_istore_n (i := 2) (lv' := [(2, .int ((0 : Int32))), (0, va_rf ((some a0))), (1, .int (p1))]) hx hb dX5_groupNumberOf_1 rfl hl (by decide) (st_okR (st_okI st_ok0)) rfl (fun ls hl => ?_)
  exact hL2 _ (some a0) p1 (0 : Int32) _ _ _ _ _ _ hD (lv_sub hl [1, 2, 0] rfl) hf
set_option maxHeartbeats 4000000 in
set_option maxRecDepth 100000 in
theorem c_Jx4a65c_set_bcc79 (l : Launch) (D : va_G) (G : GC) (base : Nat) (E : PE) {a0 : Nat} {p1 : Int32} {p2 : Option Nat} {σ0 τ : PS} {rv : Option Nat} (hF : f_Jx4a65c_set_bcc79 E (some a0) p1 p2 σ0 = some (rv, τ)) : Ct l D G base E yJx4a65c_set_bcc79 wsJx4a65c_set_bcc79 2 43 ([.ref a0, .int (p1), va_rf (p2)] : List Value) σ0 (some (va_rf rv)) τ := by
  obtain ⟨hf, hmo⟩ := oM_of hF
  refine Ct.of (own := RJx4a65c) [1, 1, 1] (by decide) rfl rfl hmo (ct_R (ct_I (ct_A ct_0))) (by decide) ?_
  intro p e s m below meth c R Q ls H locs cells slots S hKn hRm hfr hlo hlk hret hnm hQ hD hl
  have hx := S.1
  have hb := S.2.1
  have hts := S.2.2.2.2
  have inJx4a65c : ∀ w ∈ u_ws RJx4a65c TJx4a65c 3, w ∈ wsJx4a65c_set_bcc79 := by decide +kernel
  have wd0 := hts (.fieldLink RJx4a65c 48 "java/util/ArrayList" "size" "I") (by decide +kernel)
  have wd1 := hts (.fieldLink RJx4a65c 9 "java/util/ArrayList" "elementData" "[Ljava/lang/Object;") (by decide +kernel)
  have hl : lv_has ls 4 [(0, va_rf (some a0)), (1, .int (p1)), (2, va_rf (p2))] := hl
  unfold g_Jx4a65c_set_bcc79 at hf
  refine lv_iload_n hx hb dJx4a65c_set_bcc79_0 rfl (lv_at hl 1 rfl) ?_
  refine hw_aload_n (r := (some a0)) hx hb dJx4a65c_set_bcc79_1 rfl (lv_at hl 0 rfl) ?_
  obtain ⟨x1, hv, hf⟩ := ob_s hf
  refine hw_gi (C := RJx4a65c) (T := TJx4a65c) (N := 3) (ref := "java/util/ArrayList") S hKn hD hv rfl (by decide) (by decide) rfl inJx4a65c wd0 (fun _ h9 => h9) dJx4a65c_set_bcc79_2 ?_
  obtain ⟨r2, s3, hv, hf⟩ := ob_p hf
  refine hw_S (As := [.int (p1), .int (x1)]) (rest := []) S hKn hRm hD (c_J15_checkIndex_7cf53 l D G base E hv) (mo_J15_checkIndex_7cf53 hv) gJx4a65c_set_bcc79_J15_checkIndex_7cf53 rfl 2 (by decide +kernel) ⟨by rw [hfr]; decide, by rw [hlo]; decide⟩ rfl hl.1 (Nat.le_trans cs_0 (by decide)) rfl dJx4a65c_set_bcc79_5 (fun H locs cells slots hD => ?_)
  refine W.eq (g2 := F0 m 8 ls [.int (r2)]) rfl ?_
  refine lv_pop hx hb dJx4a65c_set_bcc79_8 rfl ?_
  refine hw_aload_n (r := (some a0)) hx hb dJx4a65c_set_bcc79_9 rfl (lv_at hl 0 rfl) ?_
  refine lv_iload_n hx hb dJx4a65c_set_bcc79_10 rfl (lv_at hl 1 rfl) ?_
  obtain ⟨b6, hv, hf⟩ := ob_s hf
  obtain ⟨e9, hk9⟩ := oK_of hv
  cases e9
  obtain ⟨r4, s5, hv, hf⟩ := ob_p hf
  refine hw_V (b := a0) (ci := 0) (T := TJx4a65c) (N := 3) (As := [.int (p1)]) (rest := []) S hKn hRm hD (c_Jx4a65c_elementData_915e3 l D G base E hv) (mo_Jx4a65c_elementData_915e3 hv) hk9 rfl (by decide) gJx4a65c_set_bcc79_Jx4a65c_elementData_915e3 rfl 1 (by decide +kernel) ⟨by rw [hfr]; decide, by rw [hlo]; decide⟩ rfl hl.1 (Nat.le_trans cs_0 (by decide)) rfl dJx4a65c_set_bcc79_11 (fun H locs cells slots hD => ?_)
  refine W.eq (g2 := F0 m 14 ls [va_rf (r4)]) rfl ?_
  refine hs_astore_n (i := 3) (lv' := [(3, va_rf (r4)), (0, va_rf ((some a0))), (1, .int (p1)), (2, va_rf (p2))]) hx hb dJx4a65c_set_bcc79_14 rfl hl (by decide) (st_okR (st_okI (st_okR st_ok0))) rfl (fun ls hl => ?_)
  refine hw_aload_n (r := (some a0)) hx hb dJx4a65c_set_bcc79_15 rfl (lv_at hl 1 rfl) ?_
  obtain ⟨x7, hv, hf⟩ := ob_s hf
  refine hw_gr (C := RJx4a65c) (T := TJx4a65c) (N := 3) (ref := "java/util/ArrayList") S hKn hD hv rfl (by decide) (by decide) rfl inJx4a65c wd1 (fun _ h9 => h9) dJx4a65c_set_bcc79_16 ?_
  refine lv_iload_n hx hb dJx4a65c_set_bcc79_19 rfl (lv_at hl 2 rfl) ?_
  refine hw_aload_n (r := p2) hx hb dJx4a65c_set_bcc79_20 rfl (lv_at hl 3 rfl) ?_
  obtain ⟨s8, hv, hf⟩ := ob_s hf
  refine hw_qs S hKn hD hv dJx4a65c_set_bcc79_21 (fun H locs hD => ?_)
  refine hw_aload_n (r := r4) hx hb dJx4a65c_set_bcc79_22 rfl (lv_at hl 0 rfl) ?_
  obtain ⟨e1, e2⟩ := ret_eq hf
  rw [hQ, ← e1, ← e2]
  exact hw_aret S hlk hret (Or.inl ⟨_, rfl⟩) hD dJx4a65c_set_bcc79_23
set_option maxHeartbeats 4000000 in
set_option maxRecDepth 100000 in
theorem c_X2_exchange (l : Launch) (D : va_G) (G : GC) (base : Nat) (E : PE) {a0 : Nat} {p1 : Int32} {p2 : Option Nat} {σ0 τ : PS} {rv : Unit} (hF : f_X2_exchange E (some a0) p1 p2 σ0 = some (rv, τ)) : Ct l D G base E yX2_exchange wsX2_exchange 4 86 ([.ref a0, .int (p1), va_rf (p2)] : List Value) σ0 none τ := by
  obtain ⟨hf, hmo⟩ := oM_of hF
  refine Ct.of (own := RX2) [1, 1, 1] (by decide) rfl rfl hmo (ct_R (ct_I (ct_A ct_0))) (by decide) ?_
  intro p e s m below meth c R Q ls H locs cells slots S hKn hRm hfr hlo hlk hret hnm hQ hD hl
  have hx := S.1
  have hb := S.2.1
  have hts := S.2.2.2.2
  have inX2 : ∀ w ∈ u_ws RX2 TX2 4, w ∈ wsX2_exchange := by decide +kernel
  have wd0 := hts (.fieldLink RX2 12 "SolidGroups$Group" "members" "Ljava/util/ArrayList;") (by decide +kernel)
  have hB21 : ∀ (σ : PS) (H : Heap) (locs : List Loc) (cells slots : Nat) (ls : Array Slot), Dy D G base E s.heap σ0 σ H locs cells slots → lv_has ls 4 [] → f_X2_exchange_B21 E σ = some (rv, τ) → W p l e R s m ([.ref a0, .int (p1), va_rf (p2)] : List Value).toArray below meth c H locs cells slots Q (F0 m 21 ls []) := by
    intro σ H locs cells slots ls hD hl hf
    unfold f_X2_exchange_B21 at hf
    obtain ⟨-, e2⟩ := ret_eq hf
    rw [hQ, ← e2]
    exact hw_vret S hlk hret hD dX2_exchange_21
  have hl : lv_has ls 4 [(0, va_rf (some a0)), (1, .int (p1)), (2, va_rf (p2))] := hl
  unfold g_X2_exchange at hf
  refine hw_aload_n (r := (some a0)) hx hb dX2_exchange_0 rfl (lv_at hl 0 rfl) ?_
  refine lv_iload_n hx hb dX2_exchange_1 rfl (lv_at hl 1 rfl) ?_
  obtain ⟨b3, hv, hf⟩ := ob_s hf
  obtain ⟨e9, hk9⟩ := oK_of hv
  cases e9
  obtain ⟨r1, s2, hv, hf⟩ := ob_p hf
  refine hw_V (b := a0) (ci := 3) (T := TX2) (N := 4) (As := [.int (p1)]) (rest := []) S hKn hRm hD (c_X2_indexOf l D G base E hv) (mo_X2_indexOf hv) hk9 rfl (by decide) gX2_exchange_X2_indexOf rfl 1 (by decide +kernel) ⟨by rw [hfr]; decide, by rw [hlo]; decide⟩ rfl hl.1 (Nat.le_trans cs_0 (by decide)) rfl dX2_exchange_2 (fun H locs cells slots hD => ?_)
  refine W.eq (g2 := F0 m 5 ls [.int (r1)]) rfl ?_
  refine hs_istore_n (i := 3) (lv' := [(3, .int (r1)), (0, va_rf ((some a0))), (1, .int (p1)), (2, va_rf (p2))]) hx hb dX2_exchange_5 rfl hl (by decide) (st_okR (st_okI (st_okR st_ok0))) rfl (fun ls hl => ?_)
  refine lv_iload_n hx hb dX2_exchange_6 rfl (lv_at hl 0 rfl) ?_
  refine lv_iconst (v := (-1)) hx hb dX2_exchange_7 (by decide) ?_
  refine lv_icmp_eq (tgt := 21) hx hb dX2_exchange_8 (by decide) (fun hc => ?_) (fun hc => ?_)
  · rw [if_pos hc] at hf
    exact hB21 _ _ _ _ _ _ hD (lv_sub hl [] rfl) hf
  · rw [if_neg hc] at hf
    refine hw_aload_n (r := (some a0)) hx hb dX2_exchange_11 rfl (lv_at hl 1 rfl) ?_
    obtain ⟨x4, hv, hf⟩ := ob_s hf
    refine hw_gr (C := RX2) (T := TX2) (N := 4) (ref := "SolidGroups$Group") S hKn hD hv rfl (by decide) (by decide) rfl inX2 wd0 (fun _ h9 => h9) dX2_exchange_12 ?_
    refine lv_iload_n hx hb dX2_exchange_15 rfl (lv_at hl 0 rfl) ?_
    refine hw_aload_n (r := p2) hx hb dX2_exchange_16 rfl (lv_at hl 3 rfl) ?_
    obtain ⟨b7, hv, hf⟩ := ob_s hf
    obtain ⟨e9, hk9⟩ := oK_of hv
    cases e9
    obtain ⟨r5, s6, hv, hf⟩ := ob_p hf
    refine hw_V (b := b7) (ci := 0) (T := TJx4a65c) (N := 3) (As := [.int (r1), va_rf (p2)]) (rest := []) S hKn hRm hD (c_Jx4a65c_set_bcc79 l D G base E hv) (mo_Jx4a65c_set_bcc79 hv) hk9 rfl (by decide) gX2_exchange_Jx4a65c_set_bcc79 rfl 2 (by decide +kernel) ⟨by rw [hfr]; decide, by rw [hlo]; decide⟩ rfl hl.1 (Nat.le_trans cs_0 (by decide)) rfl dX2_exchange_17 (fun H locs cells slots hD => ?_)
    refine W.eq (g2 := F0 m 20 ls [va_rf (r5)]) rfl ?_
    refine lv_pop hx hb dX2_exchange_20 (va_rf_cat _) ?_
    exact hB21 _ _ _ _ _ _ hD (lv_sub hl [] rfl) hf
set_option maxHeartbeats 4000000 in
set_option maxRecDepth 100000 in
theorem c_X5_handOver (l : Launch) (D : va_G) (G : GC) (base : Nat) (E : PE) {a0 : Nat} {p1 : Option Nat} {p2 : Option Nat} {σ0 τ : PS} {rv : Unit} (hF : f_X5_handOver E (some a0) p1 p2 σ0 = some (rv, τ)) : Ct l D G base E yX5_handOver wsX5_handOver 5 109 ([.ref a0, va_rf (p1), va_rf (p2)] : List Value) σ0 none τ := by
  obtain ⟨hf, hmo⟩ := oM_of hF
  refine Ct.of (own := RX5) [1, 1, 1] (by decide) rfl rfl hmo (ct_R (ct_A (ct_A ct_0))) (by decide) ?_
  intro p e s m below meth c R Q ls H locs cells slots S hKn hRm hfr hlo hlk hret hnm hQ hD hl
  have hx := S.1
  have hb := S.2.1
  have hts := S.2.2.2.2
  have inX1 : ∀ w ∈ u_ws RX1 TX1 6, w ∈ wsX5_handOver := by decide +kernel
  have inX5 : ∀ w ∈ u_ws RX5 TX5 8, w ∈ wsX5_handOver := by decide +kernel
  have wd0 := hts (.fieldLink RX5 136 "SolidGroups$Entry" "number" "I") (by decide +kernel)
  have wd1 := hts (.fieldLink RX5 16 "SolidGroups" "groups" "Ljava/util/ArrayList;") (by decide +kernel)
  have wd2 := hts (.classLink RX5 110 RX2) (by decide +kernel)
  have wd3 := hts (.fieldLink RX5 10 "SolidGroups" "entries" "Ljava/util/ArrayList;") (by decide +kernel)
  have wd4 := hts (.classLink RX5 55 "SolidGroups$Entry") (by decide +kernel)
  have wd5 := hts (.fieldLink RX5 139 "SolidGroups$Entry" "twinOf" "I") (by decide +kernel)
  have hB101 : ∀ (k39 : Option Nat → Option Nat → Option Nat → Int32 → PS → Option (Unit × PS)) (hk39 : ∀ (z0 : Option Nat) (z1 : Option Nat) (z2 : Option Nat) (z4 : Int32) (σ : PS) (H : Heap) (locs : List Loc) (cells slots : Nat) (ls : Array Slot), Dy D G base E s.heap σ0 σ H locs cells slots → lv_has ls 5 [(0, va_rf (z0)), (1, va_rf (z1)), (2, va_rf (z2)), (4, .int (z4))] → k39 z0 z1 z2 z4 σ = some (rv, τ) → W p l e R s m ([.ref a0, va_rf (p1), va_rf (p2)] : List Value).toArray below meth c H locs cells slots Q (F0 m 39 ls [])), ∀ (v0 : Option Nat) (v1 : Option Nat) (v2 : Option Nat) (v4 : Int32) (σ : PS) (H : Heap) (locs : List Loc) (cells slots : Nat) (ls : Array Slot), Dy D G base E s.heap σ0 σ H locs cells slots → lv_has ls 5 [(0, va_rf (v0)), (1, va_rf (v1)), (2, va_rf (v2)), (4, .int (v4))] → f_X5_handOver_B101 E k39 v0 v1 v2 v4 σ = some (rv, τ) → W p l e R s m ([.ref a0, va_rf (p1), va_rf (p2)] : List Value).toArray below meth c H locs cells slots Q (F0 m 101 ls []) := by
    intro k39 hk39 v0 v1 v2 v4 σ H locs cells slots ls hD hl hf
    unfold f_X5_handOver_B101 at hf
    refine hs_iinc (i := 4) (k := 3) (v := v4 + 1) (lv' := [(4, .int (v4 + 1)), (0, va_rf (v0)), (1, va_rf (v1)), (2, va_rf (v2))]) hx hb dX5_handOver_101 hl rfl (congrArg (fun z => v4 + z) (by decide)) (by decide) (st_okR (st_okR (st_okR (st_okI st_ok0)))) rfl (fun ls hl => ?_)
    refine lv_goto (tgt := 39) hx hb dX5_handOver_104 (by decide) ?_
    exact hk39 v0 v1 v2 (v4 + 1) _ _ _ _ _ _ hD (lv_sub hl [1, 2, 3, 0] rfl) hf
  have hL39 : ∀ (n : Nat), ∀ (v0 : Option Nat) (v1 : Option Nat) (v2 : Option Nat) (v4 : Int32) (σ : PS) (H : Heap) (locs : List Loc) (cells slots : Nat) (ls : Array Slot), Dy D G base E s.heap σ0 σ H locs cells slots → lv_has ls 5 [(0, va_rf (v0)), (1, va_rf (v1)), (2, va_rf (v2)), (4, .int (v4))] → f_X5_handOver_L39 E n v0 v1 v2 v4 σ = some (rv, τ) → W p l e R s m ([.ref a0, va_rf (p1), va_rf (p2)] : List Value).toArray below meth c H locs cells slots Q (F0 m 39 ls []) := by
    intro n
    induction n with
    | zero =>
      intro v0 v1 v2 v4 σ H locs cells slots ls hD hl hf
      rw [f_X5_handOver_L39] at hf
      cases hf
    | succ n ih =>
      intro v0 v1 v2 v4 σ H locs cells slots ls hD hl hf
      rw [f_X5_handOver_L39] at hf
      refine lv_iload hx hb dX5_handOver_39 (lv_at hl 3 rfl) ?_
      refine hw_aload_n (r := v0) hx hb dX5_handOver_41 rfl (lv_at hl 0 rfl) ?_
      obtain ⟨x17, hv, hf⟩ := ob_s hf
      refine hw_gr (C := RX5) (T := TX5) (N := 8) (ref := "SolidGroups") S hKn hD hv rfl (by decide) (by decide) rfl inX5 wd3 (fun _ h9 => h9) dX5_handOver_42 ?_
      obtain ⟨b20, hv, hf⟩ := ob_s hf
      obtain ⟨e9, hk9⟩ := oK_of hv
      cases e9
      obtain ⟨r18, s19, hv, hf⟩ := ob_p hf
      refine hw_V (b := b20) (ci := 0) (T := TJx4a65c) (N := 3) (As := []) (rest := [.int (v4)]) S hKn hRm hD (c_Jx4a65c_size_8abf5 l D G base E hv) (mo_Jx4a65c_size_8abf5 hv) hk9 rfl (by decide) gX5_handOver_Jx4a65c_size_8abf5 rfl 0 (by decide +kernel) ⟨by rw [hfr]; decide, by rw [hlo]; decide⟩ rfl hl.1 (Nat.le_trans (cs_I cs_0) (by decide)) rfl dX5_handOver_45 (fun H locs cells slots hD => ?_)
      refine W.eq (g2 := F0 m 48 ls [.int (r18), .int (v4)]) rfl ?_
      refine lv_icmp_ge (tgt := 107) hx hb dX5_handOver_48 (by decide) (fun hc => ?_) (fun hc => ?_)
      · rw [if_pos hc] at hf
        obtain ⟨-, e2⟩ := ret_eq hf
        rw [hQ, ← e2]
        exact hw_vret S hlk hret hD dX5_handOver_107
      · rw [if_neg hc] at hf
        refine lv_iload hx hb dX5_handOver_51 (lv_at hl 3 rfl) ?_
        refine hw_aload_n (r := v1) hx hb dX5_handOver_53 rfl (lv_at hl 1 rfl) ?_
        obtain ⟨x21, hv, hf⟩ := ob_s hf
        refine hw_gi (C := RX1) (T := TX1) (N := 6) (ref := "SolidGroups$Entry") S hKn hD hv rfl (by decide) (by decide) rfl inX1 wd0 (fun _ h9 => h9) dX5_handOver_54 ?_
        refine lv_icmp_eq (tgt := 101) hx hb dX5_handOver_57 (by decide) (fun hc => ?_) (fun hc => ?_)
        · rw [if_pos hc] at hf
          exact hB101 _ ih v0 v1 v2 v4 _ _ _ _ _ _ hD (lv_sub hl [0, 1, 2, 3] rfl) hf
        · rw [if_neg hc] at hf
          refine hw_aload_n (r := v0) hx hb dX5_handOver_60 rfl (lv_at hl 0 rfl) ?_
          obtain ⟨x22, hv, hf⟩ := ob_s hf
          refine hw_gr (C := RX5) (T := TX5) (N := 8) (ref := "SolidGroups") S hKn hD hv rfl (by decide) (by decide) rfl inX5 wd3 (fun _ h9 => h9) dX5_handOver_61 ?_
          refine lv_iload hx hb dX5_handOver_64 (lv_at hl 3 rfl) ?_
          obtain ⟨b25, hv, hf⟩ := ob_s hf
          obtain ⟨e9, hk9⟩ := oK_of hv
          cases e9
          obtain ⟨r23, s24, hv, hf⟩ := ob_p hf
          refine hw_V (b := b25) (ci := 0) (T := TJx4a65c) (N := 3) (As := [.int (v4)]) (rest := []) S hKn hRm hD (c_Jx4a65c_get_915e3 l D G base E hv) (mo_Jx4a65c_get_915e3 hv) hk9 rfl (by decide) gX5_handOver_Jx4a65c_get_915e3 rfl 1 (by decide +kernel) ⟨by rw [hfr]; decide, by rw [hlo]; decide⟩ rfl hl.1 (Nat.le_trans cs_0 (by decide)) rfl dX5_handOver_66 (fun H locs cells slots hD => ?_)
          refine W.eq (g2 := F0 m 69 ls [va_rf (r23)]) rfl ?_
          obtain ⟨u26, hv, hf⟩ := ob_s hf
          refine hw_ca (C := RX1) (T := TX1) (N := 6) S hKn hD hv rfl (by decide) wd4 dX5_handOver_69 ?_
          obtain ⟨x27, hv, hf⟩ := ob_s hf
          refine hw_gi (C := RX1) (T := TX1) (N := 6) (ref := "SolidGroups$Entry") S hKn hD hv rfl (by decide) (by decide) rfl inX1 wd5 (fun _ h9 => h9) dX5_handOver_72 ?_
          refine hw_aload_n (r := v1) hx hb dX5_handOver_75 rfl (lv_at hl 1 rfl) ?_
          obtain ⟨x28, hv, hf⟩ := ob_s hf
          refine hw_gi (C := RX1) (T := TX1) (N := 6) (ref := "SolidGroups$Entry") S hKn hD hv rfl (by decide) (by decide) rfl inX1 wd0 (fun _ h9 => h9) dX5_handOver_76 ?_
          refine lv_icmp_ne (tgt := 101) hx hb dX5_handOver_79 (by decide) (fun hc => ?_) (fun hc => ?_)
          · rw [if_neg hc] at hf
            exact hB101 _ ih v0 v1 v2 v4 _ _ _ _ _ _ hD (lv_sub hl [0, 1, 2, 3] rfl) hf
          · rw [if_pos hc] at hf
            refine hw_aload_n (r := v0) hx hb dX5_handOver_82 rfl (lv_at hl 0 rfl) ?_
            obtain ⟨x29, hv, hf⟩ := ob_s hf
            refine hw_gr (C := RX5) (T := TX5) (N := 8) (ref := "SolidGroups") S hKn hD hv rfl (by decide) (by decide) rfl inX5 wd3 (fun _ h9 => h9) dX5_handOver_83 ?_
            refine lv_iload hx hb dX5_handOver_86 (lv_at hl 3 rfl) ?_
            obtain ⟨b32, hv, hf⟩ := ob_s hf
            obtain ⟨e9, hk9⟩ := oK_of hv
            cases e9
            obtain ⟨r30, s31, hv, hf⟩ := ob_p hf
            refine hw_V (b := b32) (ci := 0) (T := TJx4a65c) (N := 3) (As := [.int (v4)]) (rest := []) S hKn hRm hD (c_Jx4a65c_get_915e3 l D G base E hv) (mo_Jx4a65c_get_915e3 hv) hk9 rfl (by decide) gX5_handOver_Jx4a65c_get_915e3 rfl 1 (by decide +kernel) ⟨by rw [hfr]; decide, by rw [hlo]; decide⟩ rfl hl.1 (Nat.le_trans cs_0 (by decide)) rfl dX5_handOver_88 (fun H locs cells slots hD => ?_)
            refine W.eq (g2 := F0 m 91 ls [va_rf (r30)]) rfl ?_
            obtain ⟨u33, hv, hf⟩ := ob_s hf
            refine hw_ca (C := RX1) (T := TX1) (N := 6) S hKn hD hv rfl (by decide) wd4 dX5_handOver_91 ?_
            refine hw_aload_n (r := v2) hx hb dX5_handOver_94 rfl (lv_at hl 2 rfl) ?_
            obtain ⟨x34, hv, hf⟩ := ob_s hf
            refine hw_gi (C := RX1) (T := TX1) (N := 6) (ref := "SolidGroups$Entry") S hKn hD hv rfl (by decide) (by decide) rfl inX1 wd0 (fun _ h9 => h9) dX5_handOver_95 ?_
            obtain ⟨s35, hv, hf⟩ := ob_s hf
            refine hw_pi (C := RX1) (T := TX1) (N := 6) (ref := "SolidGroups$Entry") S hKn hD hv rfl (by decide) (by decide) rfl inX1 tyX1 tyX1_ok nmX1 wd5 (fun _ h9 => h9) rfl (by first | rfl | decide) (by first | rfl | decide) dX5_handOver_98 (fun H locs hD => ?_)
            exact hB101 _ ih v0 v1 v2 v4 _ _ _ _ _ _ hD (lv_sub hl [0, 1, 2, 3] rfl) hf
  have hB36 : ∀ (v0 : Option Nat) (v1 : Option Nat) (v2 : Option Nat) (σ : PS) (H : Heap) (locs : List Loc) (cells slots : Nat) (ls : Array Slot), Dy D G base E s.heap σ0 σ H locs cells slots → lv_has ls 5 [(0, va_rf (v0)), (1, va_rf (v1)), (2, va_rf (v2))] → f_X5_handOver_B36 E v0 v1 v2 σ = some (rv, τ) → W p l e R s m ([.ref a0, va_rf (p1), va_rf (p2)] : List Value).toArray below meth c H locs cells slots Q (F0 m 36 ls []) := by
    intro v0 v1 v2 σ H locs cells slots ls hD hl hf
    unfold f_X5_handOver_B36 at hf
    refine lv_iconst (v := (0)) hx hb dX5_handOver_36 (by decide) ?_
    refine hs_istore (i := 4) (lv' := [(4, .int ((0 : Int32))), (0, va_rf (v0)), (1, va_rf (v1)), (2, va_rf (v2))]) hx hb dX5_handOver_37 hl (by decide) (st_okR (st_okR (st_okR st_ok0))) rfl (fun ls hl => ?_)
    exact hL39 _ v0 v1 v2 (0 : Int32) _ _ _ _ _ _ hD (lv_sub hl [1, 2, 3, 0] rfl) hf
  have hl : lv_has ls 5 [(0, va_rf (some a0)), (1, va_rf (p1)), (2, va_rf (p2))] := hl
  unfold g_X5_handOver at hf
  refine hw_aload_n (r := (some a0)) hx hb dX5_handOver_0 rfl (lv_at hl 0 rfl) ?_
  refine hw_aload_n (r := p1) hx hb dX5_handOver_1 rfl (lv_at hl 1 rfl) ?_
  obtain ⟨x1, hv, hf⟩ := ob_s hf
  refine hw_gi (C := RX1) (T := TX1) (N := 6) (ref := "SolidGroups$Entry") S hKn hD hv rfl (by decide) (by decide) rfl inX1 wd0 (fun _ h9 => h9) dX5_handOver_2 ?_
  obtain ⟨b4, hv, hf⟩ := ob_s hf
  obtain ⟨e9, hk9⟩ := oK_of hv
  cases e9
  obtain ⟨r2, s3, hv, hf⟩ := ob_p hf
  refine hw_V (b := a0) (ci := 6) (T := TX5) (N := 8) (As := [.int (x1)]) (rest := []) S hKn hRm hD (c_X5_groupNumberOf l D G base E hv) (mo_X5_groupNumberOf hv) hk9 rfl (by decide) gX5_handOver_X5_groupNumberOf rfl 1 (by decide +kernel) ⟨by rw [hfr]; decide, by rw [hlo]; decide⟩ rfl hl.1 (Nat.le_trans cs_0 (by decide)) rfl dX5_handOver_5 (fun H locs cells slots hD => ?_)
  refine W.eq (g2 := F0 m 8 ls [.int (r2)]) rfl ?_
  refine hs_istore_n (i := 3) (lv' := [(3, .int (r2)), (0, va_rf ((some a0))), (1, va_rf (p1)), (2, va_rf (p2))]) hx hb dX5_handOver_8 rfl hl (by decide) (st_okR (st_okR (st_okR st_ok0))) rfl (fun ls hl => ?_)
  refine hw_aload_n (r := (some a0)) hx hb dX5_handOver_9 rfl (lv_at hl 1 rfl) ?_
  refine lv_iload_n hx hb dX5_handOver_10 rfl (lv_at hl 0 rfl) ?_
  obtain ⟨b7, hv, hf⟩ := ob_s hf
  obtain ⟨e9, hk9⟩ := oK_of hv
  cases e9
  obtain ⟨r5, s6, hv, hf⟩ := ob_p hf
  refine hw_V (b := a0) (ci := 6) (T := TX5) (N := 8) (As := [.int (r2)]) (rest := []) S hKn hRm hD (c_X5_isGroup l D G base E hv) (mo_X5_isGroup hv) hk9 rfl (by decide) gX5_handOver_X5_isGroup rfl 1 (by decide +kernel) ⟨by rw [hfr]; decide, by rw [hlo]; decide⟩ rfl hl.1 (Nat.le_trans cs_0 (by decide)) rfl dX5_handOver_11 (fun H locs cells slots hD => ?_)
  refine W.eq (g2 := F0 m 14 ls [.int (r5)]) rfl ?_
  refine lv_if_eq (tgt := 36) hx hb dX5_handOver_14 (by decide) (fun hc => ?_) (fun hc => ?_)
  · rw [if_pos hc] at hf
    exact hB36 (some a0) p1 p2 _ _ _ _ _ _ hD (lv_sub hl [1, 2, 3] rfl) hf
  · rw [if_neg hc] at hf
    refine hw_aload_n (r := (some a0)) hx hb dX5_handOver_17 rfl (lv_at hl 1 rfl) ?_
    obtain ⟨x8, hv, hf⟩ := ob_s hf
    refine hw_gr (C := RX5) (T := TX5) (N := 8) (ref := "SolidGroups") S hKn hD hv rfl (by decide) (by decide) rfl inX5 wd1 (fun _ h9 => h9) dX5_handOver_18 ?_
    refine lv_iload_n hx hb dX5_handOver_21 rfl (lv_at hl 0 rfl) ?_
    obtain ⟨b11, hv, hf⟩ := ob_s hf
    obtain ⟨e9, hk9⟩ := oK_of hv
    cases e9
    obtain ⟨r9, s10, hv, hf⟩ := ob_p hf
    refine hw_V (b := b11) (ci := 0) (T := TJx4a65c) (N := 3) (As := [.int (r2)]) (rest := []) S hKn hRm hD (c_Jx4a65c_get_915e3 l D G base E hv) (mo_Jx4a65c_get_915e3 hv) hk9 rfl (by decide) gX5_handOver_Jx4a65c_get_915e3 rfl 1 (by decide +kernel) ⟨by rw [hfr]; decide, by rw [hlo]; decide⟩ rfl hl.1 (Nat.le_trans cs_0 (by decide)) rfl dX5_handOver_22 (fun H locs cells slots hD => ?_)
    refine W.eq (g2 := F0 m 25 ls [va_rf (r9)]) rfl ?_
    obtain ⟨u12, hv, hf⟩ := ob_s hf
    refine hw_ca (C := RX2) (T := TX2) (N := 4) S hKn hD hv rfl (by decide) wd2 dX5_handOver_25 ?_
    refine hw_aload_n (r := p1) hx hb dX5_handOver_28 rfl (lv_at hl 2 rfl) ?_
    obtain ⟨x13, hv, hf⟩ := ob_s hf
    refine hw_gi (C := RX1) (T := TX1) (N := 6) (ref := "SolidGroups$Entry") S hKn hD hv rfl (by decide) (by decide) rfl inX1 wd0 (fun _ h9 => h9) dX5_handOver_29 ?_
    refine hw_aload_n (r := p2) hx hb dX5_handOver_32 rfl (lv_at hl 3 rfl) ?_
    obtain ⟨b16, hv, hf⟩ := ob_s hf
    obtain ⟨e9, hk9⟩ := oK_of hv
    cases e9
    obtain ⟨r14, s15, hv, hf⟩ := ob_p hf
    refine hw_V (b := b16) (ci := 3) (T := TX2) (N := 4) (As := [.int (x13), va_rf (p2)]) (rest := []) S hKn hRm hD (c_X2_exchange l D G base E hv) (mo_X2_exchange hv) hk9 rfl (by decide) gX5_handOver_X2_exchange rfl 2 (by decide +kernel) ⟨by rw [hfr]; decide, by rw [hlo]; decide⟩ rfl hl.1 (Nat.le_trans cs_0 (by decide)) rfl dX5_handOver_33 (fun H locs cells slots hD => ?_)
    refine W.eq (g2 := F0 m 36 ls []) rfl ?_
    exact hB36 (some a0) p1 p2 _ _ _ _ _ _ hD (lv_sub hl [1, 2, 3] rfl) hf
set_option maxHeartbeats 4000000 in
set_option maxRecDepth 100000 in
theorem c_X5_homeOfChanged (l : Launch) (D : va_G) (G : GC) (base : Nat) (E : PE) {a0 : Nat} {p1 : Option Nat} {σ0 τ : PS} {rv : Option Nat} (hF : f_X5_homeOfChanged E (some a0) p1 σ0 = some (rv, τ)) : Ct l D G base E yX5_homeOfChanged wsX5_homeOfChanged 8 215 ([.ref a0, va_rf (p1)] : List Value) σ0 (some (va_rf rv)) τ := by
  obtain ⟨hf, hmo⟩ := oM_of hF
  refine Ct.of (own := RX5) [1, 1] (by decide) rfl rfl hmo (ct_R (ct_A ct_0)) (by decide) ?_
  intro p e s m below meth c R Q ls H locs cells slots S hKn hRm hfr hlo hlk hret hnm hQ hD hl
  have hx := S.1
  have hb := S.2.1
  have hts := S.2.2.2.2
  have inX1 : ∀ w ∈ u_ws RX1 TX1 6, w ∈ wsX5_homeOfChanged := by decide +kernel
  have inX5 : ∀ w ∈ u_ws RX5 TX5 8, w ∈ wsX5_homeOfChanged := by decide +kernel
  have wd0 := hts (.fieldLink RX5 136 "SolidGroups$Entry" "number" "I") (by decide +kernel)
  have wd1 := hts (.fieldLink RX5 16 "SolidGroups" "groups" "Ljava/util/ArrayList;") (by decide +kernel)
  have wd2 := hts (.classLink RX5 110 RX2) (by decide +kernel)
  have wd3 := hts (.fieldLink RX5 10 "SolidGroups" "entries" "Ljava/util/ArrayList;") (by decide +kernel)
  have wd4 := hts (.classLink RX5 55 "SolidGroups$Entry") (by decide +kernel)
  have wd5 := hts (.fieldLink RX5 214 "SolidGroups$Entry" "kind" "I") (by decide +kernel)
  have wd6 := hts (.fieldLink RX5 139 "SolidGroups$Entry" "twinOf" "I") (by decide +kernel)
  have hB100 : ∀ (w0 : Option Nat) (σ : PS) (H : Heap) (locs : List Loc) (cells slots : Nat) (ls : Array Slot), Dy D G base E s.heap σ0 σ H locs cells slots → lv_has ls 4 [] → f_X5_homeOfChanged_B100 E w0 σ = some (rv, τ) → W p l e R s m ([.ref a0, va_rf (p1)] : List Value).toArray below meth c H locs cells slots Q (F0 m 100 ls [va_rf (w0)]) := by
    intro w0 σ H locs cells slots ls hD hl hf
    unfold f_X5_homeOfChanged_B100 at hf
    obtain ⟨e1, e2⟩ := ret_eq hf
    rw [hQ, ← e1, ← e2]
    exact hw_aret S hlk hret (Or.inl ⟨_, rfl⟩) hD dX5_homeOfChanged_100
  have hl : lv_has ls 4 [(0, va_rf (some a0)), (1, va_rf (p1))] := hl
  unfold g_X5_homeOfChanged at hf
  refine hw_aload_n (r := p1) hx hb dX5_homeOfChanged_0 rfl (lv_at hl 1 rfl) ?_
  obtain ⟨b3, hv, hf⟩ := ob_s hf
  obtain ⟨e9, hk9⟩ := oK_of hv
  cases e9
  obtain ⟨r1, s2, hv, hf⟩ := ob_p hf
  refine hw_V (b := b3) (ci := 2) (T := TX1) (N := 6) (As := []) (rest := []) S hKn hRm hD (c_X1_isKept l D G base E hv) (mo_X1_isKept hv) hk9 rfl (by decide) gX5_homeOfChanged_X1_isKept rfl 0 (by decide +kernel) ⟨by rw [hfr]; decide, by rw [hlo]; decide⟩ rfl hl.1 (Nat.le_trans cs_0 (by decide)) rfl dX5_homeOfChanged_1 (fun H locs cells slots hD => ?_)
  refine W.eq (g2 := F0 m 4 ls [.int (r1)]) rfl ?_
  refine lv_if_ne (tgt := 25) hx hb dX5_homeOfChanged_4 (by decide) (fun hc => ?_) (fun hc => ?_)
  · rw [if_neg hc] at hf
    refine hw_aload_n (r := (some a0)) hx hb dX5_homeOfChanged_25 rfl (lv_at hl 0 rfl) ?_
    refine hw_aload_n (r := (some b3)) hx hb dX5_homeOfChanged_26 rfl (lv_at hl 1 rfl) ?_
    obtain ⟨x4, hv, hf⟩ := ob_s hf
    refine hw_gi (C := RX1) (T := TX1) (N := 6) (ref := "SolidGroups$Entry") S hKn hD hv rfl (by decide) (by decide) rfl inX1 wd0 (fun _ h9 => h9) dX5_homeOfChanged_27 ?_
    obtain ⟨b7, hv, hf⟩ := ob_s hf
    obtain ⟨e9, hk9⟩ := oK_of hv
    cases e9
    obtain ⟨r5, s6, hv, hf⟩ := ob_p hf
    refine hw_V (b := a0) (ci := 6) (T := TX5) (N := 8) (As := [.int (x4)]) (rest := []) S hKn hRm hD (c_X5_leastTwinOf l D G base E hv) (mo_X5_leastTwinOf hv) hk9 rfl (by decide) gX5_homeOfChanged_X5_leastTwinOf rfl 1 (by decide +kernel) ⟨by rw [hfr]; decide, by rw [hlo]; decide⟩ rfl hl.1 (Nat.le_trans cs_0 (by decide)) rfl dX5_homeOfChanged_30 (fun H locs cells slots hD => ?_)
    refine W.eq (g2 := F0 m 33 ls [.int (r5)]) rfl ?_
    refine hs_istore_n (i := 2) (lv' := [(2, .int (r5)), (0, va_rf ((some a0))), (1, va_rf ((some b3)))]) hx hb dX5_homeOfChanged_33 rfl hl (by decide) (st_okR (st_okR st_ok0)) rfl (fun ls hl => ?_)
    refine hw_aload_n (r := (some a0)) hx hb dX5_homeOfChanged_34 rfl (lv_at hl 1 rfl) ?_
    refine lv_iload_n hx hb dX5_homeOfChanged_35 rfl (lv_at hl 0 rfl) ?_
    obtain ⟨b10, hv, hf⟩ := ob_s hf
    obtain ⟨e9, hk9⟩ := oK_of hv
    cases e9
    obtain ⟨r8, s9, hv, hf⟩ := ob_p hf
    refine hw_V (b := a0) (ci := 6) (T := TX5) (N := 8) (As := [.int (r5)]) (rest := []) S hKn hRm hD (c_X5_isEntry l D G base E hv) (mo_X5_isEntry hv) hk9 rfl (by decide) gX5_homeOfChanged_X5_isEntry rfl 1 (by decide +kernel) ⟨by rw [hfr]; decide, by rw [hlo]; decide⟩ rfl hl.1 (Nat.le_trans cs_0 (by decide)) rfl dX5_homeOfChanged_36 (fun H locs cells slots hD => ?_)
    refine W.eq (g2 := F0 m 39 ls [.int (r8)]) rfl ?_
    refine lv_if_eq (tgt := 68) hx hb dX5_homeOfChanged_39 (by decide) (fun hc => ?_) (fun hc => ?_)
    · rw [if_pos hc] at hf
      refine hw_aload_n (r := (some a0)) hx hb dX5_homeOfChanged_68 rfl (lv_at hl 1 rfl) ?_
      refine hw_aload_n (r := (some b3)) hx hb dX5_homeOfChanged_69 rfl (lv_at hl 2 rfl) ?_
      obtain ⟨x11, hv, hf⟩ := ob_s hf
      refine hw_gi (C := RX1) (T := TX1) (N := 6) (ref := "SolidGroups$Entry") S hKn hD hv rfl (by decide) (by decide) rfl inX1 wd0 (fun _ h9 => h9) dX5_homeOfChanged_70 ?_
      obtain ⟨b14, hv, hf⟩ := ob_s hf
      obtain ⟨e9, hk9⟩ := oK_of hv
      cases e9
      obtain ⟨r12, s13, hv, hf⟩ := ob_p hf
      refine hw_V (b := a0) (ci := 6) (T := TX5) (N := 8) (As := [.int (x11)]) (rest := []) S hKn hRm hD (c_X5_groupNumberOf l D G base E hv) (mo_X5_groupNumberOf hv) hk9 rfl (by decide) gX5_homeOfChanged_X5_groupNumberOf rfl 1 (by decide +kernel) ⟨by rw [hfr]; decide, by rw [hlo]; decide⟩ rfl hl.1 (Nat.le_trans cs_0 (by decide)) rfl dX5_homeOfChanged_73 (fun H locs cells slots hD => ?_)
      refine W.eq (g2 := F0 m 76 ls [.int (r12)]) rfl ?_
      refine hs_istore_n (i := 3) (lv' := [(3, .int (r12)), (2, .int (r5)), (0, va_rf ((some a0))), (1, va_rf ((some b3)))]) hx hb dX5_homeOfChanged_76 rfl hl (by decide) (st_okI (st_okR (st_okR st_ok0))) rfl (fun ls hl => ?_)
      refine hw_aload_n (r := (some a0)) hx hb dX5_homeOfChanged_77 rfl (lv_at hl 2 rfl) ?_
      refine lv_iload_n hx hb dX5_homeOfChanged_78 rfl (lv_at hl 0 rfl) ?_
      obtain ⟨b17, hv, hf⟩ := ob_s hf
      obtain ⟨e9, hk9⟩ := oK_of hv
      cases e9
      obtain ⟨r15, s16, hv, hf⟩ := ob_p hf
      refine hw_V (b := a0) (ci := 6) (T := TX5) (N := 8) (As := [.int (r12)]) (rest := []) S hKn hRm hD (c_X5_isGroup l D G base E hv) (mo_X5_isGroup hv) hk9 rfl (by decide) gX5_homeOfChanged_X5_isGroup rfl 1 (by decide +kernel) ⟨by rw [hfr]; decide, by rw [hlo]; decide⟩ rfl hl.1 (Nat.le_trans cs_0 (by decide)) rfl dX5_homeOfChanged_79 (fun H locs cells slots hD => ?_)
      refine W.eq (g2 := F0 m 82 ls [.int (r15)]) rfl ?_
      refine lv_if_eq (tgt := 99) hx hb dX5_homeOfChanged_82 (by decide) (fun hc => ?_) (fun hc => ?_)
      · rw [if_pos hc] at hf
        refine hs_null hx hb dX5_homeOfChanged_99 ?_
        exact hB100 none _ _ _ _ _ _ hD (lv_sub hl [] rfl) hf
      · rw [if_neg hc] at hf
        refine hw_aload_n (r := (some a0)) hx hb dX5_homeOfChanged_85 rfl (lv_at hl 2 rfl) ?_
        obtain ⟨x18, hv, hf⟩ := ob_s hf
        refine hw_gr (C := RX5) (T := TX5) (N := 8) (ref := "SolidGroups") S hKn hD hv rfl (by decide) (by decide) rfl inX5 wd1 (fun _ h9 => h9) dX5_homeOfChanged_86 ?_
        refine lv_iload_n hx hb dX5_homeOfChanged_89 rfl (lv_at hl 0 rfl) ?_
        obtain ⟨b21, hv, hf⟩ := ob_s hf
        obtain ⟨e9, hk9⟩ := oK_of hv
        cases e9
        obtain ⟨r19, s20, hv, hf⟩ := ob_p hf
        refine hw_V (b := b21) (ci := 0) (T := TJx4a65c) (N := 3) (As := [.int (r12)]) (rest := []) S hKn hRm hD (c_Jx4a65c_get_915e3 l D G base E hv) (mo_Jx4a65c_get_915e3 hv) hk9 rfl (by decide) gX5_homeOfChanged_Jx4a65c_get_915e3 rfl 1 (by decide +kernel) ⟨by rw [hfr]; decide, by rw [hlo]; decide⟩ rfl hl.1 (Nat.le_trans cs_0 (by decide)) rfl dX5_homeOfChanged_90 (fun H locs cells slots hD => ?_)
        refine W.eq (g2 := F0 m 93 ls [va_rf (r19)]) rfl ?_
        obtain ⟨u22, hv, hf⟩ := ob_s hf
        refine hw_ca (C := RX2) (T := TX2) (N := 4) S hKn hD hv rfl (by decide) wd2 dX5_homeOfChanged_93 ?_
        refine lv_goto (tgt := 100) hx hb dX5_homeOfChanged_96 (by decide) ?_
        exact hB100 r19 _ _ _ _ _ _ hD (lv_sub hl [] rfl) hf
    · rw [if_neg hc] at hf
      refine hw_aload_n (r := (some a0)) hx hb dX5_homeOfChanged_42 rfl (lv_at hl 1 rfl) ?_
      refine hw_aload_n (r := (some b3)) hx hb dX5_homeOfChanged_43 rfl (lv_at hl 2 rfl) ?_
      refine hw_aload_n (r := (some a0)) hx hb dX5_homeOfChanged_44 rfl (lv_at hl 1 rfl) ?_
      obtain ⟨x23, hv, hf⟩ := ob_s hf
      refine hw_gr (C := RX5) (T := TX5) (N := 8) (ref := "SolidGroups") S hKn hD hv rfl (by decide) (by decide) rfl inX5 wd3 (fun _ h9 => h9) dX5_homeOfChanged_45 ?_
      refine lv_iload_n hx hb dX5_homeOfChanged_48 rfl (lv_at hl 0 rfl) ?_
      obtain ⟨b26, hv, hf⟩ := ob_s hf
      obtain ⟨e9, hk9⟩ := oK_of hv
      cases e9
      obtain ⟨r24, s25, hv, hf⟩ := ob_p hf
      refine hw_V (b := b26) (ci := 0) (T := TJx4a65c) (N := 3) (As := [.int (r5)]) (rest := [va_rf ((some b3)), va_rf ((some a0))]) S hKn hRm hD (c_Jx4a65c_get_915e3 l D G base E hv) (mo_Jx4a65c_get_915e3 hv) hk9 rfl (by decide) gX5_homeOfChanged_Jx4a65c_get_915e3 rfl 1 (by decide +kernel) ⟨by rw [hfr]; decide, by rw [hlo]; decide⟩ rfl hl.1 (Nat.le_trans (cs_A (cs_A cs_0)) (by decide)) rfl dX5_homeOfChanged_49 (fun H locs cells slots hD => ?_)
      refine W.eq (g2 := F0 m 52 ls [va_rf (r24), va_rf ((some b3)), va_rf ((some a0))]) rfl ?_
      obtain ⟨u27, hv, hf⟩ := ob_s hf
      refine hw_ca (C := RX1) (T := TX1) (N := 6) S hKn hD hv rfl (by decide) wd4 dX5_homeOfChanged_52 ?_
      obtain ⟨b30, hv, hf⟩ := ob_s hf
      obtain ⟨e9, hk9⟩ := oK_of hv
      cases e9
      obtain ⟨r28, s29, hv, hf⟩ := ob_p hf
      refine hw_V (b := a0) (ci := 6) (T := TX5) (N := 8) (As := [va_rf ((some b3)), va_rf (r24)]) (rest := []) S hKn hRm hD (c_X5_handOver l D G base E hv) (mo_X5_handOver hv) hk9 rfl (by decide) gX5_homeOfChanged_X5_handOver rfl 2 (by decide +kernel) ⟨by rw [hfr]; decide, by rw [hlo]; decide⟩ rfl hl.1 (Nat.le_trans cs_0 (by decide)) rfl dX5_homeOfChanged_55 (fun H locs cells slots hD => ?_)
      refine W.eq (g2 := F0 m 58 ls []) rfl ?_
      refine hw_aload_n (r := (some a0)) hx hb dX5_homeOfChanged_58 rfl (lv_at hl 1 rfl) ?_
      refine hw_aload_n (r := (some b3)) hx hb dX5_homeOfChanged_59 rfl (lv_at hl 2 rfl) ?_
      obtain ⟨x31, hv, hf⟩ := ob_s hf
      refine hw_gi (C := RX1) (T := TX1) (N := 6) (ref := "SolidGroups$Entry") S hKn hD hv rfl (by decide) (by decide) rfl inX1 wd5 (fun _ h9 => h9) dX5_homeOfChanged_60 ?_
      refine hw_aload_n (r := (some b3)) hx hb dX5_homeOfChanged_63 rfl (lv_at hl 2 rfl) ?_
      obtain ⟨b34, hv, hf⟩ := ob_s hf
      obtain ⟨e9, hk9⟩ := oK_of hv
      cases e9
      obtain ⟨r32, s33, hv, hf⟩ := ob_p hf
      refine hw_V (b := a0) (ci := 6) (T := TX5) (N := 8) (As := [.int (x31), va_rf ((some b3))]) (rest := []) S hKn hRm hD (c_X5_putAtEndOf l D G base E hv) (mo_X5_putAtEndOf hv) hk9 rfl (by decide) gX5_homeOfChanged_X5_putAtEndOf rfl 2 (by decide +kernel) ⟨by rw [hfr]; decide, by rw [hlo]; decide⟩ rfl hl.1 (Nat.le_trans cs_0 (by decide)) rfl dX5_homeOfChanged_64 (fun H locs cells slots hD => ?_)
      refine W.eq (g2 := F0 m 67 ls [va_rf (r32)]) rfl ?_
      obtain ⟨e1, e2⟩ := ret_eq hf
      rw [hQ, ← e1, ← e2]
      exact hw_aret S hlk hret (Or.inl ⟨_, rfl⟩) hD dX5_homeOfChanged_67
  · rw [if_pos hc] at hf
    refine hw_aload_n (r := (some b3)) hx hb dX5_homeOfChanged_7 rfl (lv_at hl 1 rfl) ?_
    refine hw_aload_n (r := (some b3)) hx hb dX5_homeOfChanged_8 rfl (lv_at hl 1 rfl) ?_
    obtain ⟨x35, hv, hf⟩ := ob_s hf
    refine hw_gi (C := RX1) (T := TX1) (N := 6) (ref := "SolidGroups$Entry") S hKn hD hv rfl (by decide) (by decide) rfl inX1 wd0 (fun _ h9 => h9) dX5_homeOfChanged_9 ?_
    obtain ⟨s36, hv, hf⟩ := ob_s hf
    refine hw_pi (C := RX1) (T := TX1) (N := 6) (ref := "SolidGroups$Entry") S hKn hD hv rfl (by decide) (by decide) rfl inX1 tyX1 tyX1_ok nmX1 wd6 (fun _ h9 => h9) rfl (by first | rfl | decide) (by first | rfl | decide) dX5_homeOfChanged_12 (fun H locs hD => ?_)
    refine hw_aload_n (r := (some a0)) hx hb dX5_homeOfChanged_15 rfl (lv_at hl 0 rfl) ?_
    refine hw_aload_n (r := (some b3)) hx hb dX5_homeOfChanged_16 rfl (lv_at hl 1 rfl) ?_
    obtain ⟨x37, hv, hf⟩ := ob_s hf
    refine hw_gi (C := RX1) (T := TX1) (N := 6) (ref := "SolidGroups$Entry") S hKn hD hv rfl (by decide) (by decide) rfl inX1 wd5 (fun _ h9 => h9) dX5_homeOfChanged_17 ?_
    refine hw_aload_n (r := (some b3)) hx hb dX5_homeOfChanged_20 rfl (lv_at hl 1 rfl) ?_
    obtain ⟨b40, hv, hf⟩ := ob_s hf
    obtain ⟨e9, hk9⟩ := oK_of hv
    cases e9
    obtain ⟨r38, s39, hv, hf⟩ := ob_p hf
    refine hw_V (b := a0) (ci := 6) (T := TX5) (N := 8) (As := [.int (x37), va_rf ((some b3))]) (rest := []) S hKn hRm hD (c_X5_putAtEndOf l D G base E hv) (mo_X5_putAtEndOf hv) hk9 rfl (by decide) gX5_homeOfChanged_X5_putAtEndOf rfl 2 (by decide +kernel) ⟨by rw [hfr]; decide, by rw [hlo]; decide⟩ rfl hl.1 (Nat.le_trans cs_0 (by decide)) rfl dX5_homeOfChanged_21 (fun H locs cells slots hD => ?_)
    refine W.eq (g2 := F0 m 24 ls [va_rf (r38)]) rfl ?_
    obtain ⟨e1, e2⟩ := ret_eq hf
    rw [hQ, ← e1, ← e2]
    exact hw_aret S hlk hret (Or.inl ⟨_, rfl⟩) hD dX5_homeOfChanged_24
set_option maxHeartbeats 4000000 in
set_option maxRecDepth 100000 in
theorem c_X3_gather (l : Launch) (D : va_G) (G : GC) (base : Nat) (E : PE) {a0 : Nat} {p1 : Option Nat} {σ0 τ : PS} {rv : Unit} (hF : f_X3_gather E (some a0) p1 σ0 = some (rv, τ)) : Ct l D G base E yX3_gather wsX3_gather 3 64 ([.ref a0, va_rf (p1)] : List Value) σ0 none τ := by
  obtain ⟨hf, hmo⟩ := oM_of hF
  refine Ct.of (own := RX3) [1, 1] (by decide) rfl rfl hmo (ct_R (ct_A ct_0)) (by decide) ?_
  intro p e s m below meth c R Q ls H locs cells slots S hKn hRm hfr hlo hlk hret hnm hQ hD hl
  have hx := S.1
  have hb := S.2.1
  have hts := S.2.2.2.2
  have inX3 : ∀ w ∈ u_ws RX3 TX3 4, w ∈ wsX3_gather := by decide +kernel
  have inX1 : ∀ w ∈ u_ws RX1 TX1 6, w ∈ wsX3_gather := by decide +kernel
  have wd0 := hts (.fieldLink RX3 15 "SolidGroups$RowMaker" "length" "I") (by decide +kernel)
  have wd1 := hts (.classLink RX3 65 "SolidGroups$Entry") (by decide +kernel)
  have wd2 := hts (.fieldLink RX3 67 "SolidGroups$Entry" "length" "I") (by decide +kernel)
  have wd3 := hts (.fieldLink RX3 9 "SolidGroups$RowMaker" "content" "[I") (by decide +kernel)
  have wd4 := hts (.fieldLink RX3 68 "SolidGroups$Entry" "bytes" "[I") (by decide +kernel)
  have hB78 : ∀ (k7 : Option Nat → Option Nat → Int32 → PS → Option (Unit × PS)) (hk7 : ∀ (z0 : Option Nat) (z1 : Option Nat) (z2 : Int32) (σ : PS) (H : Heap) (locs : List Loc) (cells slots : Nat) (ls : Array Slot), Dy D G base E s.heap σ0 σ H locs cells slots → lv_has ls 5 [(0, va_rf (z0)), (1, va_rf (z1)), (2, .int (z2))] → k7 z0 z1 z2 σ = some (rv, τ) → W p l e R s m ([.ref a0, va_rf (p1)] : List Value).toArray below meth c H locs cells slots Q (F0 m 7 ls [])), ∀ (v0 : Option Nat) (v1 : Option Nat) (v2 : Int32) (σ : PS) (H : Heap) (locs : List Loc) (cells slots : Nat) (ls : Array Slot), Dy D G base E s.heap σ0 σ H locs cells slots → lv_has ls 5 [(0, va_rf (v0)), (1, va_rf (v1)), (2, .int (v2))] → f_X3_gather_B78 E k7 v0 v1 v2 σ = some (rv, τ) → W p l e R s m ([.ref a0, va_rf (p1)] : List Value).toArray below meth c H locs cells slots Q (F0 m 78 ls []) := by
    intro k7 hk7 v0 v1 v2 σ H locs cells slots ls hD hl hf
    unfold f_X3_gather_B78 at hf
    refine hs_iinc (i := 2) (k := 2) (v := v2 + 1) (lv' := [(2, .int (v2 + 1)), (0, va_rf (v0)), (1, va_rf (v1))]) hx hb dX3_gather_78 hl rfl (congrArg (fun z => v2 + z) (by decide)) (by decide) (st_okR (st_okR (st_okI st_ok0))) rfl (fun ls hl => ?_)
    refine lv_goto (tgt := 7) hx hb dX3_gather_81 (by decide) ?_
    exact hk7 v0 v1 (v2 + 1) _ _ _ _ _ _ hD (lv_sub hl [1, 2, 0] rfl) hf
  have hL27 : ∀ (k7 : Option Nat → Option Nat → Int32 → PS → Option (Unit × PS)) (hk7 : ∀ (z0 : Option Nat) (z1 : Option Nat) (z2 : Int32) (σ : PS) (H : Heap) (locs : List Loc) (cells slots : Nat) (ls : Array Slot), Dy D G base E s.heap σ0 σ H locs cells slots → lv_has ls 5 [(0, va_rf (z0)), (1, va_rf (z1)), (2, .int (z2))] → k7 z0 z1 z2 σ = some (rv, τ) → W p l e R s m ([.ref a0, va_rf (p1)] : List Value).toArray below meth c H locs cells slots Q (F0 m 7 ls [])) (n : Nat), ∀ (v0 : Option Nat) (v1 : Option Nat) (v2 : Int32) (v3 : Option Nat) (v4 : Int32) (σ : PS) (H : Heap) (locs : List Loc) (cells slots : Nat) (ls : Array Slot), Dy D G base E s.heap σ0 σ H locs cells slots → lv_has ls 5 [(0, va_rf (v0)), (1, va_rf (v1)), (2, .int (v2)), (3, va_rf (v3)), (4, .int (v4))] → f_X3_gather_L27 E k7 n v0 v1 v2 v3 v4 σ = some (rv, τ) → W p l e R s m ([.ref a0, va_rf (p1)] : List Value).toArray below meth c H locs cells slots Q (F0 m 27 ls []) := by
    intro k7 hk7 n
    induction n with
    | zero =>
      intro v0 v1 v2 v3 v4 σ H locs cells slots ls hD hl hf
      rw [f_X3_gather_L27] at hf
      cases hf
    | succ n ih =>
      intro v0 v1 v2 v3 v4 σ H locs cells slots ls hD hl hf
      rw [f_X3_gather_L27] at hf
      refine lv_iload hx hb dX3_gather_27 (lv_at hl 4 rfl) ?_
      refine hw_aload_n (r := v3) hx hb dX3_gather_29 rfl (lv_at hl 3 rfl) ?_
      obtain ⟨x9, hv, hf⟩ := ob_s hf
      refine hw_gi (C := RX1) (T := TX1) (N := 6) (ref := "SolidGroups$Entry") S hKn hD hv rfl (by decide) (by decide) rfl inX1 wd2 (fun _ h9 => h9) dX3_gather_30 ?_
      refine lv_icmp_ge (tgt := 78) hx hb dX3_gather_33 (by decide) (fun hc => ?_) (fun hc => ?_)
      · rw [if_pos hc] at hf
        exact hB78 _ hk7 v0 v1 v2 _ _ _ _ _ _ hD (lv_sub hl [0, 1, 2] rfl) hf
      · rw [if_neg hc] at hf
        refine hw_aload_n (r := v0) hx hb dX3_gather_36 rfl (lv_at hl 0 rfl) ?_
        obtain ⟨x10, hv, hf⟩ := ob_s hf
        refine hw_gi (C := RX3) (T := TX3) (N := 4) (ref := "SolidGroups$RowMaker") S hKn hD hv rfl (by decide) (by decide) rfl inX3 wd0 (fun _ h9 => h9) dX3_gather_37 ?_
        refine lv_sipush (v := (400)) hx hb dX3_gather_40 (by decide) ?_
        refine lv_icmp_ge (tgt := 78) hx hb dX3_gather_43 (by decide) (fun hc => ?_) (fun hc => ?_)
        · rw [if_pos hc] at hf
          exact hB78 _ hk7 v0 v1 v2 _ _ _ _ _ _ hD (lv_sub hl [0, 1, 2] rfl) hf
        · rw [if_neg hc] at hf
          refine hw_aload_n (r := v0) hx hb dX3_gather_46 rfl (lv_at hl 0 rfl) ?_
          obtain ⟨x11, hv, hf⟩ := ob_s hf
          refine hw_gr (C := RX3) (T := TX3) (N := 4) (ref := "SolidGroups$RowMaker") S hKn hD hv rfl (by decide) (by decide) rfl inX3 wd3 (fun _ h9 => h9) dX3_gather_47 ?_
          refine hw_aload_n (r := v0) hx hb dX3_gather_50 rfl (lv_at hl 0 rfl) ?_
          obtain ⟨x12, hv, hf⟩ := ob_s hf
          refine hw_gi (C := RX3) (T := TX3) (N := 4) (ref := "SolidGroups$RowMaker") S hKn hD hv rfl (by decide) (by decide) rfl inX3 wd0 (fun _ h9 => h9) dX3_gather_51 ?_
          refine hw_aload_n (r := v3) hx hb dX3_gather_54 rfl (lv_at hl 3 rfl) ?_
          obtain ⟨x13, hv, hf⟩ := ob_s hf
          refine hw_gr (C := RX1) (T := TX1) (N := 6) (ref := "SolidGroups$Entry") S hKn hD hv rfl (by decide) (by decide) rfl inX1 wd4 (fun _ h9 => h9) dX3_gather_55 ?_
          refine lv_iload hx hb dX3_gather_58 (lv_at hl 4 rfl) ?_
          obtain ⟨x14, hv, hf⟩ := ob_s hf
          refine hw_al S hKn hD hv dX3_gather_60 ?_
          obtain ⟨s15, hv, hf⟩ := ob_s hf
          refine hw_as S hKn hD hv dX3_gather_61 (fun H locs hD => ?_)
          refine hw_aload_n (r := v0) hx hb dX3_gather_62 rfl (lv_at hl 0 rfl) ?_
          refine lv_dup hx hb dX3_gather_63 (va_rf_cat _) ?_
          obtain ⟨x16, hv, hf⟩ := ob_s hf
          refine hw_gi (C := RX3) (T := TX3) (N := 4) (ref := "SolidGroups$RowMaker") S hKn hD hv rfl (by decide) (by decide) rfl inX3 wd0 (fun _ h9 => h9) dX3_gather_64 ?_
          refine lv_iconst (v := (1)) hx hb dX3_gather_67 (by decide) ?_
          refine lv_iadd hx hb dX3_gather_68 ?_
          obtain ⟨s17, hv, hf⟩ := ob_s hf
          refine hw_pi (C := RX3) (T := TX3) (N := 4) (ref := "SolidGroups$RowMaker") S hKn hD hv rfl (by decide) (by decide) rfl inX3 tyX3 tyX3_ok nmX3 wd0 (fun _ h9 => h9) rfl (by first | rfl | decide) (by first | rfl | decide) dX3_gather_69 (fun H locs hD => ?_)
          refine hs_iinc (i := 4) (k := 4) (v := v4 + 1) (lv' := [(4, .int (v4 + 1)), (0, va_rf (v0)), (1, va_rf (v1)), (2, .int (v2)), (3, va_rf (v3))]) hx hb dX3_gather_72 hl rfl (congrArg (fun z => v4 + z) (by decide)) (by decide) (st_okR (st_okR (st_okI (st_okR (st_okI st_ok0))))) rfl (fun ls hl => ?_)
          refine lv_goto (tgt := 27) hx hb dX3_gather_75 (by decide) ?_
          exact ih v0 v1 v2 v3 (v4 + 1) _ _ _ _ _ _ hD (lv_sub hl [1, 2, 3, 4, 0] rfl) hf
  have hL7 : ∀ (n : Nat), ∀ (v0 : Option Nat) (v1 : Option Nat) (v2 : Int32) (σ : PS) (H : Heap) (locs : List Loc) (cells slots : Nat) (ls : Array Slot), Dy D G base E s.heap σ0 σ H locs cells slots → lv_has ls 5 [(0, va_rf (v0)), (1, va_rf (v1)), (2, .int (v2))] → f_X3_gather_L7 E n v0 v1 v2 σ = some (rv, τ) → W p l e R s m ([.ref a0, va_rf (p1)] : List Value).toArray below meth c H locs cells slots Q (F0 m 7 ls []) := by
    intro n
    induction n with
    | zero =>
      intro v0 v1 v2 σ H locs cells slots ls hD hl hf
      rw [f_X3_gather_L7] at hf
      cases hf
    | succ n ih =>
      intro v0 v1 v2 σ H locs cells slots ls hD hl hf
      rw [f_X3_gather_L7] at hf
      refine lv_iload_n hx hb dX3_gather_7 rfl (lv_at hl 2 rfl) ?_
      refine hw_aload_n (r := v1) hx hb dX3_gather_8 rfl (lv_at hl 1 rfl) ?_
      obtain ⟨b4, hv, hf⟩ := ob_s hf
      obtain ⟨e9, hk9⟩ := oK_of hv
      cases e9
      obtain ⟨r2, s3, hv, hf⟩ := ob_p hf
      refine hw_V (b := b4) (ci := 0) (T := TJx4a65c) (N := 3) (As := []) (rest := [.int (v2)]) S hKn hRm hD (c_Jx4a65c_size_8abf5 l D G base E hv) (mo_Jx4a65c_size_8abf5 hv) hk9 rfl (by decide) gX3_gather_Jx4a65c_size_8abf5 rfl 0 (by decide +kernel) ⟨by rw [hfr]; decide, by rw [hlo]; decide⟩ rfl hl.1 (Nat.le_trans (cs_I cs_0) (by decide)) rfl dX3_gather_9 (fun H locs cells slots hD => ?_)
      refine W.eq (g2 := F0 m 12 ls [.int (r2), .int (v2)]) rfl ?_
      refine lv_icmp_ge (tgt := 84) hx hb dX3_gather_12 (by decide) (fun hc => ?_) (fun hc => ?_)
      · rw [if_pos hc] at hf
        obtain ⟨-, e2⟩ := ret_eq hf
        rw [hQ, ← e2]
        exact hw_vret S hlk hret hD dX3_gather_84
      · rw [if_neg hc] at hf
        refine hw_aload_n (r := (some b4)) hx hb dX3_gather_15 rfl (lv_at hl 1 rfl) ?_
        refine lv_iload_n hx hb dX3_gather_16 rfl (lv_at hl 2 rfl) ?_
        obtain ⟨b7, hv, hf⟩ := ob_s hf
        obtain ⟨e9, hk9⟩ := oK_of hv
        cases e9
        obtain ⟨r5, s6, hv, hf⟩ := ob_p hf
        refine hw_V (b := b4) (ci := 0) (T := TJx4a65c) (N := 3) (As := [.int (v2)]) (rest := []) S hKn hRm hD (c_Jx4a65c_get_915e3 l D G base E hv) (mo_Jx4a65c_get_915e3 hv) hk9 rfl (by decide) gX3_gather_Jx4a65c_get_915e3 rfl 1 (by decide +kernel) ⟨by rw [hfr]; decide, by rw [hlo]; decide⟩ rfl hl.1 (Nat.le_trans cs_0 (by decide)) rfl dX3_gather_17 (fun H locs cells slots hD => ?_)
        refine W.eq (g2 := F0 m 20 ls [va_rf (r5)]) rfl ?_
        obtain ⟨u8, hv, hf⟩ := ob_s hf
        refine hw_ca (C := RX1) (T := TX1) (N := 6) S hKn hD hv rfl (by decide) wd1 dX3_gather_20 ?_
        refine hs_astore_n (i := 3) (lv' := [(3, va_rf (r5)), (0, va_rf (v0)), (1, va_rf ((some b4))), (2, .int (v2))]) hx hb dX3_gather_23 rfl hl (by decide) (st_okR (st_okR (st_okI st_ok0))) rfl (fun ls hl => ?_)
        refine lv_iconst (v := (0)) hx hb dX3_gather_24 (by decide) ?_
        refine hs_istore (i := 4) (lv' := [(4, .int ((0 : Int32))), (3, va_rf (r5)), (0, va_rf (v0)), (1, va_rf ((some b4))), (2, .int (v2))]) hx hb dX3_gather_25 hl (by decide) (st_okR (st_okR (st_okR (st_okI st_ok0)))) rfl (fun ls hl => ?_)
        exact hL27 _ ih _ v0 (some b4) v2 r5 (0 : Int32) _ _ _ _ _ _ hD (lv_sub hl [2, 3, 4, 1, 0] rfl) hf
  have hl : lv_has ls 5 [(0, va_rf (some a0)), (1, va_rf (p1))] := hl
  unfold g_X3_gather at hf
  refine hw_aload_n (r := (some a0)) hx hb dX3_gather_0 rfl (lv_at hl 0 rfl) ?_
  refine lv_iconst (v := (0)) hx hb dX3_gather_1 (by decide) ?_
  obtain ⟨s1, hv, hf⟩ := ob_s hf
  refine hw_pi (C := RX3) (T := TX3) (N := 4) (ref := "SolidGroups$RowMaker") S hKn hD hv rfl (by decide) (by decide) rfl inX3 tyX3 tyX3_ok nmX3 wd0 (fun _ h9 => h9) rfl (by first | rfl | decide) (by first | rfl | decide) dX3_gather_2 (fun H locs hD => ?_)
  refine lv_iconst (v := (0)) hx hb dX3_gather_5 (by decide) ?_
  refine hs_istore_n (i := 2) (lv' := [(2, .int ((0 : Int32))), (0, va_rf ((some a0))), (1, va_rf (p1))]) hx hb dX3_gather_6 rfl hl (by decide) (st_okR (st_okR st_ok0)) rfl (fun ls hl => ?_)
  exact hL7 _ (some a0) p1 (0 : Int32) _ _ _ _ _ _ hD (lv_sub hl [1, 2, 0] rfl) hf
set_option maxHeartbeats 4000000 in
set_option maxRecDepth 100000 in
theorem c_X3_sameBytes (l : Launch) (D : va_G) (G : GC) (base : Nat) (E : PE) {a0 : Nat} {p1 : Int32} {p2 : Int32} {p3 : Int32} {σ0 τ : PS} {rv : Int32} (hF : f_X3_sameBytes E (some a0) p1 p2 p3 σ0 = some (rv, τ)) : Ct l D G base E yX3_sameBytes wsX3_sameBytes 0 0 ([.ref a0, .int (p1), .int (p2), .int (p3)] : List Value) σ0 (some (.int rv)) τ := by
  obtain ⟨hf, hmo⟩ := oM_of hF
  refine Ct.of (own := RX3) [1, 1, 1, 1] (by decide) rfl rfl hmo (ct_R (ct_I (ct_I (ct_I ct_0)))) (by decide) ?_
  intro p e s m below meth c R Q ls H locs cells slots S hKn hRm hfr hlo hlk hret hnm hQ hD hl
  have hx := S.1
  have hb := S.2.1
  have hts := S.2.2.2.2
  have inX3 : ∀ w ∈ u_ws RX3 TX3 4, w ∈ wsX3_sameBytes := by decide +kernel
  have wd0 := hts (.fieldLink RX3 9 "SolidGroups$RowMaker" "content" "[I") (by decide +kernel)
  have hB36 : ∀ (v4 : Int32) (σ : PS) (H : Heap) (locs : List Loc) (cells slots : Nat) (ls : Array Slot), Dy D G base E s.heap σ0 σ H locs cells slots → lv_has ls 5 [(4, .int (v4))] → f_X3_sameBytes_B36 E v4 σ = some (rv, τ) → W p l e R s m ([.ref a0, .int (p1), .int (p2), .int (p3)] : List Value).toArray below meth c H locs cells slots Q (F0 m 36 ls []) := by
    intro v4 σ H locs cells slots ls hD hl hf
    unfold f_X3_sameBytes_B36 at hf
    refine lv_iload hx hb dX3_sameBytes_36 (lv_at hl 0 rfl) ?_
    obtain ⟨e1, e2⟩ := ret_eq hf
    rw [hQ, ← e1, ← e2]
    exact hw_iret S hlk hret rfl hD dX3_sameBytes_38
  have hL3 : ∀ (n : Nat), ∀ (v0 : Option Nat) (v1 : Int32) (v2 : Int32) (v3 : Int32) (v4 : Int32) (σ : PS) (H : Heap) (locs : List Loc) (cells slots : Nat) (ls : Array Slot), Dy D G base E s.heap σ0 σ H locs cells slots → lv_has ls 5 [(0, va_rf (v0)), (1, .int (v1)), (2, .int (v2)), (3, .int (v3)), (4, .int (v4))] → f_X3_sameBytes_L3 E n v0 v1 v2 v3 v4 σ = some (rv, τ) → W p l e R s m ([.ref a0, .int (p1), .int (p2), .int (p3)] : List Value).toArray below meth c H locs cells slots Q (F0 m 3 ls []) := by
    intro n
    induction n with
    | zero =>
      intro v0 v1 v2 v3 v4 σ H locs cells slots ls hD hl hf
      rw [f_X3_sameBytes_L3] at hf
      cases hf
    | succ n ih =>
      intro v0 v1 v2 v3 v4 σ H locs cells slots ls hD hl hf
      rw [f_X3_sameBytes_L3] at hf
      refine lv_iload hx hb dX3_sameBytes_3 (lv_at hl 4 rfl) ?_
      refine lv_iload_n hx hb dX3_sameBytes_5 rfl (lv_at hl 3 rfl) ?_
      refine lv_icmp_ge (tgt := 36) hx hb dX3_sameBytes_6 (by decide) (fun hc => ?_) (fun hc => ?_)
      · rw [if_pos hc] at hf
        exact hB36 v4 _ _ _ _ _ _ hD (lv_sub hl [4] rfl) hf
      · rw [if_neg hc] at hf
        refine hw_aload_n (r := v0) hx hb dX3_sameBytes_9 rfl (lv_at hl 0 rfl) ?_
        obtain ⟨x1, hv, hf⟩ := ob_s hf
        refine hw_gr (C := RX3) (T := TX3) (N := 4) (ref := "SolidGroups$RowMaker") S hKn hD hv rfl (by decide) (by decide) rfl inX3 wd0 (fun _ h9 => h9) dX3_sameBytes_10 ?_
        refine lv_iload_n hx hb dX3_sameBytes_13 rfl (lv_at hl 1 rfl) ?_
        refine lv_iload hx hb dX3_sameBytes_14 (lv_at hl 4 rfl) ?_
        refine lv_iadd hx hb dX3_sameBytes_16 ?_
        obtain ⟨x2, hv, hf⟩ := ob_s hf
        refine hw_al S hKn hD hv dX3_sameBytes_17 ?_
        refine hw_aload_n (r := v0) hx hb dX3_sameBytes_18 rfl (lv_at hl 0 rfl) ?_
        obtain ⟨x3, hv, hf⟩ := ob_s hf
        refine hw_gr (C := RX3) (T := TX3) (N := 4) (ref := "SolidGroups$RowMaker") S hKn hD hv rfl (by decide) (by decide) rfl inX3 wd0 (fun _ h9 => h9) dX3_sameBytes_19 ?_
        refine lv_iload_n hx hb dX3_sameBytes_22 rfl (lv_at hl 2 rfl) ?_
        refine lv_iload hx hb dX3_sameBytes_23 (lv_at hl 4 rfl) ?_
        refine lv_iadd hx hb dX3_sameBytes_25 ?_
        obtain ⟨x4, hv, hf⟩ := ob_s hf
        refine hw_al S hKn hD hv dX3_sameBytes_26 ?_
        refine lv_icmp_ne (tgt := 36) hx hb dX3_sameBytes_27 (by decide) (fun hc => ?_) (fun hc => ?_)
        · rw [if_neg hc] at hf
          exact hB36 v4 _ _ _ _ _ _ hD (lv_sub hl [4] rfl) hf
        · rw [if_pos hc] at hf
          refine hs_iinc (i := 4) (k := 4) (v := v4 + 1) (lv' := [(4, .int (v4 + 1)), (0, va_rf (v0)), (1, .int (v1)), (2, .int (v2)), (3, .int (v3))]) hx hb dX3_sameBytes_30 hl rfl (congrArg (fun z => v4 + z) (by decide)) (by decide) (st_okR (st_okI (st_okI (st_okI (st_okI st_ok0))))) rfl (fun ls hl => ?_)
          refine lv_goto (tgt := 3) hx hb dX3_sameBytes_33 (by decide) ?_
          exact ih v0 v1 v2 v3 (v4 + 1) _ _ _ _ _ _ hD (lv_sub hl [1, 2, 3, 4, 0] rfl) hf
  have hl : lv_has ls 5 [(0, va_rf (some a0)), (1, .int (p1)), (2, .int (p2)), (3, .int (p3))] := hl
  unfold g_X3_sameBytes at hf
  refine lv_iconst (v := (0)) hx hb dX3_sameBytes_0 (by decide) ?_
  refine hs_istore (i := 4) (lv' := [(4, .int ((0 : Int32))), (0, va_rf ((some a0))), (1, .int (p1)), (2, .int (p2)), (3, .int (p3))]) hx hb dX3_sameBytes_1 hl (by decide) (st_okR (st_okI (st_okI (st_okI st_ok0)))) rfl (fun ls hl => ?_)
  exact hL3 _ (some a0) p1 p2 p3 (0 : Int32) _ _ _ _ _ _ hD (lv_sub hl [1, 2, 3, 4, 0] rfl) hf
set_option maxHeartbeats 4000000 in
set_option maxRecDepth 100000 in
theorem c_X3_findCopy (l : Launch) (D : va_G) (G : GC) (base : Nat) (E : PE) {a0 : Nat} {p1 : Int32} {σ0 τ : PS} {rv : Unit} (hF : f_X3_findCopy E (some a0) p1 σ0 = some (rv, τ)) : Ct l D G base E yX3_findCopy wsX3_findCopy 1 60 ([.ref a0, .int (p1)] : List Value) σ0 none τ := by
  obtain ⟨hf, hmo⟩ := oM_of hF
  refine Ct.of (own := RX3) [1, 1] (by decide) rfl rfl hmo (ct_R (ct_I ct_0)) (by decide) ?_
  intro p e s m below meth c R Q ls H locs cells slots S hKn hRm hfr hlo hlk hret hnm hQ hD hl
  have hx := S.1
  have hb := S.2.1
  have hts := S.2.2.2.2
  have inX3 : ∀ w ∈ u_ws RX3 TX3 4, w ∈ wsX3_findCopy := by decide +kernel
  have wd0 := hts (.fieldLink RX3 15 "SolidGroups$RowMaker" "length" "I") (by decide +kernel)
  have wd1 := hts (.methodLink RX3 71 Lib.Math.min.name) (by decide +kernel)
  have wd2 := hts (.static Lib.Math.min.name) (by decide +kernel)
  have wd3 := hts (.initialized "java/lang/Math") (by decide +kernel)
  have wd4 := hts (.code Lib.Math.min.name Lib.Math.min.code 2 (some .int)) (by decide +kernel)
  have wd5 := hts (.fieldLink RX3 19 "SolidGroups$RowMaker" "foundBack" "I") (by decide +kernel)
  have wd6 := hts (.fieldLink RX3 22 "SolidGroups$RowMaker" "foundMany" "I") (by decide +kernel)
  have hB74 : ∀ (σ : PS) (H : Heap) (locs : List Loc) (cells slots : Nat) (ls : Array Slot), Dy D G base E s.heap σ0 σ H locs cells slots → lv_has ls 5 [] → f_X3_findCopy_B74 E σ = some (rv, τ) → W p l e R s m ([.ref a0, .int (p1)] : List Value).toArray below meth c H locs cells slots Q (F0 m 74 ls []) := by
    intro σ H locs cells slots ls hD hl hf
    unfold f_X3_findCopy_B74 at hf
    obtain ⟨-, e2⟩ := ret_eq hf
    rw [hQ, ← e2]
    exact hw_vret S hlk hret hD dX3_findCopy_74
  have hB68 : ∀ (k24 : Option Nat → Int32 → Int32 → Int32 → PS → Option (Unit × PS)) (hk24 : ∀ (z0 : Option Nat) (z1 : Int32) (z2 : Int32) (z3 : Int32) (σ : PS) (H : Heap) (locs : List Loc) (cells slots : Nat) (ls : Array Slot), Dy D G base E s.heap σ0 σ H locs cells slots → lv_has ls 5 [(0, va_rf (z0)), (1, .int (z1)), (2, .int (z2)), (3, .int (z3))] → k24 z0 z1 z2 z3 σ = some (rv, τ) → W p l e R s m ([.ref a0, .int (p1)] : List Value).toArray below meth c H locs cells slots Q (F0 m 24 ls [])), ∀ (v0 : Option Nat) (v1 : Int32) (v2 : Int32) (v3 : Int32) (σ : PS) (H : Heap) (locs : List Loc) (cells slots : Nat) (ls : Array Slot), Dy D G base E s.heap σ0 σ H locs cells slots → lv_has ls 5 [(0, va_rf (v0)), (1, .int (v1)), (2, .int (v2)), (3, .int (v3))] → f_X3_findCopy_B68 E k24 v0 v1 v2 v3 σ = some (rv, τ) → W p l e R s m ([.ref a0, .int (p1)] : List Value).toArray below meth c H locs cells slots Q (F0 m 68 ls []) := by
    intro k24 hk24 v0 v1 v2 v3 σ H locs cells slots ls hD hl hf
    unfold f_X3_findCopy_B68 at hf
    refine hs_iinc (i := 3) (k := 3) (v := v3 + 1) (lv' := [(3, .int (v3 + 1)), (0, va_rf (v0)), (1, .int (v1)), (2, .int (v2))]) hx hb dX3_findCopy_68 hl rfl (congrArg (fun z => v3 + z) (by decide)) (by decide) (st_okR (st_okI (st_okI (st_okI st_ok0)))) rfl (fun ls hl => ?_)
    refine lv_goto (tgt := 24) hx hb dX3_findCopy_71 (by decide) ?_
    exact hk24 v0 v1 v2 (v3 + 1) _ _ _ _ _ _ hD (lv_sub hl [1, 2, 3, 0] rfl) hf
  have hL24 : ∀ (n : Nat), ∀ (v0 : Option Nat) (v1 : Int32) (v2 : Int32) (v3 : Int32) (σ : PS) (H : Heap) (locs : List Loc) (cells slots : Nat) (ls : Array Slot), Dy D G base E s.heap σ0 σ H locs cells slots → lv_has ls 5 [(0, va_rf (v0)), (1, .int (v1)), (2, .int (v2)), (3, .int (v3))] → f_X3_findCopy_L24 E n v0 v1 v2 v3 σ = some (rv, τ) → W p l e R s m ([.ref a0, .int (p1)] : List Value).toArray below meth c H locs cells slots Q (F0 m 24 ls []) := by
    intro n
    induction n with
    | zero =>
      intro v0 v1 v2 v3 σ H locs cells slots ls hD hl hf
      rw [f_X3_findCopy_L24] at hf
      cases hf
    | succ n ih =>
      intro v0 v1 v2 v3 σ H locs cells slots ls hD hl hf
      rw [f_X3_findCopy_L24] at hf
      refine lv_iload_n hx hb dX3_findCopy_24 rfl (lv_at hl 3 rfl) ?_
      refine lv_iload_n hx hb dX3_findCopy_25 rfl (lv_at hl 1 rfl) ?_
      refine lv_icmp_gt (tgt := 74) hx hb dX3_findCopy_26 (by decide) (fun hc => ?_) (fun hc => ?_)
      · rw [if_pos hc] at hf
        exact hB74 _ _ _ _ _ _ hD (lv_sub hl [] rfl) hf
      · rw [if_neg hc] at hf
        refine hw_aload_n (r := v0) hx hb dX3_findCopy_29 rfl (lv_at hl 0 rfl) ?_
        obtain ⟨x4, hv, hf⟩ := ob_s hf
        refine hw_gi (C := RX3) (T := TX3) (N := 4) (ref := "SolidGroups$RowMaker") S hKn hD hv rfl (by decide) (by decide) rfl inX3 wd6 (fun _ h9 => h9) dX3_findCopy_30 ?_
        refine lv_iload_n hx hb dX3_findCopy_33 rfl (lv_at hl 2 rfl) ?_
        refine lv_icmp_ge (tgt := 74) hx hb dX3_findCopy_34 (by decide) (fun hc => ?_) (fun hc => ?_)
        · rw [if_pos hc] at hf
          exact hB74 _ _ _ _ _ _ hD (lv_sub hl [] rfl) hf
        · rw [if_neg hc] at hf
          refine hw_aload_n (r := v0) hx hb dX3_findCopy_37 rfl (lv_at hl 0 rfl) ?_
          refine lv_iload_n hx hb dX3_findCopy_38 rfl (lv_at hl 1 rfl) ?_
          refine lv_iload_n hx hb dX3_findCopy_39 rfl (lv_at hl 3 rfl) ?_
          refine lv_isub hx hb dX3_findCopy_40 ?_
          refine lv_iload_n hx hb dX3_findCopy_41 rfl (lv_at hl 1 rfl) ?_
          refine lv_iload_n hx hb dX3_findCopy_42 rfl (lv_at hl 2 rfl) ?_
          obtain ⟨b7, hv, hf⟩ := ob_s hf
          obtain ⟨e9, hk9⟩ := oK_of hv
          cases e9
          obtain ⟨r5, s6, hv, hf⟩ := ob_p hf
          refine hw_V (b := b7) (ci := 4) (T := TX3) (N := 4) (As := [.int (v1 - v3), .int (v1), .int (v2)]) (rest := []) S hKn hRm hD (c_X3_sameBytes l D G base E hv) (mo_X3_sameBytes hv) hk9 rfl (by decide) gX3_findCopy_X3_sameBytes rfl 3 (by decide +kernel) ⟨by rw [hfr]; decide, by rw [hlo]; decide⟩ rfl hl.1 (Nat.le_trans cs_0 (by decide)) rfl dX3_findCopy_43 (fun H locs cells slots hD => ?_)
          refine W.eq (g2 := F0 m 46 ls [.int (r5)]) rfl ?_
          refine hs_istore (i := 4) (lv' := [(4, .int (r5)), (0, va_rf ((some b7))), (1, .int (v1)), (2, .int (v2)), (3, .int (v3))]) hx hb dX3_findCopy_46 hl (by decide) (st_okR (st_okI (st_okI (st_okI st_ok0)))) rfl (fun ls hl => ?_)
          refine lv_iload hx hb dX3_findCopy_48 (lv_at hl 0 rfl) ?_
          refine hw_aload_n (r := (some b7)) hx hb dX3_findCopy_50 rfl (lv_at hl 1 rfl) ?_
          obtain ⟨x8, hv, hf⟩ := ob_s hf
          refine hw_gi (C := RX3) (T := TX3) (N := 4) (ref := "SolidGroups$RowMaker") S hKn hD hv rfl (by decide) (by decide) rfl inX3 wd6 (fun _ h9 => h9) dX3_findCopy_51 ?_
          refine lv_icmp_le (tgt := 68) hx hb dX3_findCopy_54 (by decide) (fun hc => ?_) (fun hc => ?_)
          · rw [if_pos hc] at hf
            exact hB68 _ ih (some b7) v1 v2 v3 _ _ _ _ _ _ hD (lv_sub hl [1, 2, 3, 4] rfl) hf
          · rw [if_neg hc] at hf
            refine hw_aload_n (r := (some b7)) hx hb dX3_findCopy_57 rfl (lv_at hl 1 rfl) ?_
            refine lv_iload_n hx hb dX3_findCopy_58 rfl (lv_at hl 4 rfl) ?_
            obtain ⟨s9, hv, hf⟩ := ob_s hf
            refine hw_pi (C := RX3) (T := TX3) (N := 4) (ref := "SolidGroups$RowMaker") S hKn hD hv rfl (by decide) (by decide) rfl inX3 tyX3 tyX3_ok nmX3 wd5 (fun _ h9 => h9) rfl (by first | rfl | decide) (by first | rfl | decide) dX3_findCopy_59 (fun H locs hD => ?_)
            refine hw_aload_n (r := (some b7)) hx hb dX3_findCopy_62 rfl (lv_at hl 1 rfl) ?_
            refine lv_iload hx hb dX3_findCopy_63 (lv_at hl 0 rfl) ?_
            obtain ⟨s10, hv, hf⟩ := ob_s hf
            refine hw_pi (C := RX3) (T := TX3) (N := 4) (ref := "SolidGroups$RowMaker") S hKn hD hv rfl (by decide) (by decide) rfl inX3 tyX3 tyX3_ok nmX3 wd6 (fun _ h9 => h9) rfl (by first | rfl | decide) (by first | rfl | decide) dX3_findCopy_65 (fun H locs hD => ?_)
            exact hB68 _ ih (some b7) v1 v2 v3 _ _ _ _ _ _ hD (lv_sub hl [1, 2, 3, 4] rfl) hf
  have hl : lv_has ls 5 [(0, va_rf (some a0)), (1, .int (p1))] := hl
  unfold g_X3_findCopy at hf
  refine lv_bipush (v := (60)) hx hb dX3_findCopy_0 (by decide) ?_
  refine hw_aload_n (r := (some a0)) hx hb dX3_findCopy_2 rfl (lv_at hl 0 rfl) ?_
  obtain ⟨x1, hv, hf⟩ := ob_s hf
  refine hw_gi (C := RX3) (T := TX3) (N := 4) (ref := "SolidGroups$RowMaker") S hKn hD hv rfl (by decide) (by decide) rfl inX3 wd0 (fun _ h9 => h9) dX3_findCopy_3 ?_
  refine lv_iload_n hx hb dX3_findCopy_6 rfl (lv_at hl 1 rfl) ?_
  refine lv_isub hx hb dX3_findCopy_7 ?_
  refine va_mmin hx hb (S.2.2.1.trans hl.1.symm) S.2.2.2.1 wd1 wd2 wd3 wd4 (by rw [hfr]; decide) (by rw [hlo]; exact Nat.le_trans (Nat.add_le_add_right cs_0 13) (by decide)) (by have := hw_room hRm hD; omega) (by have := hw_room hRm hD; omega) dX3_findCopy_8 ?_
  refine hs_istore_n (i := 2) (lv' := [(2, .int ((if (x1 - p1) < (60 : Int32) then x1 - p1 else (60 : Int32)))), (0, va_rf ((some a0))), (1, .int (p1))]) hx hb dX3_findCopy_11 rfl hl (by decide) (st_okR (st_okI st_ok0)) rfl (fun ls hl => ?_)
  refine hw_aload_n (r := (some a0)) hx hb dX3_findCopy_12 rfl (lv_at hl 1 rfl) ?_
  refine lv_iconst (v := (0)) hx hb dX3_findCopy_13 (by decide) ?_
  obtain ⟨s2, hv, hf⟩ := ob_s hf
  refine hw_pi (C := RX3) (T := TX3) (N := 4) (ref := "SolidGroups$RowMaker") S hKn hD hv rfl (by decide) (by decide) rfl inX3 tyX3 tyX3_ok nmX3 wd5 (fun _ h9 => h9) rfl (by first | rfl | decide) (by first | rfl | decide) dX3_findCopy_14 (fun H locs hD => ?_)
  refine hw_aload_n (r := (some a0)) hx hb dX3_findCopy_17 rfl (lv_at hl 1 rfl) ?_
  refine lv_iconst (v := (0)) hx hb dX3_findCopy_18 (by decide) ?_
  obtain ⟨s3, hv, hf⟩ := ob_s hf
  refine hw_pi (C := RX3) (T := TX3) (N := 4) (ref := "SolidGroups$RowMaker") S hKn hD hv rfl (by decide) (by decide) rfl inX3 tyX3 tyX3_ok nmX3 wd6 (fun _ h9 => h9) rfl (by first | rfl | decide) (by first | rfl | decide) dX3_findCopy_19 (fun H locs hD => ?_)
  refine lv_iconst (v := (1)) hx hb dX3_findCopy_22 (by decide) ?_
  refine hs_istore_n (i := 3) (lv' := [(3, .int ((1 : Int32))), (2, .int ((if (x1 - p1) < (60 : Int32) then x1 - p1 else (60 : Int32)))), (0, va_rf ((some a0))), (1, .int (p1))]) hx hb dX3_findCopy_23 rfl hl (by decide) (st_okI (st_okR (st_okI st_ok0))) rfl (fun ls hl => ?_)
  exact hL24 _ (some a0) p1 (if (x1 - p1) < (60 : Int32) then x1 - p1 else (60 : Int32)) (1 : Int32) _ _ _ _ _ _ hD (lv_sub hl [2, 3, 1, 0] rfl) hf
set_option maxHeartbeats 4000000 in
set_option maxRecDepth 100000 in
theorem c_X4_addToken (l : Launch) (D : va_G) (G : GC) (base : Nat) (E : PE) {a0 : Nat} {p1 : Int32} {p2 : Int32} {p3 : Int32} {σ0 τ : PS} {rv : Unit} (hF : f_X4_addToken E (some a0) p1 p2 p3 σ0 = some (rv, τ)) : Ct l D G base E yX4_addToken wsX4_addToken 0 0 ([.ref a0, .int (p1), .int (p2), .int (p3)] : List Value) σ0 none τ := by
  obtain ⟨hf, hmo⟩ := oM_of hF
  refine Ct.of (own := RX4) [1, 1, 1, 1] (by decide) rfl rfl hmo (ct_R (ct_I (ct_I (ct_I ct_0)))) (by decide) ?_
  intro p e s m below meth c R Q ls H locs cells slots S hKn hRm hfr hlo hlk hret hnm hQ hD hl
  have hx := S.1
  have hb := S.2.1
  have hts := S.2.2.2.2
  have inX4 : ∀ w ∈ u_ws RX4 TX4 5, w ∈ wsX4_addToken := by decide +kernel
  have wd0 := hts (.fieldLink RX4 21 "SolidGroups$TokenRow" "count" "I") (by decide +kernel)
  have wd1 := hts (.fieldLink RX4 9 "SolidGroups$TokenRow" "value" "[I") (by decide +kernel)
  have wd2 := hts (.fieldLink RX4 15 "SolidGroups$TokenRow" "back" "[I") (by decide +kernel)
  have wd3 := hts (.fieldLink RX4 18 "SolidGroups$TokenRow" "many" "[I") (by decide +kernel)
  have hB50 : ∀ (σ : PS) (H : Heap) (locs : List Loc) (cells slots : Nat) (ls : Array Slot), Dy D G base E s.heap σ0 σ H locs cells slots → lv_has ls 4 [] → f_X4_addToken_B50 E σ = some (rv, τ) → W p l e R s m ([.ref a0, .int (p1), .int (p2), .int (p3)] : List Value).toArray below meth c H locs cells slots Q (F0 m 50 ls []) := by
    intro σ H locs cells slots ls hD hl hf
    unfold f_X4_addToken_B50 at hf
    obtain ⟨-, e2⟩ := ret_eq hf
    rw [hQ, ← e2]
    exact hw_vret S hlk hret hD dX4_addToken_50
  have hl : lv_has ls 4 [(0, va_rf (some a0)), (1, .int (p1)), (2, .int (p2)), (3, .int (p3))] := hl
  unfold g_X4_addToken at hf
  refine hw_aload_n (r := (some a0)) hx hb dX4_addToken_0 rfl (lv_at hl 0 rfl) ?_
  obtain ⟨x1, hv, hf⟩ := ob_s hf
  refine hw_gi (C := RX4) (T := TX4) (N := 5) (ref := "SolidGroups$TokenRow") S hKn hD hv rfl (by decide) (by decide) rfl inX4 wd0 (fun _ h9 => h9) dX4_addToken_1 ?_
  refine lv_sipush (v := (400)) hx hb dX4_addToken_4 (by decide) ?_
  refine lv_icmp_ge (tgt := 50) hx hb dX4_addToken_7 (by decide) (fun hc => ?_) (fun hc => ?_)
  · rw [if_pos hc] at hf
    exact hB50 _ _ _ _ _ _ hD (lv_sub hl [] rfl) hf
  · rw [if_neg hc] at hf
    refine hw_aload_n (r := (some a0)) hx hb dX4_addToken_10 rfl (lv_at hl 0 rfl) ?_
    obtain ⟨x2, hv, hf⟩ := ob_s hf
    refine hw_gr (C := RX4) (T := TX4) (N := 5) (ref := "SolidGroups$TokenRow") S hKn hD hv rfl (by decide) (by decide) rfl inX4 wd1 (fun _ h9 => h9) dX4_addToken_11 ?_
    refine hw_aload_n (r := (some a0)) hx hb dX4_addToken_14 rfl (lv_at hl 0 rfl) ?_
    obtain ⟨x3, hv, hf⟩ := ob_s hf
    refine hw_gi (C := RX4) (T := TX4) (N := 5) (ref := "SolidGroups$TokenRow") S hKn hD hv rfl (by decide) (by decide) rfl inX4 wd0 (fun _ h9 => h9) dX4_addToken_15 ?_
    refine lv_iload_n hx hb dX4_addToken_18 rfl (lv_at hl 1 rfl) ?_
    obtain ⟨s4, hv, hf⟩ := ob_s hf
    refine hw_as S hKn hD hv dX4_addToken_19 (fun H locs hD => ?_)
    refine hw_aload_n (r := (some a0)) hx hb dX4_addToken_20 rfl (lv_at hl 0 rfl) ?_
    obtain ⟨x5, hv, hf⟩ := ob_s hf
    refine hw_gr (C := RX4) (T := TX4) (N := 5) (ref := "SolidGroups$TokenRow") S hKn hD hv rfl (by decide) (by decide) rfl inX4 wd2 (fun _ h9 => h9) dX4_addToken_21 ?_
    refine hw_aload_n (r := (some a0)) hx hb dX4_addToken_24 rfl (lv_at hl 0 rfl) ?_
    obtain ⟨x6, hv, hf⟩ := ob_s hf
    refine hw_gi (C := RX4) (T := TX4) (N := 5) (ref := "SolidGroups$TokenRow") S hKn hD hv rfl (by decide) (by decide) rfl inX4 wd0 (fun _ h9 => h9) dX4_addToken_25 ?_
    refine lv_iload_n hx hb dX4_addToken_28 rfl (lv_at hl 2 rfl) ?_
    obtain ⟨s7, hv, hf⟩ := ob_s hf
    refine hw_as S hKn hD hv dX4_addToken_29 (fun H locs hD => ?_)
    refine hw_aload_n (r := (some a0)) hx hb dX4_addToken_30 rfl (lv_at hl 0 rfl) ?_
    obtain ⟨x8, hv, hf⟩ := ob_s hf
    refine hw_gr (C := RX4) (T := TX4) (N := 5) (ref := "SolidGroups$TokenRow") S hKn hD hv rfl (by decide) (by decide) rfl inX4 wd3 (fun _ h9 => h9) dX4_addToken_31 ?_
    refine hw_aload_n (r := (some a0)) hx hb dX4_addToken_34 rfl (lv_at hl 0 rfl) ?_
    obtain ⟨x9, hv, hf⟩ := ob_s hf
    refine hw_gi (C := RX4) (T := TX4) (N := 5) (ref := "SolidGroups$TokenRow") S hKn hD hv rfl (by decide) (by decide) rfl inX4 wd0 (fun _ h9 => h9) dX4_addToken_35 ?_
    refine lv_iload_n hx hb dX4_addToken_38 rfl (lv_at hl 3 rfl) ?_
    obtain ⟨s10, hv, hf⟩ := ob_s hf
    refine hw_as S hKn hD hv dX4_addToken_39 (fun H locs hD => ?_)
    refine hw_aload_n (r := (some a0)) hx hb dX4_addToken_40 rfl (lv_at hl 0 rfl) ?_
    refine lv_dup hx hb dX4_addToken_41 (va_rf_cat _) ?_
    obtain ⟨x11, hv, hf⟩ := ob_s hf
    refine hw_gi (C := RX4) (T := TX4) (N := 5) (ref := "SolidGroups$TokenRow") S hKn hD hv rfl (by decide) (by decide) rfl inX4 wd0 (fun _ h9 => h9) dX4_addToken_42 ?_
    refine lv_iconst (v := (1)) hx hb dX4_addToken_45 (by decide) ?_
    refine lv_iadd hx hb dX4_addToken_46 ?_
    obtain ⟨s12, hv, hf⟩ := ob_s hf
    refine hw_pi (C := RX4) (T := TX4) (N := 5) (ref := "SolidGroups$TokenRow") S hKn hD hv rfl (by decide) (by decide) rfl inX4 tyX4 tyX4_ok nmX4 wd0 (fun _ h9 => h9) rfl (by first | rfl | decide) (by first | rfl | decide) dX4_addToken_47 (fun H locs hD => ?_)
    exact hB50 _ _ _ _ _ _ hD (lv_sub hl [] rfl) hf
