set_option maxHeartbeats 4000000 in
set_option maxRecDepth 100000 in
theorem c_X6_common (l : Launch) (D : va_G) (G : GC) (base : Nat) (E : PE) {a0 : Nat} {p1 : Int32} {p2 : Int32} {σ0 τ : PS} {rv : Int32} (hF : f_X6_common E (some a0) p1 p2 σ0 = some (rv, τ)) : Ct l D G base E yX6_common wsX6_common 2 48 ([.ref a0, .int (p1), .int (p2)] : List Value) σ0 (some (.int rv)) τ := by
  obtain ⟨hf, hmo⟩ := oM_of hF
  refine Ct.of (own := RX6) [1, 1, 1] (by decide) rfl rfl hmo (ct_R (ct_I (ct_I ct_0))) (by decide) ?_
  intro p e s m below meth c R Q ls H locs cells slots S hKn hRm hfr hlo hlk hret hnm hQ hD hl
  have hx := S.1
  have hb := S.2.1
  have hts := S.2.2.2.2
  have hB26 : ∀ (w0 : Int32) (σ : PS) (H : Heap) (locs : List Loc) (cells slots : Nat) (ls : Array Slot), Dy D G base E s.heap σ0 σ H locs cells slots → lv_has ls 3 [] → f_X6_common_B26 E w0 σ = some (rv, τ) → W p l e R s m ([.ref a0, .int (p1), .int (p2)] : List Value).toArray below meth c H locs cells slots Q (F0 m 26 ls [.int (w0)]) := by
    intro w0 σ H locs cells slots ls hD hl hf
    unfold f_X6_common_B26 at hf
    obtain ⟨e1, e2⟩ := ret_eq hf
    rw [hQ, ← e1, ← e2]
    exact hw_iret S hlk hret rfl hD dX6_common_26
  have hB25 : ∀ (σ : PS) (H : Heap) (locs : List Loc) (cells slots : Nat) (ls : Array Slot), Dy D G base E s.heap σ0 σ H locs cells slots → lv_has ls 3 [] → f_X6_common_B25 E σ = some (rv, τ) → W p l e R s m ([.ref a0, .int (p1), .int (p2)] : List Value).toArray below meth c H locs cells slots Q (F0 m 25 ls []) := by
    intro σ H locs cells slots ls hD hl hf
    unfold f_X6_common_B25 at hf
    refine lv_iconst (v := (-1)) hx hb dX6_common_25 (by decide) ?_
    exact hB26 (-1 : Int32) _ _ _ _ _ _ hD (lv_sub hl [] rfl) hf
  have hl : lv_has ls 3 [(0, va_rf (some a0)), (1, .int (p1)), (2, .int (p2))] := hl
  unfold g_X6_common at hf
  refine hw_aload_n (r := (some a0)) hx hb dX6_common_0 rfl (lv_at hl 0 rfl) ?_
  refine lv_iload_n hx hb dX6_common_1 rfl (lv_at hl 1 rfl) ?_
  obtain ⟨b3, hv, hf⟩ := ob_s hf
  obtain ⟨e9, hk9⟩ := oK_of hv
  cases e9
  obtain ⟨r1, s2, hv, hf⟩ := ob_p hf
  refine hw_V (b := a0) (ci := 7) (T := TX6) (N := 23) (As := [.int (p1)]) (rest := []) S hKn hRm hD (c_X6_isEntry l D G base E hv) (mo_X6_isEntry hv) hk9 rfl (by decide) gX6_common_X6_isEntry rfl 1 (by decide +kernel) ⟨by rw [hfr]; decide, by rw [hlo]; decide⟩ rfl hl.1 (Nat.le_trans cs_0 (by decide)) rfl dX6_common_2 (fun H locs cells slots hD => ?_)
  refine W.eq (g2 := F0 m 5 ls [.int (r1)]) rfl ?_
  refine lv_if_eq (tgt := 25) hx hb dX6_common_5 (by decide) (fun hc => ?_) (fun hc => ?_)
  · rw [if_pos hc] at hf
    exact hB25 _ _ _ _ _ _ hD (lv_sub hl [] rfl) hf
  · rw [if_neg hc] at hf
    refine hw_aload_n (r := (some a0)) hx hb dX6_common_8 rfl (lv_at hl 0 rfl) ?_
    refine lv_iload_n hx hb dX6_common_9 rfl (lv_at hl 2 rfl) ?_
    obtain ⟨b6, hv, hf⟩ := ob_s hf
    obtain ⟨e9, hk9⟩ := oK_of hv
    cases e9
    obtain ⟨r4, s5, hv, hf⟩ := ob_p hf
    refine hw_V (b := a0) (ci := 7) (T := TX6) (N := 23) (As := [.int (p2)]) (rest := []) S hKn hRm hD (c_X6_isEntry l D G base E hv) (mo_X6_isEntry hv) hk9 rfl (by decide) gX6_common_X6_isEntry rfl 1 (by decide +kernel) ⟨by rw [hfr]; decide, by rw [hlo]; decide⟩ rfl hl.1 (Nat.le_trans cs_0 (by decide)) rfl dX6_common_10 (fun H locs cells slots hD => ?_)
    refine W.eq (g2 := F0 m 13 ls [.int (r4)]) rfl ?_
    refine lv_if_eq (tgt := 25) hx hb dX6_common_13 (by decide) (fun hc => ?_) (fun hc => ?_)
    · rw [if_pos hc] at hf
      exact hB25 _ _ _ _ _ _ hD (lv_sub hl [] rfl) hf
    · rw [if_neg hc] at hf
      refine hw_aload_n (r := (some a0)) hx hb dX6_common_16 rfl (lv_at hl 0 rfl) ?_
      refine lv_iload_n hx hb dX6_common_17 rfl (lv_at hl 1 rfl) ?_
      refine lv_iload_n hx hb dX6_common_18 rfl (lv_at hl 2 rfl) ?_
      obtain ⟨b9, hv, hf⟩ := ob_s hf
      obtain ⟨e9, hk9⟩ := oK_of hv
      cases e9
      obtain ⟨r7, s8, hv, hf⟩ := ob_p hf
      refine hw_V (b := a0) (ci := 7) (T := TX6) (N := 23) (As := [.int (p1), .int (p2)]) (rest := []) S hKn hRm hD (c_X6_commonOf l D G base E hv) (mo_X6_commonOf hv) hk9 rfl (by decide) gX6_common_X6_commonOf rfl 2 (by decide +kernel) ⟨by rw [hfr]; decide, by rw [hlo]; decide⟩ rfl hl.1 (Nat.le_trans cs_0 (by decide)) rfl dX6_common_19 (fun H locs cells slots hD => ?_)
      refine W.eq (g2 := F0 m 22 ls [.int (r7)]) rfl ?_
      refine lv_goto (tgt := 26) hx hb dX6_common_22 (by decide) ?_
      exact hB26 r7 _ _ _ _ _ _ hD (lv_sub hl [] rfl) hf
set_option maxHeartbeats 4000000 in
set_option maxRecDepth 100000 in
theorem c_X6_thrown (l : Launch) (D : va_G) (G : GC) (base : Nat) (E : PE) {a0 : Nat} {σ0 τ : PS} {rv : Int32} (hF : f_X6_thrown E (some a0) σ0 = some (rv, τ)) : Ct l D G base E yX6_thrown wsX6_thrown 0 0 ([.ref a0] : List Value) σ0 (some (.int rv)) τ := by
  obtain ⟨hf, hmo⟩ := oM_of hF
  refine Ct.of (own := RX6) [1] (by decide) rfl rfl hmo (ct_R ct_0) (by decide) ?_
  intro p e s m below meth c R Q ls H locs cells slots S hKn hRm hfr hlo hlk hret hnm hQ hD hl
  have hx := S.1
  have hb := S.2.1
  have hts := S.2.2.2.2
  have inX6 : ∀ w ∈ u_ws RX6 TX6 23, w ∈ wsX6_thrown := by decide +kernel
  have wd0 := hts (.fieldLink RX6 84 "SolidGroupsModel" "code" "I") (by decide +kernel)
  have hl : lv_has ls 1 [(0, va_rf (some a0))] := hl
  unfold g_X6_thrown at hf
  refine hw_aload_n (r := (some a0)) hx hb dX6_thrown_0 rfl (lv_at hl 0 rfl) ?_
  obtain ⟨x1, hv, hf⟩ := ob_s hf
  refine hw_gi (C := RX6) (T := TX6) (N := 23) (ref := "SolidGroupsModel") S hKn hD hv rfl (by decide) (by decide) rfl inX6 wd0 (fun _ h9 => h9) dX6_thrown_1 ?_
  obtain ⟨e1, e2⟩ := ret_eq hf
  rw [hQ, ← e1, ← e2]
  exact hw_iret S hlk hret rfl hD dX6_thrown_4
set_option maxHeartbeats 4000000 in
set_option maxRecDepth 100000 in
theorem c_X6_share (l : Launch) (D : va_G) (G : GC) (base : Nat) (E : PE) {a0 : Nat} {p1 : Int32} {p2 : Int32} {σ0 τ : PS} {rv : Int32} (hF : f_X6_share E (some a0) p1 p2 σ0 = some (rv, τ)) : Ct l D G base E yX6_share wsX6_share 2 48 ([.ref a0, .int (p1), .int (p2)] : List Value) σ0 (some (.int rv)) τ := by
  obtain ⟨hf, hmo⟩ := oM_of hF
  refine Ct.of (own := RX6) [1, 1, 1] (by decide) rfl rfl hmo (ct_R (ct_I (ct_I ct_0))) (by decide) ?_
  intro p e s m below meth c R Q ls H locs cells slots S hKn hRm hfr hlo hlk hret hnm hQ hD hl
  have hx := S.1
  have hb := S.2.1
  have hts := S.2.2.2.2
  have inX6 : ∀ w ∈ u_ws RX6 TX6 23, w ∈ wsX6_share := by decide +kernel
  have wd0 := hts (.fieldLink RX6 84 "SolidGroupsModel" "code" "I") (by decide +kernel)
  have wd1 := hts (.fieldLink RX6 41 "SolidGroupsModel" "marksA" "[I") (by decide +kernel)
  have wd2 := hts (.fieldLink RX6 44 "SolidGroupsModel" "marksB" "[I") (by decide +kernel)
  have hB21 : ∀ (σ : PS) (H : Heap) (locs : List Loc) (cells slots : Nat) (ls : Array Slot), Dy D G base E s.heap σ0 σ H locs cells slots → lv_has ls 6 [] → f_X6_share_B21 E σ = some (rv, τ) → W p l e R s m ([.ref a0, .int (p1), .int (p2)] : List Value).toArray below meth c H locs cells slots Q (F0 m 21 ls []) := by
    intro σ H locs cells slots ls hD hl hf
    unfold f_X6_share_B21 at hf
    refine lv_iconst (v := (-1)) hx hb dX6_share_21 (by decide) ?_
    obtain ⟨e1, e2⟩ := ret_eq hf
    rw [hQ, ← e1, ← e2]
    exact hw_iret S hlk hret rfl hD dX6_share_22
  have hB100 : ∀ (w0 : Int32) (σ : PS) (H : Heap) (locs : List Loc) (cells slots : Nat) (ls : Array Slot), Dy D G base E s.heap σ0 σ H locs cells slots → lv_has ls 6 [] → f_X6_share_B100 E w0 σ = some (rv, τ) → W p l e R s m ([.ref a0, .int (p1), .int (p2)] : List Value).toArray below meth c H locs cells slots Q (F0 m 100 ls [.int (w0)]) := by
    intro w0 σ H locs cells slots ls hD hl hf
    unfold f_X6_share_B100 at hf
    obtain ⟨e1, e2⟩ := ret_eq hf
    rw [hQ, ← e1, ← e2]
    exact hw_iret S hlk hret rfl hD dX6_share_100
  have hB81 : ∀ (v3 : Int32) (v4 : Int32) (w0 : Option Nat) (w1 : Int32) (σ : PS) (H : Heap) (locs : List Loc) (cells slots : Nat) (ls : Array Slot), Dy D G base E s.heap σ0 σ H locs cells slots → lv_has ls 6 [(3, .int (v3)), (4, .int (v4))] → f_X6_share_B81 E v3 v4 w0 w1 σ = some (rv, τ) → W p l e R s m ([.ref a0, .int (p1), .int (p2)] : List Value).toArray below meth c H locs cells slots Q (F0 m 81 ls [.int (w1), va_rf (w0)]) := by
    intro v3 v4 w0 w1 σ H locs cells slots ls hD hl hf
    unfold f_X6_share_B81 at hf
    obtain ⟨s15, hv, hf⟩ := ob_s hf
    refine hw_pi (C := RX6) (T := TX6) (N := 23) (ref := "SolidGroupsModel") S hKn hD hv rfl (by decide) (by decide) rfl inX6 tyX6 tyX6_ok nmX6 wd0 (fun _ h9 => h9) rfl (by first | rfl | decide) (by first | rfl | decide) dX6_share_81 (fun H locs hD => ?_)
    refine lv_iload hx hb dX6_share_84 (lv_at hl 1 rfl) ?_
    refine lv_if_ne (tgt := 93) hx hb dX6_share_86 (by decide) (fun hc => ?_) (fun hc => ?_)
    · rw [if_neg hc] at hf
      refine lv_bipush (v := (100)) hx hb dX6_share_93 (by decide) ?_
      refine lv_iload_n hx hb dX6_share_95 rfl (lv_at hl 0 rfl) ?_
      refine lv_imul hx hb dX6_share_96 ?_
      refine lv_iload hx hb dX6_share_97 (lv_at hl 1 rfl) ?_
      obtain ⟨x16, hv, hf⟩ := ob_s hf
      refine hs_idiv hx hb hv dX6_share_99 ?_
      exact hB100 x16 _ _ _ _ _ _ hD (lv_sub hl [] rfl) hf
    · rw [if_pos hc] at hf
      refine lv_iconst (v := (0)) hx hb dX6_share_89 (by decide) ?_
      refine lv_goto (tgt := 100) hx hb dX6_share_90 (by decide) ?_
      exact hB100 (0 : Int32) _ _ _ _ _ _ hD (lv_sub hl [] rfl) hf
  have hL37 : ∀ (n : Nat), ∀ (v0 : Option Nat) (v3 : Int32) (v4 : Int32) (v5 : Int32) (σ : PS) (H : Heap) (locs : List Loc) (cells slots : Nat) (ls : Array Slot), Dy D G base E s.heap σ0 σ H locs cells slots → lv_has ls 6 [(0, va_rf (v0)), (3, .int (v3)), (4, .int (v4)), (5, .int (v5))] → f_X6_share_L37 E n v0 v3 v4 v5 σ = some (rv, τ) → W p l e R s m ([.ref a0, .int (p1), .int (p2)] : List Value).toArray below meth c H locs cells slots Q (F0 m 37 ls []) := by
    intro n
    induction n with
    | zero =>
      intro v0 v3 v4 v5 σ H locs cells slots ls hD hl hf
      rw [f_X6_share_L37] at hf
      cases hf
    | succ n ih =>
      intro v0 v3 v4 v5 σ H locs cells slots ls hD hl hf
      rw [f_X6_share_L37] at hf
      refine lv_iload hx hb dX6_share_37 (lv_at hl 3 rfl) ?_
      refine lv_bipush (v := (32)) hx hb dX6_share_39 (by decide) ?_
      refine lv_icmp_ge (tgt := 70) hx hb dX6_share_41 (by decide) (fun hc => ?_) (fun hc => ?_)
      · rw [if_pos hc] at hf
        refine hw_aload_n (r := v0) hx hb dX6_share_70 rfl (lv_at hl 0 rfl) ?_
        refine lv_iload hx hb dX6_share_71 (lv_at hl 2 rfl) ?_
        refine lv_if_ne (tgt := 80) hx hb dX6_share_73 (by decide) (fun hc => ?_) (fun hc => ?_)
        · rw [if_neg hc] at hf
          refine lv_iconst (v := (0)) hx hb dX6_share_80 (by decide) ?_
          exact hB81 v3 v4 v0 (0 : Int32) _ _ _ _ _ _ hD (lv_sub hl [1, 2] rfl) hf
        · rw [if_pos hc] at hf
          refine lv_iconst (v := (1)) hx hb dX6_share_76 (by decide) ?_
          refine lv_goto (tgt := 81) hx hb dX6_share_77 (by decide) ?_
          exact hB81 v3 v4 v0 (1 : Int32) _ _ _ _ _ _ hD (lv_sub hl [1, 2] rfl) hf
      · rw [if_neg hc] at hf
        refine lv_iload hx hb dX6_share_44 (lv_at hl 2 rfl) ?_
        refine hw_aload_n (r := v0) hx hb dX6_share_46 rfl (lv_at hl 0 rfl) ?_
        obtain ⟨x11, hv, hf⟩ := ob_s hf
        refine hw_gr (C := RX6) (T := TX6) (N := 23) (ref := "SolidGroupsModel") S hKn hD hv rfl (by decide) (by decide) rfl inX6 wd1 (fun _ h9 => h9) dX6_share_47 ?_
        refine lv_iload hx hb dX6_share_50 (lv_at hl 3 rfl) ?_
        obtain ⟨x12, hv, hf⟩ := ob_s hf
        refine hw_al S hKn hD hv dX6_share_52 ?_
        refine hw_aload_n (r := v0) hx hb dX6_share_53 rfl (lv_at hl 0 rfl) ?_
        obtain ⟨x13, hv, hf⟩ := ob_s hf
        refine hw_gr (C := RX6) (T := TX6) (N := 23) (ref := "SolidGroupsModel") S hKn hD hv rfl (by decide) (by decide) rfl inX6 wd2 (fun _ h9 => h9) dX6_share_54 ?_
        refine lv_iload hx hb dX6_share_57 (lv_at hl 3 rfl) ?_
        obtain ⟨x14, hv, hf⟩ := ob_s hf
        refine hw_al S hKn hD hv dX6_share_59 ?_
        refine lv_iadd hx hb dX6_share_60 ?_
        refine lv_iadd hx hb dX6_share_61 ?_
        refine hs_istore (i := 4) (lv' := [(4, .int (v4 + (x12 + x14))), (0, va_rf (v0)), (3, .int (v3)), (5, .int (v5))]) hx hb dX6_share_62 hl (by decide) (st_okR (st_okI (st_okI (st_okI st_ok0)))) rfl (fun ls hl => ?_)
        refine hs_iinc (i := 5) (k := 3) (v := v5 + 1) (lv' := [(5, .int (v5 + 1)), (4, .int (v4 + (x12 + x14))), (0, va_rf (v0)), (3, .int (v3))]) hx hb dX6_share_64 hl rfl (congrArg (fun z => v5 + z) (by decide)) (by decide) (st_okI (st_okR (st_okI (st_okI st_ok0)))) rfl (fun ls hl => ?_)
        refine lv_goto (tgt := 37) hx hb dX6_share_67 (by decide) ?_
        exact ih v0 v3 (v4 + (x12 + x14)) (v5 + 1) _ _ _ _ _ _ hD (lv_sub hl [2, 3, 1, 0] rfl) hf
  have hl : lv_has ls 6 [(0, va_rf (some a0)), (1, .int (p1)), (2, .int (p2))] := hl
  unfold g_X6_share at hf
  refine hw_aload_n (r := (some a0)) hx hb dX6_share_0 rfl (lv_at hl 0 rfl) ?_
  refine lv_iconst (v := (0)) hx hb dX6_share_1 (by decide) ?_
  obtain ⟨s1, hv, hf⟩ := ob_s hf
  refine hw_pi (C := RX6) (T := TX6) (N := 23) (ref := "SolidGroupsModel") S hKn hD hv rfl (by decide) (by decide) rfl inX6 tyX6 tyX6_ok nmX6 wd0 (fun _ h9 => h9) rfl (by first | rfl | decide) (by first | rfl | decide) dX6_share_2 (fun H locs hD => ?_)
  refine hw_aload_n (r := (some a0)) hx hb dX6_share_5 rfl (lv_at hl 0 rfl) ?_
  refine lv_iload_n hx hb dX6_share_6 rfl (lv_at hl 1 rfl) ?_
  obtain ⟨b4, hv, hf⟩ := ob_s hf
  obtain ⟨e9, hk9⟩ := oK_of hv
  cases e9
  obtain ⟨r2, s3, hv, hf⟩ := ob_p hf
  refine hw_V (b := a0) (ci := 7) (T := TX6) (N := 23) (As := [.int (p1)]) (rest := []) S hKn hRm hD (c_X6_isEntry l D G base E hv) (mo_X6_isEntry hv) hk9 rfl (by decide) gX6_share_X6_isEntry rfl 1 (by decide +kernel) ⟨by rw [hfr]; decide, by rw [hlo]; decide⟩ rfl hl.1 (Nat.le_trans cs_0 (by decide)) rfl dX6_share_7 (fun H locs cells slots hD => ?_)
  refine W.eq (g2 := F0 m 10 ls [.int (r2)]) rfl ?_
  refine lv_if_eq (tgt := 21) hx hb dX6_share_10 (by decide) (fun hc => ?_) (fun hc => ?_)
  · rw [if_pos hc] at hf
    exact hB21 _ _ _ _ _ _ hD (lv_sub hl [] rfl) hf
  · rw [if_neg hc] at hf
    refine hw_aload_n (r := (some a0)) hx hb dX6_share_13 rfl (lv_at hl 0 rfl) ?_
    refine lv_iload_n hx hb dX6_share_14 rfl (lv_at hl 2 rfl) ?_
    obtain ⟨b7, hv, hf⟩ := ob_s hf
    obtain ⟨e9, hk9⟩ := oK_of hv
    cases e9
    obtain ⟨r5, s6, hv, hf⟩ := ob_p hf
    refine hw_V (b := a0) (ci := 7) (T := TX6) (N := 23) (As := [.int (p2)]) (rest := []) S hKn hRm hD (c_X6_isEntry l D G base E hv) (mo_X6_isEntry hv) hk9 rfl (by decide) gX6_share_X6_isEntry rfl 1 (by decide +kernel) ⟨by rw [hfr]; decide, by rw [hlo]; decide⟩ rfl hl.1 (Nat.le_trans cs_0 (by decide)) rfl dX6_share_15 (fun H locs cells slots hD => ?_)
    refine W.eq (g2 := F0 m 18 ls [.int (r5)]) rfl ?_
    refine lv_if_ne (tgt := 23) hx hb dX6_share_18 (by decide) (fun hc => ?_) (fun hc => ?_)
    · rw [if_neg hc] at hf
      refine hw_aload_n (r := (some a0)) hx hb dX6_share_23 rfl (lv_at hl 0 rfl) ?_
      refine lv_iload_n hx hb dX6_share_24 rfl (lv_at hl 1 rfl) ?_
      refine lv_iload_n hx hb dX6_share_25 rfl (lv_at hl 2 rfl) ?_
      obtain ⟨b10, hv, hf⟩ := ob_s hf
      obtain ⟨e9, hk9⟩ := oK_of hv
      cases e9
      obtain ⟨r8, s9, hv, hf⟩ := ob_p hf
      refine hw_V (b := a0) (ci := 7) (T := TX6) (N := 23) (As := [.int (p1), .int (p2)]) (rest := []) S hKn hRm hD (c_X6_commonOf l D G base E hv) (mo_X6_commonOf hv) hk9 rfl (by decide) gX6_share_X6_commonOf rfl 2 (by decide +kernel) ⟨by rw [hfr]; decide, by rw [hlo]; decide⟩ rfl hl.1 (Nat.le_trans cs_0 (by decide)) rfl dX6_share_26 (fun H locs cells slots hD => ?_)
      refine W.eq (g2 := F0 m 29 ls [.int (r8)]) rfl ?_
      refine hs_istore_n (i := 3) (lv' := [(3, .int (r8)), (0, va_rf ((some a0))), (1, .int (p1)), (2, .int (p2))]) hx hb dX6_share_29 rfl hl (by decide) (st_okR (st_okI (st_okI st_ok0))) rfl (fun ls hl => ?_)
      refine lv_iload_n hx hb dX6_share_30 rfl (lv_at hl 0 rfl) ?_
      refine lv_ineg hx hb dX6_share_31 ?_
      refine hs_istore (i := 4) (lv' := [(4, .int (-r8)), (3, .int (r8)), (0, va_rf ((some a0))), (1, .int (p1)), (2, .int (p2))]) hx hb dX6_share_32 hl (by decide) (st_okI (st_okR (st_okI (st_okI st_ok0)))) rfl (fun ls hl => ?_)
      refine lv_iconst (v := (0)) hx hb dX6_share_34 (by decide) ?_
      refine hs_istore (i := 5) (lv' := [(5, .int ((0 : Int32))), (4, .int (-r8)), (3, .int (r8)), (0, va_rf ((some a0))), (1, .int (p1)), (2, .int (p2))]) hx hb dX6_share_35 hl (by decide) (st_okI (st_okI (st_okR (st_okI (st_okI st_ok0))))) rfl (fun ls hl => ?_)
      exact hL37 _ (some a0) r8 (-r8) (0 : Int32) _ _ _ _ _ _ hD (lv_sub hl [3, 2, 1, 0] rfl) hf
    · rw [if_pos hc] at hf
      exact hB21 _ _ _ _ _ _ hD (lv_sub hl [] rfl) hf
set_option maxHeartbeats 4000000 in
set_option maxRecDepth 100000 in
theorem c_X6_distance (l : Launch) (D : va_G) (G : GC) (base : Nat) (E : PE) {a0 : Nat} {p1 : Int32} {p2 : Int32} {σ0 τ : PS} {rv : Int32} (hF : f_X6_distance E (some a0) p1 p2 σ0 = some (rv, τ)) : Ct l D G base E yX6_distance wsX6_distance 2 48 ([.ref a0, .int (p1), .int (p2)] : List Value) σ0 (some (.int rv)) τ := by
  obtain ⟨hf, hmo⟩ := oM_of hF
  refine Ct.of (own := RX6) [1, 1, 1] (by decide) rfl rfl hmo (ct_R (ct_I (ct_I ct_0))) (by decide) ?_
  intro p e s m below meth c R Q ls H locs cells slots S hKn hRm hfr hlo hlk hret hnm hQ hD hl
  have hx := S.1
  have hb := S.2.1
  have hts := S.2.2.2.2
  have hB26 : ∀ (w0 : Int32) (σ : PS) (H : Heap) (locs : List Loc) (cells slots : Nat) (ls : Array Slot), Dy D G base E s.heap σ0 σ H locs cells slots → lv_has ls 3 [] → f_X6_distance_B26 E w0 σ = some (rv, τ) → W p l e R s m ([.ref a0, .int (p1), .int (p2)] : List Value).toArray below meth c H locs cells slots Q (F0 m 26 ls [.int (w0)]) := by
    intro w0 σ H locs cells slots ls hD hl hf
    unfold f_X6_distance_B26 at hf
    obtain ⟨e1, e2⟩ := ret_eq hf
    rw [hQ, ← e1, ← e2]
    exact hw_iret S hlk hret rfl hD dX6_distance_26
  have hB25 : ∀ (σ : PS) (H : Heap) (locs : List Loc) (cells slots : Nat) (ls : Array Slot), Dy D G base E s.heap σ0 σ H locs cells slots → lv_has ls 3 [] → f_X6_distance_B25 E σ = some (rv, τ) → W p l e R s m ([.ref a0, .int (p1), .int (p2)] : List Value).toArray below meth c H locs cells slots Q (F0 m 25 ls []) := by
    intro σ H locs cells slots ls hD hl hf
    unfold f_X6_distance_B25 at hf
    refine lv_iconst (v := (-1)) hx hb dX6_distance_25 (by decide) ?_
    exact hB26 (-1 : Int32) _ _ _ _ _ _ hD (lv_sub hl [] rfl) hf
  have hl : lv_has ls 3 [(0, va_rf (some a0)), (1, .int (p1)), (2, .int (p2))] := hl
  unfold g_X6_distance at hf
  refine hw_aload_n (r := (some a0)) hx hb dX6_distance_0 rfl (lv_at hl 0 rfl) ?_
  refine lv_iload_n hx hb dX6_distance_1 rfl (lv_at hl 1 rfl) ?_
  obtain ⟨b3, hv, hf⟩ := ob_s hf
  obtain ⟨e9, hk9⟩ := oK_of hv
  cases e9
  obtain ⟨r1, s2, hv, hf⟩ := ob_p hf
  refine hw_V (b := a0) (ci := 7) (T := TX6) (N := 23) (As := [.int (p1)]) (rest := []) S hKn hRm hD (c_X6_isEntry l D G base E hv) (mo_X6_isEntry hv) hk9 rfl (by decide) gX6_distance_X6_isEntry rfl 1 (by decide +kernel) ⟨by rw [hfr]; decide, by rw [hlo]; decide⟩ rfl hl.1 (Nat.le_trans cs_0 (by decide)) rfl dX6_distance_2 (fun H locs cells slots hD => ?_)
  refine W.eq (g2 := F0 m 5 ls [.int (r1)]) rfl ?_
  refine lv_if_eq (tgt := 25) hx hb dX6_distance_5 (by decide) (fun hc => ?_) (fun hc => ?_)
  · rw [if_pos hc] at hf
    exact hB25 _ _ _ _ _ _ hD (lv_sub hl [] rfl) hf
  · rw [if_neg hc] at hf
    refine hw_aload_n (r := (some a0)) hx hb dX6_distance_8 rfl (lv_at hl 0 rfl) ?_
    refine lv_iload_n hx hb dX6_distance_9 rfl (lv_at hl 2 rfl) ?_
    obtain ⟨b6, hv, hf⟩ := ob_s hf
    obtain ⟨e9, hk9⟩ := oK_of hv
    cases e9
    obtain ⟨r4, s5, hv, hf⟩ := ob_p hf
    refine hw_V (b := a0) (ci := 7) (T := TX6) (N := 23) (As := [.int (p2)]) (rest := []) S hKn hRm hD (c_X6_isEntry l D G base E hv) (mo_X6_isEntry hv) hk9 rfl (by decide) gX6_distance_X6_isEntry rfl 1 (by decide +kernel) ⟨by rw [hfr]; decide, by rw [hlo]; decide⟩ rfl hl.1 (Nat.le_trans cs_0 (by decide)) rfl dX6_distance_10 (fun H locs cells slots hD => ?_)
    refine W.eq (g2 := F0 m 13 ls [.int (r4)]) rfl ?_
    refine lv_if_eq (tgt := 25) hx hb dX6_distance_13 (by decide) (fun hc => ?_) (fun hc => ?_)
    · rw [if_pos hc] at hf
      exact hB25 _ _ _ _ _ _ hD (lv_sub hl [] rfl) hf
    · rw [if_neg hc] at hf
      refine hw_aload_n (r := (some a0)) hx hb dX6_distance_16 rfl (lv_at hl 0 rfl) ?_
      refine lv_iload_n hx hb dX6_distance_17 rfl (lv_at hl 1 rfl) ?_
      refine lv_iload_n hx hb dX6_distance_18 rfl (lv_at hl 2 rfl) ?_
      obtain ⟨b9, hv, hf⟩ := ob_s hf
      obtain ⟨e9, hk9⟩ := oK_of hv
      cases e9
      obtain ⟨r7, s8, hv, hf⟩ := ob_p hf
      refine hw_V (b := a0) (ci := 7) (T := TX6) (N := 23) (As := [.int (p1), .int (p2)]) (rest := []) S hKn hRm hD (c_X6_distanceOf l D G base E hv) (mo_X6_distanceOf hv) hk9 rfl (by decide) gX6_distance_X6_distanceOf rfl 2 (by decide +kernel) ⟨by rw [hfr]; decide, by rw [hlo]; decide⟩ rfl hl.1 (Nat.le_trans cs_0 (by decide)) rfl dX6_distance_19 (fun H locs cells slots hD => ?_)
      refine W.eq (g2 := F0 m 22 ls [.int (r7)]) rfl ?_
      refine lv_goto (tgt := 26) hx hb dX6_distance_22 (by decide) ?_
      exact hB26 r7 _ _ _ _ _ _ hD (lv_sub hl [] rfl) hf
set_option maxHeartbeats 4000000 in
set_option maxRecDepth 100000 in
theorem c_X6_isSame (l : Launch) (D : va_G) (G : GC) (base : Nat) (E : PE) {a0 : Nat} {p1 : Int32} {p2 : Int32} {σ0 τ : PS} {rv : Int32} (hF : f_X6_isSame E (some a0) p1 p2 σ0 = some (rv, τ)) : Ct l D G base E yX6_isSame wsX6_isSame 0 0 ([.ref a0, .int (p1), .int (p2)] : List Value) σ0 (some (.int rv)) τ := by
  obtain ⟨hf, hmo⟩ := oM_of hF
  refine Ct.of (own := RX6) [1, 1, 1] (by decide) rfl rfl hmo (ct_R (ct_I (ct_I ct_0))) (by decide) ?_
  intro p e s m below meth c R Q ls H locs cells slots S hKn hRm hfr hlo hlk hret hnm hQ hD hl
  have hx := S.1
  have hb := S.2.1
  have hts := S.2.2.2.2
  have inX6 : ∀ w ∈ u_ws RX6 TX6 23, w ∈ wsX6_isSame := by decide +kernel
  have wd0 := hts (.fieldLink RX6 7 "SolidGroupsModel" "kinds" "[I") (by decide +kernel)
  have wd1 := hts (.fieldLink RX6 13 "SolidGroupsModel" "sizes" "[I") (by decide +kernel)
  have wd2 := hts (.fieldLink RX6 16 "SolidGroupsModel" "bytes" "[I") (by decide +kernel)
  have hB93 : ∀ (v3 : Int32) (σ : PS) (H : Heap) (locs : List Loc) (cells slots : Nat) (ls : Array Slot), Dy D G base E s.heap σ0 σ H locs cells slots → lv_has ls 5 [(3, .int (v3))] → f_X6_isSame_B93 E v3 σ = some (rv, τ) → W p l e R s m ([.ref a0, .int (p1), .int (p2)] : List Value).toArray below meth c H locs cells slots Q (F0 m 93 ls []) := by
    intro v3 σ H locs cells slots ls hD hl hf
    unfold f_X6_isSame_B93 at hf
    refine lv_iload_n hx hb dX6_isSame_93 rfl (lv_at hl 0 rfl) ?_
    by_cases hz : v3 = 0 ∨ v3 = 1
    · rw [if_pos hz] at hf
      obtain ⟨e1, e2⟩ := ret_eq hf
      rw [hQ, ← e1, ← e2]
      exact hw_iret S hlk hret (nar_z hz) hD dX6_isSame_94
    · rw [if_neg hz] at hf
      cases hf
  have hB86 : ∀ (k39 : Option Nat → Int32 → Int32 → Int32 → Int32 → PS → Option (Int32 × PS)) (hk39 : ∀ (z0 : Option Nat) (z1 : Int32) (z2 : Int32) (z3 : Int32) (z4 : Int32) (σ : PS) (H : Heap) (locs : List Loc) (cells slots : Nat) (ls : Array Slot), Dy D G base E s.heap σ0 σ H locs cells slots → lv_has ls 5 [(0, va_rf (z0)), (1, .int (z1)), (2, .int (z2)), (3, .int (z3)), (4, .int (z4))] → k39 z0 z1 z2 z3 z4 σ = some (rv, τ) → W p l e R s m ([.ref a0, .int (p1), .int (p2)] : List Value).toArray below meth c H locs cells slots Q (F0 m 39 ls [])), ∀ (v0 : Option Nat) (v1 : Int32) (v2 : Int32) (v4 : Int32) (w0 : Int32) (σ : PS) (H : Heap) (locs : List Loc) (cells slots : Nat) (ls : Array Slot), Dy D G base E s.heap σ0 σ H locs cells slots → lv_has ls 5 [(0, va_rf (v0)), (1, .int (v1)), (2, .int (v2)), (4, .int (v4))] → f_X6_isSame_B86 E k39 v0 v1 v2 v4 w0 σ = some (rv, τ) → W p l e R s m ([.ref a0, .int (p1), .int (p2)] : List Value).toArray below meth c H locs cells slots Q (F0 m 86 ls [.int (w0)]) := by
    intro k39 hk39 v0 v1 v2 v4 w0 σ H locs cells slots ls hD hl hf
    unfold f_X6_isSame_B86 at hf
    refine hs_istore_n (i := 3) (lv' := [(3, .int (w0)), (0, va_rf (v0)), (1, .int (v1)), (2, .int (v2)), (4, .int (v4))]) hx hb dX6_isSame_86 rfl hl (by decide) (st_okR (st_okI (st_okI (st_okI st_ok0)))) rfl (fun ls hl => ?_)
    refine hs_iinc (i := 4) (k := 4) (v := v4 + 1) (lv' := [(4, .int (v4 + 1)), (3, .int (w0)), (0, va_rf (v0)), (1, .int (v1)), (2, .int (v2))]) hx hb dX6_isSame_87 hl rfl (congrArg (fun z => v4 + z) (by decide)) (by decide) (st_okI (st_okR (st_okI (st_okI (st_okI st_ok0))))) rfl (fun ls hl => ?_)
    refine lv_goto (tgt := 39) hx hb dX6_isSame_90 (by decide) ?_
    exact hk39 v0 v1 v2 w0 (v4 + 1) _ _ _ _ _ _ hD (lv_sub hl [2, 3, 4, 1, 0] rfl) hf
  have hL39 : ∀ (n : Nat), ∀ (v0 : Option Nat) (v1 : Int32) (v2 : Int32) (v3 : Int32) (v4 : Int32) (σ : PS) (H : Heap) (locs : List Loc) (cells slots : Nat) (ls : Array Slot), Dy D G base E s.heap σ0 σ H locs cells slots → lv_has ls 5 [(0, va_rf (v0)), (1, .int (v1)), (2, .int (v2)), (3, .int (v3)), (4, .int (v4))] → f_X6_isSame_L39 E n v0 v1 v2 v3 v4 σ = some (rv, τ) → W p l e R s m ([.ref a0, .int (p1), .int (p2)] : List Value).toArray below meth c H locs cells slots Q (F0 m 39 ls []) := by
    intro n
    induction n with
    | zero =>
      intro v0 v1 v2 v3 v4 σ H locs cells slots ls hD hl hf
      rw [f_X6_isSame_L39] at hf
      cases hf
    | succ n ih =>
      intro v0 v1 v2 v3 v4 σ H locs cells slots ls hD hl hf
      rw [f_X6_isSame_L39] at hf
      refine lv_iload hx hb dX6_isSame_39 (lv_at hl 4 rfl) ?_
      refine hw_aload_n (r := v0) hx hb dX6_isSame_41 rfl (lv_at hl 0 rfl) ?_
      obtain ⟨x9, hv, hf⟩ := ob_s hf
      refine hw_gr (C := RX6) (T := TX6) (N := 23) (ref := "SolidGroupsModel") S hKn hD hv rfl (by decide) (by decide) rfl inX6 wd1 (fun _ h9 => h9) dX6_isSame_42 ?_
      refine lv_iload_n hx hb dX6_isSame_45 rfl (lv_at hl 1 rfl) ?_
      obtain ⟨x10, hv, hf⟩ := ob_s hf
      refine hw_al S hKn hD hv dX6_isSame_46 ?_
      refine lv_icmp_ge (tgt := 93) hx hb dX6_isSame_47 (by decide) (fun hc => ?_) (fun hc => ?_)
      · rw [if_pos hc] at hf
        exact hB93 v3 _ _ _ _ _ _ hD (lv_sub hl [3] rfl) hf
      · rw [if_neg hc] at hf
        refine lv_iload_n hx hb dX6_isSame_50 rfl (lv_at hl 3 rfl) ?_
        refine lv_if_eq (tgt := 93) hx hb dX6_isSame_51 (by decide) (fun hc => ?_) (fun hc => ?_)
        · rw [if_pos hc] at hf
          exact hB93 v3 _ _ _ _ _ _ hD (lv_sub hl [3] rfl) hf
        · rw [if_neg hc] at hf
          refine hw_aload_n (r := v0) hx hb dX6_isSame_54 rfl (lv_at hl 0 rfl) ?_
          obtain ⟨x11, hv, hf⟩ := ob_s hf
          refine hw_gr (C := RX6) (T := TX6) (N := 23) (ref := "SolidGroupsModel") S hKn hD hv rfl (by decide) (by decide) rfl inX6 wd2 (fun _ h9 => h9) dX6_isSame_55 ?_
          refine lv_bipush (v := (60)) hx hb dX6_isSame_58 (by decide) ?_
          refine lv_iload_n hx hb dX6_isSame_60 rfl (lv_at hl 1 rfl) ?_
          refine lv_imul hx hb dX6_isSame_61 ?_
          refine lv_iload hx hb dX6_isSame_62 (lv_at hl 4 rfl) ?_
          refine lv_iadd hx hb dX6_isSame_64 ?_
          obtain ⟨x12, hv, hf⟩ := ob_s hf
          refine hw_al S hKn hD hv dX6_isSame_65 ?_
          refine hw_aload_n (r := v0) hx hb dX6_isSame_66 rfl (lv_at hl 0 rfl) ?_
          obtain ⟨x13, hv, hf⟩ := ob_s hf
          refine hw_gr (C := RX6) (T := TX6) (N := 23) (ref := "SolidGroupsModel") S hKn hD hv rfl (by decide) (by decide) rfl inX6 wd2 (fun _ h9 => h9) dX6_isSame_67 ?_
          refine lv_bipush (v := (60)) hx hb dX6_isSame_70 (by decide) ?_
          refine lv_iload_n hx hb dX6_isSame_72 rfl (lv_at hl 2 rfl) ?_
          refine lv_imul hx hb dX6_isSame_73 ?_
          refine lv_iload hx hb dX6_isSame_74 (lv_at hl 4 rfl) ?_
          refine lv_iadd hx hb dX6_isSame_76 ?_
          obtain ⟨x14, hv, hf⟩ := ob_s hf
          refine hw_al S hKn hD hv dX6_isSame_77 ?_
          refine lv_icmp_ne (tgt := 85) hx hb dX6_isSame_78 (by decide) (fun hc => ?_) (fun hc => ?_)
          · rw [if_neg hc] at hf
            refine lv_iconst (v := (0)) hx hb dX6_isSame_85 (by decide) ?_
            exact hB86 _ ih v0 v1 v2 v4 (0 : Int32) _ _ _ _ _ _ hD (lv_sub hl [0, 1, 2, 4] rfl) hf
          · rw [if_pos hc] at hf
            refine lv_iconst (v := (1)) hx hb dX6_isSame_81 (by decide) ?_
            refine lv_goto (tgt := 86) hx hb dX6_isSame_82 (by decide) ?_
            exact hB86 _ ih v0 v1 v2 v4 (1 : Int32) _ _ _ _ _ _ hD (lv_sub hl [0, 1, 2, 4] rfl) hf
  have hB35 : ∀ (v0 : Option Nat) (v1 : Int32) (v2 : Int32) (w0 : Int32) (σ : PS) (H : Heap) (locs : List Loc) (cells slots : Nat) (ls : Array Slot), Dy D G base E s.heap σ0 σ H locs cells slots → lv_has ls 5 [(0, va_rf (v0)), (1, .int (v1)), (2, .int (v2))] → f_X6_isSame_B35 E v0 v1 v2 w0 σ = some (rv, τ) → W p l e R s m ([.ref a0, .int (p1), .int (p2)] : List Value).toArray below meth c H locs cells slots Q (F0 m 35 ls [.int (w0)]) := by
    intro v0 v1 v2 w0 σ H locs cells slots ls hD hl hf
    unfold f_X6_isSame_B35 at hf
    refine hs_istore_n (i := 3) (lv' := [(3, .int (w0)), (0, va_rf (v0)), (1, .int (v1)), (2, .int (v2))]) hx hb dX6_isSame_35 rfl hl (by decide) (st_okR (st_okI (st_okI st_ok0))) rfl (fun ls hl => ?_)
    refine lv_iconst (v := (0)) hx hb dX6_isSame_36 (by decide) ?_
    refine hs_istore (i := 4) (lv' := [(4, .int ((0 : Int32))), (3, .int (w0)), (0, va_rf (v0)), (1, .int (v1)), (2, .int (v2))]) hx hb dX6_isSame_37 hl (by decide) (st_okI (st_okR (st_okI (st_okI st_ok0)))) rfl (fun ls hl => ?_)
    exact hL39 _ v0 v1 v2 w0 (0 : Int32) _ _ _ _ _ _ hD (lv_sub hl [2, 3, 4, 1, 0] rfl) hf
  have hB34 : ∀ (v0 : Option Nat) (v1 : Int32) (v2 : Int32) (σ : PS) (H : Heap) (locs : List Loc) (cells slots : Nat) (ls : Array Slot), Dy D G base E s.heap σ0 σ H locs cells slots → lv_has ls 5 [(0, va_rf (v0)), (1, .int (v1)), (2, .int (v2))] → f_X6_isSame_B34 E v0 v1 v2 σ = some (rv, τ) → W p l e R s m ([.ref a0, .int (p1), .int (p2)] : List Value).toArray below meth c H locs cells slots Q (F0 m 34 ls []) := by
    intro v0 v1 v2 σ H locs cells slots ls hD hl hf
    unfold f_X6_isSame_B34 at hf
    refine lv_iconst (v := (0)) hx hb dX6_isSame_34 (by decide) ?_
    exact hB35 v0 v1 v2 (0 : Int32) _ _ _ _ _ _ hD (lv_sub hl [0, 1, 2] rfl) hf
  have hl : lv_has ls 5 [(0, va_rf (some a0)), (1, .int (p1)), (2, .int (p2))] := hl
  unfold g_X6_isSame at hf
  refine hw_aload_n (r := (some a0)) hx hb dX6_isSame_0 rfl (lv_at hl 0 rfl) ?_
  obtain ⟨x1, hv, hf⟩ := ob_s hf
  refine hw_gr (C := RX6) (T := TX6) (N := 23) (ref := "SolidGroupsModel") S hKn hD hv rfl (by decide) (by decide) rfl inX6 wd0 (fun _ h9 => h9) dX6_isSame_1 ?_
  refine lv_iload_n hx hb dX6_isSame_4 rfl (lv_at hl 1 rfl) ?_
  obtain ⟨x2, hv, hf⟩ := ob_s hf
  refine hw_al S hKn hD hv dX6_isSame_5 ?_
  refine hw_aload_n (r := (some a0)) hx hb dX6_isSame_6 rfl (lv_at hl 0 rfl) ?_
  obtain ⟨x3, hv, hf⟩ := ob_s hf
  refine hw_gr (C := RX6) (T := TX6) (N := 23) (ref := "SolidGroupsModel") S hKn hD hv rfl (by decide) (by decide) rfl inX6 wd0 (fun _ h9 => h9) dX6_isSame_7 ?_
  refine lv_iload_n hx hb dX6_isSame_10 rfl (lv_at hl 2 rfl) ?_
  obtain ⟨x4, hv, hf⟩ := ob_s hf
  refine hw_al S hKn hD hv dX6_isSame_11 ?_
  refine lv_icmp_ne (tgt := 34) hx hb dX6_isSame_12 (by decide) (fun hc => ?_) (fun hc => ?_)
  · rw [if_neg hc] at hf
    exact hB34 (some a0) p1 p2 _ _ _ _ _ _ hD (lv_sub hl [0, 1, 2] rfl) hf
  · rw [if_pos hc] at hf
    refine hw_aload_n (r := (some a0)) hx hb dX6_isSame_15 rfl (lv_at hl 0 rfl) ?_
    obtain ⟨x5, hv, hf⟩ := ob_s hf
    refine hw_gr (C := RX6) (T := TX6) (N := 23) (ref := "SolidGroupsModel") S hKn hD hv rfl (by decide) (by decide) rfl inX6 wd1 (fun _ h9 => h9) dX6_isSame_16 ?_
    refine lv_iload_n hx hb dX6_isSame_19 rfl (lv_at hl 1 rfl) ?_
    obtain ⟨x6, hv, hf⟩ := ob_s hf
    refine hw_al S hKn hD hv dX6_isSame_20 ?_
    refine hw_aload_n (r := (some a0)) hx hb dX6_isSame_21 rfl (lv_at hl 0 rfl) ?_
    obtain ⟨x7, hv, hf⟩ := ob_s hf
    refine hw_gr (C := RX6) (T := TX6) (N := 23) (ref := "SolidGroupsModel") S hKn hD hv rfl (by decide) (by decide) rfl inX6 wd1 (fun _ h9 => h9) dX6_isSame_22 ?_
    refine lv_iload_n hx hb dX6_isSame_25 rfl (lv_at hl 2 rfl) ?_
    obtain ⟨x8, hv, hf⟩ := ob_s hf
    refine hw_al S hKn hD hv dX6_isSame_26 ?_
    refine lv_icmp_ne (tgt := 34) hx hb dX6_isSame_27 (by decide) (fun hc => ?_) (fun hc => ?_)
    · rw [if_neg hc] at hf
      exact hB34 (some a0) p1 p2 _ _ _ _ _ _ hD (lv_sub hl [0, 1, 2] rfl) hf
    · rw [if_pos hc] at hf
      refine lv_iconst (v := (1)) hx hb dX6_isSame_30 (by decide) ?_
      refine lv_goto (tgt := 35) hx hb dX6_isSame_31 (by decide) ?_
      exact hB35 (some a0) p1 p2 (1 : Int32) _ _ _ _ _ _ hD (lv_sub hl [0, 1, 2] rfl) hf
set_option maxHeartbeats 4000000 in
set_option maxRecDepth 100000 in
theorem c_X6_chain (l : Launch) (D : va_G) (G : GC) (base : Nat) (E : PE) {a0 : Nat} {σ0 τ : PS} {rv : Unit} (hF : f_X6_chain E (some a0) σ0 = some (rv, τ)) : Ct l D G base E yX6_chain wsX6_chain 2 48 ([.ref a0] : List Value) σ0 none τ := by
  obtain ⟨hf, hmo⟩ := oM_of hF
  refine Ct.of (own := RX6) [1] (by decide) rfl rfl hmo (ct_R ct_0) (by decide) ?_
  intro p e s m below meth c R Q ls H locs cells slots S hKn hRm hfr hlo hlk hret hnm hQ hD hl
  have hx := S.1
  have hb := S.2.1
  have hts := S.2.2.2.2
  have inX6 : ∀ w ∈ u_ws RX6 TX6 23, w ∈ wsX6_chain := by decide +kernel
  have wd0 := hts (.fieldLink RX6 90 "SolidGroupsModel" "rowMany" "I") (by decide +kernel)
  have wd1 := hts (.fieldLink RX6 47 "SolidGroupsModel" "row" "[I") (by decide +kernel)
  have hB98 : ∀ (k2 : Option Nat → Int32 → PS → Option (Unit × PS)) (hk2 : ∀ (z0 : Option Nat) (z1 : Int32) (σ : PS) (H : Heap) (locs : List Loc) (cells slots : Nat) (ls : Array Slot), Dy D G base E s.heap σ0 σ H locs cells slots → lv_has ls 6 [(0, va_rf (z0)), (1, .int (z1))] → k2 z0 z1 σ = some (rv, τ) → W p l e R s m ([.ref a0] : List Value).toArray below meth c H locs cells slots Q (F0 m 2 ls [])) (k16 : Option Nat → Int32 → Int32 → Int32 → PS → Option (Unit × PS)) (hk16 : ∀ (z0 : Option Nat) (z1 : Int32) (z2 : Int32) (z3 : Int32) (σ : PS) (H : Heap) (locs : List Loc) (cells slots : Nat) (ls : Array Slot), Dy D G base E s.heap σ0 σ H locs cells slots → lv_has ls 6 [(0, va_rf (z0)), (1, .int (z1)), (2, .int (z2)), (3, .int (z3))] → k16 z0 z1 z2 z3 σ = some (rv, τ) → W p l e R s m ([.ref a0] : List Value).toArray below meth c H locs cells slots Q (F0 m 16 ls [])), ∀ (v0 : Option Nat) (v1 : Int32) (v3 : Int32) (w0 : Int32) (σ : PS) (H : Heap) (locs : List Loc) (cells slots : Nat) (ls : Array Slot), Dy D G base E s.heap σ0 σ H locs cells slots → lv_has ls 6 [(0, va_rf (v0)), (1, .int (v1)), (3, .int (v3))] → f_X6_chain_B98 E k2 k16 v0 v1 v3 w0 σ = some (rv, τ) → W p l e R s m ([.ref a0] : List Value).toArray below meth c H locs cells slots Q (F0 m 98 ls [.int (w0)]) := by
    intro k2 hk2 k16 hk16 v0 v1 v3 w0 σ H locs cells slots ls hD hl hf
    unfold f_X6_chain_B98 at hf
    refine hs_istore_n (i := 2) (lv' := [(2, .int (w0)), (0, va_rf (v0)), (1, .int (v1)), (3, .int (v3))]) hx hb dX6_chain_98 rfl hl (by decide) (st_okR (st_okI (st_okI st_ok0))) rfl (fun ls hl => ?_)
    refine hs_iinc (i := 3) (k := 3) (v := v3 + 1) (lv' := [(3, .int (v3 + 1)), (2, .int (w0)), (0, va_rf (v0)), (1, .int (v1))]) hx hb dX6_chain_99 hl rfl (congrArg (fun z => v3 + z) (by decide)) (by decide) (st_okI (st_okR (st_okI (st_okI st_ok0)))) rfl (fun ls hl => ?_)
    refine lv_goto (tgt := 16) hx hb dX6_chain_102 (by decide) ?_
    exact hk16 v0 v1 w0 (v3 + 1) _ _ _ _ _ _ hD (lv_sub hl [2, 3, 1, 0] rfl) hf
  have hB93 : ∀ (k2 : Option Nat → Int32 → PS → Option (Unit × PS)) (hk2 : ∀ (z0 : Option Nat) (z1 : Int32) (σ : PS) (H : Heap) (locs : List Loc) (cells slots : Nat) (ls : Array Slot), Dy D G base E s.heap σ0 σ H locs cells slots → lv_has ls 6 [(0, va_rf (z0)), (1, .int (z1))] → k2 z0 z1 σ = some (rv, τ) → W p l e R s m ([.ref a0] : List Value).toArray below meth c H locs cells slots Q (F0 m 2 ls [])) (k16 : Option Nat → Int32 → Int32 → Int32 → PS → Option (Unit × PS)) (hk16 : ∀ (z0 : Option Nat) (z1 : Int32) (z2 : Int32) (z3 : Int32) (σ : PS) (H : Heap) (locs : List Loc) (cells slots : Nat) (ls : Array Slot), Dy D G base E s.heap σ0 σ H locs cells slots → lv_has ls 6 [(0, va_rf (z0)), (1, .int (z1)), (2, .int (z2)), (3, .int (z3))] → k16 z0 z1 z2 z3 σ = some (rv, τ) → W p l e R s m ([.ref a0] : List Value).toArray below meth c H locs cells slots Q (F0 m 16 ls [])), ∀ (v0 : Option Nat) (v1 : Int32) (v3 : Int32) (σ : PS) (H : Heap) (locs : List Loc) (cells slots : Nat) (ls : Array Slot), Dy D G base E s.heap σ0 σ H locs cells slots → lv_has ls 6 [(0, va_rf (v0)), (1, .int (v1)), (3, .int (v3))] → f_X6_chain_B93 E k2 k16 v0 v1 v3 σ = some (rv, τ) → W p l e R s m ([.ref a0] : List Value).toArray below meth c H locs cells slots Q (F0 m 93 ls []) := by
    intro k2 hk2 k16 hk16 v0 v1 v3 σ H locs cells slots ls hD hl hf
    unfold f_X6_chain_B93 at hf
    refine lv_iload_n hx hb dX6_chain_93 rfl (lv_at hl 2 rfl) ?_
    refine lv_goto (tgt := 98) hx hb dX6_chain_94 (by decide) ?_
    exact hB98 _ hk2 _ hk16 v0 v1 v3 v3 _ _ _ _ _ _ hD (lv_sub hl [0, 1, 2] rfl) hf
  have hB97 : ∀ (k2 : Option Nat → Int32 → PS → Option (Unit × PS)) (hk2 : ∀ (z0 : Option Nat) (z1 : Int32) (σ : PS) (H : Heap) (locs : List Loc) (cells slots : Nat) (ls : Array Slot), Dy D G base E s.heap σ0 σ H locs cells slots → lv_has ls 6 [(0, va_rf (z0)), (1, .int (z1))] → k2 z0 z1 σ = some (rv, τ) → W p l e R s m ([.ref a0] : List Value).toArray below meth c H locs cells slots Q (F0 m 2 ls [])) (k16 : Option Nat → Int32 → Int32 → Int32 → PS → Option (Unit × PS)) (hk16 : ∀ (z0 : Option Nat) (z1 : Int32) (z2 : Int32) (z3 : Int32) (σ : PS) (H : Heap) (locs : List Loc) (cells slots : Nat) (ls : Array Slot), Dy D G base E s.heap σ0 σ H locs cells slots → lv_has ls 6 [(0, va_rf (z0)), (1, .int (z1)), (2, .int (z2)), (3, .int (z3))] → k16 z0 z1 z2 z3 σ = some (rv, τ) → W p l e R s m ([.ref a0] : List Value).toArray below meth c H locs cells slots Q (F0 m 16 ls [])), ∀ (v0 : Option Nat) (v1 : Int32) (v2 : Int32) (v3 : Int32) (σ : PS) (H : Heap) (locs : List Loc) (cells slots : Nat) (ls : Array Slot), Dy D G base E s.heap σ0 σ H locs cells slots → lv_has ls 6 [(0, va_rf (v0)), (1, .int (v1)), (2, .int (v2)), (3, .int (v3))] → f_X6_chain_B97 E k2 k16 v0 v1 v2 v3 σ = some (rv, τ) → W p l e R s m ([.ref a0] : List Value).toArray below meth c H locs cells slots Q (F0 m 97 ls []) := by
    intro k2 hk2 k16 hk16 v0 v1 v2 v3 σ H locs cells slots ls hD hl hf
    unfold f_X6_chain_B97 at hf
    refine lv_iload_n hx hb dX6_chain_97 rfl (lv_at hl 2 rfl) ?_
    exact hB98 _ hk2 _ hk16 v0 v1 v3 v2 _ _ _ _ _ _ hD (lv_sub hl [0, 1, 3] rfl) hf
  have hL16 : ∀ (k2 : Option Nat → Int32 → PS → Option (Unit × PS)) (hk2 : ∀ (z0 : Option Nat) (z1 : Int32) (σ : PS) (H : Heap) (locs : List Loc) (cells slots : Nat) (ls : Array Slot), Dy D G base E s.heap σ0 σ H locs cells slots → lv_has ls 6 [(0, va_rf (z0)), (1, .int (z1))] → k2 z0 z1 σ = some (rv, τ) → W p l e R s m ([.ref a0] : List Value).toArray below meth c H locs cells slots Q (F0 m 2 ls [])) (n : Nat), ∀ (v0 : Option Nat) (v1 : Int32) (v2 : Int32) (v3 : Int32) (σ : PS) (H : Heap) (locs : List Loc) (cells slots : Nat) (ls : Array Slot), Dy D G base E s.heap σ0 σ H locs cells slots → lv_has ls 6 [(0, va_rf (v0)), (1, .int (v1)), (2, .int (v2)), (3, .int (v3))] → f_X6_chain_L16 E k2 n v0 v1 v2 v3 σ = some (rv, τ) → W p l e R s m ([.ref a0] : List Value).toArray below meth c H locs cells slots Q (F0 m 16 ls []) := by
    intro k2 hk2 n
    induction n with
    | zero =>
      intro v0 v1 v2 v3 σ H locs cells slots ls hD hl hf
      rw [f_X6_chain_L16] at hf
      cases hf
    | succ n ih =>
      intro v0 v1 v2 v3 σ H locs cells slots ls hD hl hf
      rw [f_X6_chain_L16] at hf
      refine lv_iload_n hx hb dX6_chain_16 rfl (lv_at hl 3 rfl) ?_
      refine hw_aload_n (r := v0) hx hb dX6_chain_17 rfl (lv_at hl 0 rfl) ?_
      obtain ⟨x2, hv, hf⟩ := ob_s hf
      refine hw_gi (C := RX6) (T := TX6) (N := 23) (ref := "SolidGroupsModel") S hKn hD hv rfl (by decide) (by decide) rfl inX6 wd0 (fun _ h9 => h9) dX6_chain_18 ?_
      refine lv_icmp_ge (tgt := 105) hx hb dX6_chain_21 (by decide) (fun hc => ?_) (fun hc => ?_)
      · rw [if_pos hc] at hf
        refine hw_aload_n (r := v0) hx hb dX6_chain_105 rfl (lv_at hl 0 rfl) ?_
        obtain ⟨x3, hv, hf⟩ := ob_s hf
        refine hw_gr (C := RX6) (T := TX6) (N := 23) (ref := "SolidGroupsModel") S hKn hD hv rfl (by decide) (by decide) rfl inX6 wd1 (fun _ h9 => h9) dX6_chain_106 ?_
        refine lv_iload_n hx hb dX6_chain_109 rfl (lv_at hl 2 rfl) ?_
        obtain ⟨x4, hv, hf⟩ := ob_s hf
        refine hw_al S hKn hD hv dX6_chain_110 ?_
        refine hs_istore_n (i := 3) (lv' := [(3, .int (x4)), (0, va_rf (v0)), (1, .int (v1)), (2, .int (v2))]) hx hb dX6_chain_111 rfl hl (by decide) (st_okR (st_okI (st_okI (st_okI st_ok0)))) rfl (fun ls hl => ?_)
        refine hw_aload_n (r := v0) hx hb dX6_chain_112 rfl (lv_at hl 1 rfl) ?_
        obtain ⟨x5, hv, hf⟩ := ob_s hf
        refine hw_gr (C := RX6) (T := TX6) (N := 23) (ref := "SolidGroupsModel") S hKn hD hv rfl (by decide) (by decide) rfl inX6 wd1 (fun _ h9 => h9) dX6_chain_113 ?_
        refine lv_iload_n hx hb dX6_chain_116 rfl (lv_at hl 3 rfl) ?_
        refine hw_aload_n (r := v0) hx hb dX6_chain_117 rfl (lv_at hl 1 rfl) ?_
        obtain ⟨x6, hv, hf⟩ := ob_s hf
        refine hw_gr (C := RX6) (T := TX6) (N := 23) (ref := "SolidGroupsModel") S hKn hD hv rfl (by decide) (by decide) rfl inX6 wd1 (fun _ h9 => h9) dX6_chain_118 ?_
        refine lv_iload_n hx hb dX6_chain_121 rfl (lv_at hl 2 rfl) ?_
        obtain ⟨x7, hv, hf⟩ := ob_s hf
        refine hw_al S hKn hD hv dX6_chain_122 ?_
        obtain ⟨s8, hv, hf⟩ := ob_s hf
        refine hw_as S hKn hD hv dX6_chain_123 (fun H locs hD => ?_)
        refine hw_aload_n (r := v0) hx hb dX6_chain_124 rfl (lv_at hl 1 rfl) ?_
        obtain ⟨x9, hv, hf⟩ := ob_s hf
        refine hw_gr (C := RX6) (T := TX6) (N := 23) (ref := "SolidGroupsModel") S hKn hD hv rfl (by decide) (by decide) rfl inX6 wd1 (fun _ h9 => h9) dX6_chain_125 ?_
        refine lv_iload_n hx hb dX6_chain_128 rfl (lv_at hl 2 rfl) ?_
        refine lv_iload_n hx hb dX6_chain_129 rfl (lv_at hl 0 rfl) ?_
        obtain ⟨s10, hv, hf⟩ := ob_s hf
        refine hw_as S hKn hD hv dX6_chain_130 (fun H locs hD => ?_)
        refine hs_iinc (i := 1) (k := 2) (v := v1 + 1) (lv' := [(1, .int (v1 + 1)), (3, .int (x4)), (0, va_rf (v0)), (2, .int (v2))]) hx hb dX6_chain_131 hl rfl (congrArg (fun z => v1 + z) (by decide)) (by decide) (st_okI (st_okR (st_okI (st_okI st_ok0)))) rfl (fun ls hl => ?_)
        refine lv_goto (tgt := 2) hx hb dX6_chain_134 (by decide) ?_
        exact hk2 v0 (v1 + 1) _ _ _ _ _ _ hD (lv_sub hl [2, 0] rfl) hf
      · rw [if_neg hc] at hf
        refine hw_aload_n (r := v0) hx hb dX6_chain_24 rfl (lv_at hl 0 rfl) ?_
        refine hw_aload_n (r := v0) hx hb dX6_chain_25 rfl (lv_at hl 0 rfl) ?_
        obtain ⟨x11, hv, hf⟩ := ob_s hf
        refine hw_gr (C := RX6) (T := TX6) (N := 23) (ref := "SolidGroupsModel") S hKn hD hv rfl (by decide) (by decide) rfl inX6 wd1 (fun _ h9 => h9) dX6_chain_26 ?_
        refine lv_iload_n hx hb dX6_chain_29 rfl (lv_at hl 1 rfl) ?_
        refine lv_iconst (v := (1)) hx hb dX6_chain_30 (by decide) ?_
        refine lv_isub hx hb dX6_chain_31 ?_
        obtain ⟨x12, hv, hf⟩ := ob_s hf
        refine hw_al S hKn hD hv dX6_chain_32 ?_
        refine hw_aload_n (r := v0) hx hb dX6_chain_33 rfl (lv_at hl 0 rfl) ?_
        obtain ⟨x13, hv, hf⟩ := ob_s hf
        refine hw_gr (C := RX6) (T := TX6) (N := 23) (ref := "SolidGroupsModel") S hKn hD hv rfl (by decide) (by decide) rfl inX6 wd1 (fun _ h9 => h9) dX6_chain_34 ?_
        refine lv_iload_n hx hb dX6_chain_37 rfl (lv_at hl 3 rfl) ?_
        obtain ⟨x14, hv, hf⟩ := ob_s hf
        refine hw_al S hKn hD hv dX6_chain_38 ?_
        obtain ⟨b17, hv, hf⟩ := ob_s hf
        obtain ⟨e9, hk9⟩ := oK_of hv
        cases e9
        obtain ⟨r15, s16, hv, hf⟩ := ob_p hf
        refine hw_V (b := b17) (ci := 7) (T := TX6) (N := 23) (As := [.int (x12), .int (x14)]) (rest := []) S hKn hRm hD (c_X6_distanceOf l D G base E hv) (mo_X6_distanceOf hv) hk9 rfl (by decide) gX6_chain_X6_distanceOf rfl 2 (by decide +kernel) ⟨by rw [hfr]; decide, by rw [hlo]; decide⟩ rfl hl.1 (Nat.le_trans cs_0 (by decide)) rfl dX6_chain_39 (fun H locs cells slots hD => ?_)
        refine W.eq (g2 := F0 m 42 ls [.int (r15)]) rfl ?_
        refine hs_istore (i := 4) (lv' := [(4, .int (r15)), (0, va_rf ((some b17))), (1, .int (v1)), (2, .int (v2)), (3, .int (v3))]) hx hb dX6_chain_42 hl (by decide) (st_okR (st_okI (st_okI (st_okI st_ok0)))) rfl (fun ls hl => ?_)
        refine hw_aload_n (r := (some b17)) hx hb dX6_chain_44 rfl (lv_at hl 1 rfl) ?_
        refine hw_aload_n (r := (some b17)) hx hb dX6_chain_45 rfl (lv_at hl 1 rfl) ?_
        obtain ⟨x18, hv, hf⟩ := ob_s hf
        refine hw_gr (C := RX6) (T := TX6) (N := 23) (ref := "SolidGroupsModel") S hKn hD hv rfl (by decide) (by decide) rfl inX6 wd1 (fun _ h9 => h9) dX6_chain_46 ?_
        refine lv_iload_n hx hb dX6_chain_49 rfl (lv_at hl 2 rfl) ?_
        refine lv_iconst (v := (1)) hx hb dX6_chain_50 (by decide) ?_
        refine lv_isub hx hb dX6_chain_51 ?_
        obtain ⟨x19, hv, hf⟩ := ob_s hf
        refine hw_al S hKn hD hv dX6_chain_52 ?_
        refine hw_aload_n (r := (some b17)) hx hb dX6_chain_53 rfl (lv_at hl 1 rfl) ?_
        obtain ⟨x20, hv, hf⟩ := ob_s hf
        refine hw_gr (C := RX6) (T := TX6) (N := 23) (ref := "SolidGroupsModel") S hKn hD hv rfl (by decide) (by decide) rfl inX6 wd1 (fun _ h9 => h9) dX6_chain_54 ?_
        refine lv_iload_n hx hb dX6_chain_57 rfl (lv_at hl 3 rfl) ?_
        obtain ⟨x21, hv, hf⟩ := ob_s hf
        refine hw_al S hKn hD hv dX6_chain_58 ?_
        obtain ⟨b24, hv, hf⟩ := ob_s hf
        obtain ⟨e9, hk9⟩ := oK_of hv
        cases e9
        obtain ⟨r22, s23, hv, hf⟩ := ob_p hf
        refine hw_V (b := b17) (ci := 7) (T := TX6) (N := 23) (As := [.int (x19), .int (x21)]) (rest := []) S hKn hRm hD (c_X6_distanceOf l D G base E hv) (mo_X6_distanceOf hv) hk9 rfl (by decide) gX6_chain_X6_distanceOf rfl 2 (by decide +kernel) ⟨by rw [hfr]; decide, by rw [hlo]; decide⟩ rfl hl.1 (Nat.le_trans cs_0 (by decide)) rfl dX6_chain_59 (fun H locs cells slots hD => ?_)
        refine W.eq (g2 := F0 m 62 ls [.int (r22)]) rfl ?_
        refine hs_istore (i := 5) (lv' := [(5, .int (r22)), (4, .int (r15)), (0, va_rf ((some b17))), (1, .int (v1)), (2, .int (v2)), (3, .int (v3))]) hx hb dX6_chain_62 hl (by decide) (st_okI (st_okR (st_okI (st_okI (st_okI st_ok0))))) rfl (fun ls hl => ?_)
        refine lv_iload hx hb dX6_chain_64 (lv_at hl 1 rfl) ?_
        refine lv_iload hx hb dX6_chain_66 (lv_at hl 0 rfl) ?_
        refine lv_icmp_lt (tgt := 93) hx hb dX6_chain_68 (by decide) (fun hc => ?_) (fun hc => ?_)
        · rw [if_pos hc] at hf
          exact hB93 _ hk2 _ ih (some b17) v1 v3 _ _ _ _ _ _ hD (lv_sub hl [2, 3, 5] rfl) hf
        · rw [if_neg hc] at hf
          refine lv_iload hx hb dX6_chain_71 (lv_at hl 1 rfl) ?_
          refine lv_iload hx hb dX6_chain_73 (lv_at hl 0 rfl) ?_
          refine lv_icmp_ne (tgt := 97) hx hb dX6_chain_75 (by decide) (fun hc => ?_) (fun hc => ?_)
          · rw [if_neg hc] at hf
            exact hB97 _ hk2 _ ih (some b17) v1 v2 v3 _ _ _ _ _ _ hD (lv_sub hl [2, 3, 4, 5] rfl) hf
          · rw [if_pos hc] at hf
            refine hw_aload_n (r := (some b17)) hx hb dX6_chain_78 rfl (lv_at hl 2 rfl) ?_
            obtain ⟨x25, hv, hf⟩ := ob_s hf
            refine hw_gr (C := RX6) (T := TX6) (N := 23) (ref := "SolidGroupsModel") S hKn hD hv rfl (by decide) (by decide) rfl inX6 wd1 (fun _ h9 => h9) dX6_chain_79 ?_
            refine lv_iload_n hx hb dX6_chain_82 rfl (lv_at hl 5 rfl) ?_
            obtain ⟨x26, hv, hf⟩ := ob_s hf
            refine hw_al S hKn hD hv dX6_chain_83 ?_
            refine hw_aload_n (r := (some b17)) hx hb dX6_chain_84 rfl (lv_at hl 2 rfl) ?_
            obtain ⟨x27, hv, hf⟩ := ob_s hf
            refine hw_gr (C := RX6) (T := TX6) (N := 23) (ref := "SolidGroupsModel") S hKn hD hv rfl (by decide) (by decide) rfl inX6 wd1 (fun _ h9 => h9) dX6_chain_85 ?_
            refine lv_iload_n hx hb dX6_chain_88 rfl (lv_at hl 4 rfl) ?_
            obtain ⟨x28, hv, hf⟩ := ob_s hf
            refine hw_al S hKn hD hv dX6_chain_89 ?_
            refine lv_icmp_ge (tgt := 97) hx hb dX6_chain_90 (by decide) (fun hc => ?_) (fun hc => ?_)
            · rw [if_pos hc] at hf
              exact hB97 _ hk2 _ ih (some b17) v1 v2 v3 _ _ _ _ _ _ hD (lv_sub hl [2, 3, 4, 5] rfl) hf
            · rw [if_neg hc] at hf
              exact hB93 _ hk2 _ ih (some b17) v1 v3 _ _ _ _ _ _ hD (lv_sub hl [2, 3, 5] rfl) hf
  have hL2 : ∀ (n : Nat), ∀ (v0 : Option Nat) (v1 : Int32) (σ : PS) (H : Heap) (locs : List Loc) (cells slots : Nat) (ls : Array Slot), Dy D G base E s.heap σ0 σ H locs cells slots → lv_has ls 6 [(0, va_rf (v0)), (1, .int (v1))] → f_X6_chain_L2 E n v0 v1 σ = some (rv, τ) → W p l e R s m ([.ref a0] : List Value).toArray below meth c H locs cells slots Q (F0 m 2 ls []) := by
    intro n
    induction n with
    | zero =>
      intro v0 v1 σ H locs cells slots ls hD hl hf
      rw [f_X6_chain_L2] at hf
      cases hf
    | succ n ih =>
      intro v0 v1 σ H locs cells slots ls hD hl hf
      rw [f_X6_chain_L2] at hf
      refine lv_iload_n hx hb dX6_chain_2 rfl (lv_at hl 1 rfl) ?_
      refine hw_aload_n (r := v0) hx hb dX6_chain_3 rfl (lv_at hl 0 rfl) ?_
      obtain ⟨x1, hv, hf⟩ := ob_s hf
      refine hw_gi (C := RX6) (T := TX6) (N := 23) (ref := "SolidGroupsModel") S hKn hD hv rfl (by decide) (by decide) rfl inX6 wd0 (fun _ h9 => h9) dX6_chain_4 ?_
      refine lv_icmp_ge (tgt := 137) hx hb dX6_chain_7 (by decide) (fun hc => ?_) (fun hc => ?_)
      · rw [if_pos hc] at hf
        obtain ⟨-, e2⟩ := ret_eq hf
        rw [hQ, ← e2]
        exact hw_vret S hlk hret hD dX6_chain_137
      · rw [if_neg hc] at hf
        refine lv_iload_n hx hb dX6_chain_10 rfl (lv_at hl 1 rfl) ?_
        refine hs_istore_n (i := 2) (lv' := [(2, .int (v1)), (0, va_rf (v0)), (1, .int (v1))]) hx hb dX6_chain_11 rfl hl (by decide) (st_okR (st_okI st_ok0)) rfl (fun ls hl => ?_)
        refine lv_iload_n hx hb dX6_chain_12 rfl (lv_at hl 2 rfl) ?_
        refine lv_iconst (v := (1)) hx hb dX6_chain_13 (by decide) ?_
        refine lv_iadd hx hb dX6_chain_14 ?_
        refine hs_istore_n (i := 3) (lv' := [(3, .int (v1 + (1 : Int32))), (2, .int (v1)), (0, va_rf (v0)), (1, .int (v1))]) hx hb dX6_chain_15 rfl hl (by decide) (st_okI (st_okR (st_okI st_ok0))) rfl (fun ls hl => ?_)
        exact hL16 _ ih _ v0 v1 v1 (v1 + (1 : Int32)) _ _ _ _ _ _ hD (lv_sub hl [2, 3, 1, 0] rfl) hf
  have hl : lv_has ls 6 [(0, va_rf (some a0))] := hl
  unfold g_X6_chain at hf
  refine lv_iconst (v := (1)) hx hb dX6_chain_0 (by decide) ?_
  refine hs_istore_n (i := 1) (lv' := [(1, .int ((1 : Int32))), (0, va_rf ((some a0)))]) hx hb dX6_chain_1 rfl hl (by decide) (st_okR st_ok0) rfl (fun ls hl => ?_)
  exact hL2 _ (some a0) (1 : Int32) _ _ _ _ _ _ hD (lv_sub hl [1, 0] rfl) hf
set_option maxHeartbeats 4000000 in
set_option maxRecDepth 100000 in
theorem c_X6_rowSum (l : Launch) (D : va_G) (G : GC) (base : Nat) (E : PE) {a0 : Nat} {σ0 τ : PS} {rv : Int32} (hF : f_X6_rowSum E (some a0) σ0 = some (rv, τ)) : Ct l D G base E yX6_rowSum wsX6_rowSum 2 48 ([.ref a0] : List Value) σ0 (some (.int rv)) τ := by
  obtain ⟨hf, hmo⟩ := oM_of hF
  refine Ct.of (own := RX6) [1] (by decide) rfl rfl hmo (ct_R ct_0) (by decide) ?_
  intro p e s m below meth c R Q ls H locs cells slots S hKn hRm hfr hlo hlk hret hnm hQ hD hl
  have hx := S.1
  have hb := S.2.1
  have hts := S.2.2.2.2
  have inX6 : ∀ w ∈ u_ws RX6 TX6 23, w ∈ wsX6_rowSum := by decide +kernel
  have wd0 := hts (.fieldLink RX6 90 "SolidGroupsModel" "rowMany" "I") (by decide +kernel)
  have wd1 := hts (.fieldLink RX6 47 "SolidGroupsModel" "row" "[I") (by decide +kernel)
  have hL4 : ∀ (n : Nat), ∀ (v0 : Option Nat) (v1 : Int32) (v2 : Int32) (σ : PS) (H : Heap) (locs : List Loc) (cells slots : Nat) (ls : Array Slot), Dy D G base E s.heap σ0 σ H locs cells slots → lv_has ls 3 [(0, va_rf (v0)), (1, .int (v1)), (2, .int (v2))] → f_X6_rowSum_L4 E n v0 v1 v2 σ = some (rv, τ) → W p l e R s m ([.ref a0] : List Value).toArray below meth c H locs cells slots Q (F0 m 4 ls []) := by
    intro n
    induction n with
    | zero =>
      intro v0 v1 v2 σ H locs cells slots ls hD hl hf
      rw [f_X6_rowSum_L4] at hf
      cases hf
    | succ n ih =>
      intro v0 v1 v2 σ H locs cells slots ls hD hl hf
      rw [f_X6_rowSum_L4] at hf
      refine lv_iload_n hx hb dX6_rowSum_4 rfl (lv_at hl 2 rfl) ?_
      refine hw_aload_n (r := v0) hx hb dX6_rowSum_5 rfl (lv_at hl 0 rfl) ?_
      obtain ⟨x1, hv, hf⟩ := ob_s hf
      refine hw_gi (C := RX6) (T := TX6) (N := 23) (ref := "SolidGroupsModel") S hKn hD hv rfl (by decide) (by decide) rfl inX6 wd0 (fun _ h9 => h9) dX6_rowSum_6 ?_
      refine lv_icmp_ge (tgt := 39) hx hb dX6_rowSum_9 (by decide) (fun hc => ?_) (fun hc => ?_)
      · rw [if_pos hc] at hf
        refine lv_iload_n hx hb dX6_rowSum_39 rfl (lv_at hl 1 rfl) ?_
        obtain ⟨e1, e2⟩ := ret_eq hf
        rw [hQ, ← e1, ← e2]
        exact hw_iret S hlk hret rfl hD dX6_rowSum_40
      · rw [if_neg hc] at hf
        refine lv_iload_n hx hb dX6_rowSum_12 rfl (lv_at hl 1 rfl) ?_
        refine hw_aload_n (r := v0) hx hb dX6_rowSum_13 rfl (lv_at hl 0 rfl) ?_
        refine hw_aload_n (r := v0) hx hb dX6_rowSum_14 rfl (lv_at hl 0 rfl) ?_
        obtain ⟨x2, hv, hf⟩ := ob_s hf
        refine hw_gr (C := RX6) (T := TX6) (N := 23) (ref := "SolidGroupsModel") S hKn hD hv rfl (by decide) (by decide) rfl inX6 wd1 (fun _ h9 => h9) dX6_rowSum_15 ?_
        refine lv_iload_n hx hb dX6_rowSum_18 rfl (lv_at hl 2 rfl) ?_
        refine lv_iconst (v := (1)) hx hb dX6_rowSum_19 (by decide) ?_
        refine lv_isub hx hb dX6_rowSum_20 ?_
        obtain ⟨x3, hv, hf⟩ := ob_s hf
        refine hw_al S hKn hD hv dX6_rowSum_21 ?_
        refine hw_aload_n (r := v0) hx hb dX6_rowSum_22 rfl (lv_at hl 0 rfl) ?_
        obtain ⟨x4, hv, hf⟩ := ob_s hf
        refine hw_gr (C := RX6) (T := TX6) (N := 23) (ref := "SolidGroupsModel") S hKn hD hv rfl (by decide) (by decide) rfl inX6 wd1 (fun _ h9 => h9) dX6_rowSum_23 ?_
        refine lv_iload_n hx hb dX6_rowSum_26 rfl (lv_at hl 2 rfl) ?_
        obtain ⟨x5, hv, hf⟩ := ob_s hf
        refine hw_al S hKn hD hv dX6_rowSum_27 ?_
        obtain ⟨b8, hv, hf⟩ := ob_s hf
        obtain ⟨e9, hk9⟩ := oK_of hv
        cases e9
        obtain ⟨r6, s7, hv, hf⟩ := ob_p hf
        refine hw_V (b := b8) (ci := 7) (T := TX6) (N := 23) (As := [.int (x3), .int (x5)]) (rest := [.int (v1)]) S hKn hRm hD (c_X6_distanceOf l D G base E hv) (mo_X6_distanceOf hv) hk9 rfl (by decide) gX6_rowSum_X6_distanceOf rfl 2 (by decide +kernel) ⟨by rw [hfr]; decide, by rw [hlo]; decide⟩ rfl hl.1 (Nat.le_trans (cs_I cs_0) (by decide)) rfl dX6_rowSum_28 (fun H locs cells slots hD => ?_)
        refine W.eq (g2 := F0 m 31 ls [.int (r6), .int (v1)]) rfl ?_
        refine lv_iadd hx hb dX6_rowSum_31 ?_
        refine hs_istore_n (i := 1) (lv' := [(1, .int (v1 + r6)), (0, va_rf ((some b8))), (2, .int (v2))]) hx hb dX6_rowSum_32 rfl hl (by decide) (st_okR (st_okI (st_okI st_ok0))) rfl (fun ls hl => ?_)
        refine hs_iinc (i := 2) (k := 2) (v := v2 + 1) (lv' := [(2, .int (v2 + 1)), (1, .int (v1 + r6)), (0, va_rf ((some b8)))]) hx hb dX6_rowSum_33 hl rfl (congrArg (fun z => v2 + z) (by decide)) (by decide) (st_okI (st_okR (st_okI st_ok0))) rfl (fun ls hl => ?_)
        refine lv_goto (tgt := 4) hx hb dX6_rowSum_36 (by decide) ?_
        exact ih (some b8) (v1 + r6) (v2 + 1) _ _ _ _ _ _ hD (lv_sub hl [2, 1, 0] rfl) hf
  have hl : lv_has ls 3 [(0, va_rf (some a0))] := hl
  unfold g_X6_rowSum at hf
  refine lv_iconst (v := (0)) hx hb dX6_rowSum_0 (by decide) ?_
  refine hs_istore_n (i := 1) (lv' := [(1, .int ((0 : Int32))), (0, va_rf ((some a0)))]) hx hb dX6_rowSum_1 rfl hl (by decide) (st_okR st_ok0) rfl (fun ls hl => ?_)
  refine lv_iconst (v := (1)) hx hb dX6_rowSum_2 (by decide) ?_
  refine hs_istore_n (i := 2) (lv' := [(2, .int ((1 : Int32))), (1, .int ((0 : Int32))), (0, va_rf ((some a0)))]) hx hb dX6_rowSum_3 rfl hl (by decide) (st_okI (st_okR st_ok0)) rfl (fun ls hl => ?_)
  exact hL4 _ (some a0) (0 : Int32) (1 : Int32) _ _ _ _ _ _ hD (lv_sub hl [2, 1, 0] rfl) hf
set_option maxHeartbeats 4000000 in
set_option maxRecDepth 100000 in
theorem c_X6_next (l : Launch) (D : va_G) (G : GC) (base : Nat) (E : PE) {a0 : Nat} {σ0 τ : PS} {rv : Int32} (hF : f_X6_next E (some a0) σ0 = some (rv, τ)) : Ct l D G base E yX6_next wsX6_next 0 0 ([.ref a0] : List Value) σ0 (some (.int rv)) τ := by
  obtain ⟨hf, hmo⟩ := oM_of hF
  refine Ct.of (own := RX6) [1] (by decide) rfl rfl hmo (ct_R ct_0) (by decide) ?_
  intro p e s m below meth c R Q ls H locs cells slots S hKn hRm hfr hlo hlk hret hnm hQ hD hl
  have hx := S.1
  have hb := S.2.1
  have hts := S.2.2.2.2
  have inX6 : ∀ w ∈ u_ws RX6 TX6 23, w ∈ wsX6_next := by decide +kernel
  have wd0 := hts (.fieldLink RX6 90 "SolidGroupsModel" "rowMany" "I") (by decide +kernel)
  have wd1 := hts (.fieldLink RX6 47 "SolidGroupsModel" "row" "[I") (by decide +kernel)
  have hL107 : ∀ (n : Nat), ∀ (v0 : Option Nat) (v4 : Int32) (v5 : Int32) (σ : PS) (H : Heap) (locs : List Loc) (cells slots : Nat) (ls : Array Slot), Dy D G base E s.heap σ0 σ H locs cells slots → lv_has ls 6 [(0, va_rf (v0)), (4, .int (v4)), (5, .int (v5))] → f_X6_next_L107 E n v0 v4 v5 σ = some (rv, τ) → W p l e R s m ([.ref a0] : List Value).toArray below meth c H locs cells slots Q (F0 m 107 ls []) := by
    intro n
    induction n with
    | zero =>
      intro v0 v4 v5 σ H locs cells slots ls hD hl hf
      rw [f_X6_next_L107] at hf
      cases hf
    | succ n ih =>
      intro v0 v4 v5 σ H locs cells slots ls hD hl hf
      rw [f_X6_next_L107] at hf
      refine lv_iload hx hb dX6_next_107 (lv_at hl 1 rfl) ?_
      refine lv_iload hx hb dX6_next_109 (lv_at hl 2 rfl) ?_
      refine lv_icmp_ge (tgt := 153) hx hb dX6_next_111 (by decide) (fun hc => ?_) (fun hc => ?_)
      · rw [if_pos hc] at hf
        refine lv_iconst (v := (1)) hx hb dX6_next_153 (by decide) ?_
        obtain ⟨e1, e2⟩ := ret_eq hf
        rw [hQ, ← e1, ← e2]
        exact hw_iret S hlk hret (by decide) hD dX6_next_154
      · rw [if_neg hc] at hf
        refine hw_aload_n (r := v0) hx hb dX6_next_114 rfl (lv_at hl 0 rfl) ?_
        obtain ⟨x20, hv, hf⟩ := ob_s hf
        refine hw_gr (C := RX6) (T := TX6) (N := 23) (ref := "SolidGroupsModel") S hKn hD hv rfl (by decide) (by decide) rfl inX6 wd1 (fun _ h9 => h9) dX6_next_115 ?_
        refine lv_iload hx hb dX6_next_118 (lv_at hl 1 rfl) ?_
        obtain ⟨x21, hv, hf⟩ := ob_s hf
        refine hw_al S hKn hD hv dX6_next_120 ?_
        refine hs_istore_n (i := 3) (lv' := [(3, .int (x21)), (0, va_rf (v0)), (4, .int (v4)), (5, .int (v5))]) hx hb dX6_next_121 rfl hl (by decide) (st_okR (st_okI (st_okI st_ok0))) rfl (fun ls hl => ?_)
        refine hw_aload_n (r := v0) hx hb dX6_next_122 rfl (lv_at hl 1 rfl) ?_
        obtain ⟨x22, hv, hf⟩ := ob_s hf
        refine hw_gr (C := RX6) (T := TX6) (N := 23) (ref := "SolidGroupsModel") S hKn hD hv rfl (by decide) (by decide) rfl inX6 wd1 (fun _ h9 => h9) dX6_next_123 ?_
        refine lv_iload hx hb dX6_next_126 (lv_at hl 2 rfl) ?_
        refine hw_aload_n (r := v0) hx hb dX6_next_128 rfl (lv_at hl 1 rfl) ?_
        obtain ⟨x23, hv, hf⟩ := ob_s hf
        refine hw_gr (C := RX6) (T := TX6) (N := 23) (ref := "SolidGroupsModel") S hKn hD hv rfl (by decide) (by decide) rfl inX6 wd1 (fun _ h9 => h9) dX6_next_129 ?_
        refine lv_iload hx hb dX6_next_132 (lv_at hl 3 rfl) ?_
        obtain ⟨x24, hv, hf⟩ := ob_s hf
        refine hw_al S hKn hD hv dX6_next_134 ?_
        obtain ⟨s25, hv, hf⟩ := ob_s hf
        refine hw_as S hKn hD hv dX6_next_135 (fun H locs hD => ?_)
        refine hw_aload_n (r := v0) hx hb dX6_next_136 rfl (lv_at hl 1 rfl) ?_
        obtain ⟨x26, hv, hf⟩ := ob_s hf
        refine hw_gr (C := RX6) (T := TX6) (N := 23) (ref := "SolidGroupsModel") S hKn hD hv rfl (by decide) (by decide) rfl inX6 wd1 (fun _ h9 => h9) dX6_next_137 ?_
        refine lv_iload hx hb dX6_next_140 (lv_at hl 3 rfl) ?_
        refine lv_iload_n hx hb dX6_next_142 rfl (lv_at hl 0 rfl) ?_
        obtain ⟨s27, hv, hf⟩ := ob_s hf
        refine hw_as S hKn hD hv dX6_next_143 (fun H locs hD => ?_)
        refine hs_iinc (i := 4) (k := 2) (v := v4 + 1) (lv' := [(4, .int (v4 + 1)), (3, .int (x21)), (0, va_rf (v0)), (5, .int (v5))]) hx hb dX6_next_144 hl rfl (congrArg (fun z => v4 + z) (by decide)) (by decide) (st_okI (st_okR (st_okI (st_okI st_ok0)))) rfl (fun ls hl => ?_)
        refine hs_iinc (i := 5) (k := 3) (v := v5 + (-1)) (lv' := [(5, .int (v5 + (-1))), (4, .int (v4 + 1)), (3, .int (x21)), (0, va_rf (v0))]) hx hb dX6_next_147 hl rfl (congrArg (fun z => v5 + z) (by decide)) (by decide) (st_okI (st_okI (st_okR (st_okI st_ok0)))) rfl (fun ls hl => ?_)
        refine lv_goto (tgt := 107) hx hb dX6_next_150 (by decide) ?_
        exact ih v0 (v4 + 1) (v5 + (-1)) _ _ _ _ _ _ hD (lv_sub hl [3, 1, 0] rfl) hf
  have hL47 : ∀ (n : Nat), ∀ (v0 : Option Nat) (v1 : Int32) (v2 : Int32) (σ : PS) (H : Heap) (locs : List Loc) (cells slots : Nat) (ls : Array Slot), Dy D G base E s.heap σ0 σ H locs cells slots → lv_has ls 6 [(0, va_rf (v0)), (1, .int (v1)), (2, .int (v2))] → f_X6_next_L47 E n v0 v1 v2 σ = some (rv, τ) → W p l e R s m ([.ref a0] : List Value).toArray below meth c H locs cells slots Q (F0 m 47 ls []) := by
    intro n
    induction n with
    | zero =>
      intro v0 v1 v2 σ H locs cells slots ls hD hl hf
      rw [f_X6_next_L47] at hf
      cases hf
    | succ n ih =>
      intro v0 v1 v2 σ H locs cells slots ls hD hl hf
      rw [f_X6_next_L47] at hf
      refine hw_aload_n (r := v0) hx hb dX6_next_47 rfl (lv_at hl 0 rfl) ?_
      obtain ⟨x7, hv, hf⟩ := ob_s hf
      refine hw_gr (C := RX6) (T := TX6) (N := 23) (ref := "SolidGroupsModel") S hKn hD hv rfl (by decide) (by decide) rfl inX6 wd1 (fun _ h9 => h9) dX6_next_48 ?_
      refine lv_iload_n hx hb dX6_next_51 rfl (lv_at hl 2 rfl) ?_
      obtain ⟨x8, hv, hf⟩ := ob_s hf
      refine hw_al S hKn hD hv dX6_next_52 ?_
      refine hw_aload_n (r := v0) hx hb dX6_next_53 rfl (lv_at hl 0 rfl) ?_
      obtain ⟨x9, hv, hf⟩ := ob_s hf
      refine hw_gr (C := RX6) (T := TX6) (N := 23) (ref := "SolidGroupsModel") S hKn hD hv rfl (by decide) (by decide) rfl inX6 wd1 (fun _ h9 => h9) dX6_next_54 ?_
      refine lv_iload_n hx hb dX6_next_57 rfl (lv_at hl 1 rfl) ?_
      obtain ⟨x10, hv, hf⟩ := ob_s hf
      refine hw_al S hKn hD hv dX6_next_58 ?_
      refine lv_icmp_ge (tgt := 68) hx hb dX6_next_59 (by decide) (fun hc => ?_) (fun hc => ?_)
      · rw [if_pos hc] at hf
        refine hw_aload_n (r := v0) hx hb dX6_next_68 rfl (lv_at hl 0 rfl) ?_
        obtain ⟨x11, hv, hf⟩ := ob_s hf
        refine hw_gr (C := RX6) (T := TX6) (N := 23) (ref := "SolidGroupsModel") S hKn hD hv rfl (by decide) (by decide) rfl inX6 wd1 (fun _ h9 => h9) dX6_next_69 ?_
        refine lv_iload_n hx hb dX6_next_72 rfl (lv_at hl 1 rfl) ?_
        obtain ⟨x12, hv, hf⟩ := ob_s hf
        refine hw_al S hKn hD hv dX6_next_73 ?_
        refine hs_istore_n (i := 3) (lv' := [(3, .int (x12)), (0, va_rf (v0)), (1, .int (v1)), (2, .int (v2))]) hx hb dX6_next_74 rfl hl (by decide) (st_okR (st_okI (st_okI st_ok0))) rfl (fun ls hl => ?_)
        refine hw_aload_n (r := v0) hx hb dX6_next_75 rfl (lv_at hl 1 rfl) ?_
        obtain ⟨x13, hv, hf⟩ := ob_s hf
        refine hw_gr (C := RX6) (T := TX6) (N := 23) (ref := "SolidGroupsModel") S hKn hD hv rfl (by decide) (by decide) rfl inX6 wd1 (fun _ h9 => h9) dX6_next_76 ?_
        refine lv_iload_n hx hb dX6_next_79 rfl (lv_at hl 2 rfl) ?_
        refine hw_aload_n (r := v0) hx hb dX6_next_80 rfl (lv_at hl 1 rfl) ?_
        obtain ⟨x14, hv, hf⟩ := ob_s hf
        refine hw_gr (C := RX6) (T := TX6) (N := 23) (ref := "SolidGroupsModel") S hKn hD hv rfl (by decide) (by decide) rfl inX6 wd1 (fun _ h9 => h9) dX6_next_81 ?_
        refine lv_iload_n hx hb dX6_next_84 rfl (lv_at hl 3 rfl) ?_
        obtain ⟨x15, hv, hf⟩ := ob_s hf
        refine hw_al S hKn hD hv dX6_next_85 ?_
        obtain ⟨s16, hv, hf⟩ := ob_s hf
        refine hw_as S hKn hD hv dX6_next_86 (fun H locs hD => ?_)
        refine hw_aload_n (r := v0) hx hb dX6_next_87 rfl (lv_at hl 1 rfl) ?_
        obtain ⟨x17, hv, hf⟩ := ob_s hf
        refine hw_gr (C := RX6) (T := TX6) (N := 23) (ref := "SolidGroupsModel") S hKn hD hv rfl (by decide) (by decide) rfl inX6 wd1 (fun _ h9 => h9) dX6_next_88 ?_
        refine lv_iload_n hx hb dX6_next_91 rfl (lv_at hl 3 rfl) ?_
        refine lv_iload_n hx hb dX6_next_92 rfl (lv_at hl 0 rfl) ?_
        obtain ⟨s18, hv, hf⟩ := ob_s hf
        refine hw_as S hKn hD hv dX6_next_93 (fun H locs hD => ?_)
        refine lv_iload_n hx hb dX6_next_94 rfl (lv_at hl 2 rfl) ?_
        refine lv_iconst (v := (1)) hx hb dX6_next_95 (by decide) ?_
        refine lv_iadd hx hb dX6_next_96 ?_
        refine hs_istore (i := 4) (lv' := [(4, .int (v1 + (1 : Int32))), (3, .int (x12)), (0, va_rf (v0)), (1, .int (v1)), (2, .int (v2))]) hx hb dX6_next_97 hl (by decide) (st_okI (st_okR (st_okI (st_okI st_ok0)))) rfl (fun ls hl => ?_)
        refine hw_aload_n (r := v0) hx hb dX6_next_99 rfl (lv_at hl 2 rfl) ?_
        obtain ⟨x19, hv, hf⟩ := ob_s hf
        refine hw_gi (C := RX6) (T := TX6) (N := 23) (ref := "SolidGroupsModel") S hKn hD hv rfl (by decide) (by decide) rfl inX6 wd0 (fun _ h9 => h9) dX6_next_100 ?_
        refine lv_iconst (v := (1)) hx hb dX6_next_103 (by decide) ?_
        refine lv_isub hx hb dX6_next_104 ?_
        refine hs_istore (i := 5) (lv' := [(5, .int (x19 - (1 : Int32))), (4, .int (v1 + (1 : Int32))), (3, .int (x12)), (0, va_rf (v0)), (1, .int (v1)), (2, .int (v2))]) hx hb dX6_next_105 hl (by decide) (st_okI (st_okI (st_okR (st_okI (st_okI st_ok0))))) rfl (fun ls hl => ?_)
        exact hL107 _ v0 (v1 + (1 : Int32)) (x19 - (1 : Int32)) _ _ _ _ _ _ hD (lv_sub hl [3, 1, 0] rfl) hf
      · rw [if_neg hc] at hf
        refine hs_iinc (i := 2) (k := 2) (v := v2 + (-1)) (lv' := [(2, .int (v2 + (-1))), (0, va_rf (v0)), (1, .int (v1))]) hx hb dX6_next_62 hl rfl (congrArg (fun z => v2 + z) (by decide)) (by decide) (st_okR (st_okI (st_okI st_ok0))) rfl (fun ls hl => ?_)
        refine lv_goto (tgt := 47) hx hb dX6_next_65 (by decide) ?_
        exact ih v0 v1 (v2 + (-1)) _ _ _ _ _ _ hD (lv_sub hl [1, 2, 0] rfl) hf
  have hB34 : ∀ (v0 : Option Nat) (v1 : Int32) (σ : PS) (H : Heap) (locs : List Loc) (cells slots : Nat) (ls : Array Slot), Dy D G base E s.heap σ0 σ H locs cells slots → lv_has ls 6 [(0, va_rf (v0)), (1, .int (v1))] → f_X6_next_B34 E v0 v1 σ = some (rv, τ) → W p l e R s m ([.ref a0] : List Value).toArray below meth c H locs cells slots Q (F0 m 34 ls []) := by
    intro v0 v1 σ H locs cells slots ls hD hl hf
    unfold f_X6_next_B34 at hf
    refine lv_iload_n hx hb dX6_next_34 rfl (lv_at hl 1 rfl) ?_
    refine lv_if_ge (tgt := 40) hx hb dX6_next_35 (by decide) (fun hc => ?_) (fun hc => ?_)
    · rw [if_pos hc] at hf
      refine hw_aload_n (r := v0) hx hb dX6_next_40 rfl (lv_at hl 0 rfl) ?_
      obtain ⟨x6, hv, hf⟩ := ob_s hf
      refine hw_gi (C := RX6) (T := TX6) (N := 23) (ref := "SolidGroupsModel") S hKn hD hv rfl (by decide) (by decide) rfl inX6 wd0 (fun _ h9 => h9) dX6_next_41 ?_
      refine lv_iconst (v := (1)) hx hb dX6_next_44 (by decide) ?_
      refine lv_isub hx hb dX6_next_45 ?_
      refine hs_istore_n (i := 2) (lv' := [(2, .int (x6 - (1 : Int32))), (0, va_rf (v0)), (1, .int (v1))]) hx hb dX6_next_46 rfl hl (by decide) (st_okR (st_okI st_ok0)) rfl (fun ls hl => ?_)
      exact hL47 _ v0 v1 (x6 - (1 : Int32)) _ _ _ _ _ _ hD (lv_sub hl [1, 2, 0] rfl) hf
    · rw [if_neg hc] at hf
      refine lv_iconst (v := (0)) hx hb dX6_next_38 (by decide) ?_
      obtain ⟨e1, e2⟩ := ret_eq hf
      rw [hQ, ← e1, ← e2]
      exact hw_iret S hlk hret (by decide) hD dX6_next_39
  have hL7 : ∀ (n : Nat), ∀ (v0 : Option Nat) (v1 : Int32) (σ : PS) (H : Heap) (locs : List Loc) (cells slots : Nat) (ls : Array Slot), Dy D G base E s.heap σ0 σ H locs cells slots → lv_has ls 6 [(0, va_rf (v0)), (1, .int (v1))] → f_X6_next_L7 E n v0 v1 σ = some (rv, τ) → W p l e R s m ([.ref a0] : List Value).toArray below meth c H locs cells slots Q (F0 m 7 ls []) := by
    intro n
    induction n with
    | zero =>
      intro v0 v1 σ H locs cells slots ls hD hl hf
      rw [f_X6_next_L7] at hf
      cases hf
    | succ n ih =>
      intro v0 v1 σ H locs cells slots ls hD hl hf
      rw [f_X6_next_L7] at hf
      refine lv_iload_n hx hb dX6_next_7 rfl (lv_at hl 1 rfl) ?_
      refine lv_if_lt (tgt := 34) hx hb dX6_next_8 (by decide) (fun hc => ?_) (fun hc => ?_)
      · rw [if_pos hc] at hf
        exact hB34 v0 v1 _ _ _ _ _ _ hD (lv_sub hl [0, 1] rfl) hf
      · rw [if_neg hc] at hf
        refine hw_aload_n (r := v0) hx hb dX6_next_11 rfl (lv_at hl 0 rfl) ?_
        obtain ⟨x2, hv, hf⟩ := ob_s hf
        refine hw_gr (C := RX6) (T := TX6) (N := 23) (ref := "SolidGroupsModel") S hKn hD hv rfl (by decide) (by decide) rfl inX6 wd1 (fun _ h9 => h9) dX6_next_12 ?_
        refine lv_iload_n hx hb dX6_next_15 rfl (lv_at hl 1 rfl) ?_
        obtain ⟨x3, hv, hf⟩ := ob_s hf
        refine hw_al S hKn hD hv dX6_next_16 ?_
        refine hw_aload_n (r := v0) hx hb dX6_next_17 rfl (lv_at hl 0 rfl) ?_
        obtain ⟨x4, hv, hf⟩ := ob_s hf
        refine hw_gr (C := RX6) (T := TX6) (N := 23) (ref := "SolidGroupsModel") S hKn hD hv rfl (by decide) (by decide) rfl inX6 wd1 (fun _ h9 => h9) dX6_next_18 ?_
        refine lv_iload_n hx hb dX6_next_21 rfl (lv_at hl 1 rfl) ?_
        refine lv_iconst (v := (1)) hx hb dX6_next_22 (by decide) ?_
        refine lv_iadd hx hb dX6_next_23 ?_
        obtain ⟨x5, hv, hf⟩ := ob_s hf
        refine hw_al S hKn hD hv dX6_next_24 ?_
        refine lv_icmp_le (tgt := 34) hx hb dX6_next_25 (by decide) (fun hc => ?_) (fun hc => ?_)
        · rw [if_pos hc] at hf
          exact hB34 v0 v1 _ _ _ _ _ _ hD (lv_sub hl [0, 1] rfl) hf
        · rw [if_neg hc] at hf
          refine hs_iinc (i := 1) (k := 1) (v := v1 + (-1)) (lv' := [(1, .int (v1 + (-1))), (0, va_rf (v0))]) hx hb dX6_next_28 hl rfl (congrArg (fun z => v1 + z) (by decide)) (by decide) (st_okR (st_okI st_ok0)) rfl (fun ls hl => ?_)
          refine lv_goto (tgt := 7) hx hb dX6_next_31 (by decide) ?_
          exact ih v0 (v1 + (-1)) _ _ _ _ _ _ hD (lv_sub hl [1, 0] rfl) hf
  have hl : lv_has ls 6 [(0, va_rf (some a0))] := hl
  unfold g_X6_next at hf
  refine hw_aload_n (r := (some a0)) hx hb dX6_next_0 rfl (lv_at hl 0 rfl) ?_
  obtain ⟨x1, hv, hf⟩ := ob_s hf
  refine hw_gi (C := RX6) (T := TX6) (N := 23) (ref := "SolidGroupsModel") S hKn hD hv rfl (by decide) (by decide) rfl inX6 wd0 (fun _ h9 => h9) dX6_next_1 ?_
  refine lv_iconst (v := (2)) hx hb dX6_next_4 (by decide) ?_
  refine lv_isub hx hb dX6_next_5 ?_
  refine hs_istore_n (i := 1) (lv' := [(1, .int (x1 - (2 : Int32))), (0, va_rf ((some a0)))]) hx hb dX6_next_6 rfl hl (by decide) (st_okR st_ok0) rfl (fun ls hl => ?_)
  exact hL7 _ (some a0) (x1 - (2 : Int32)) _ _ _ _ _ _ hD (lv_sub hl [1, 0] rfl) hf
set_option maxHeartbeats 4000000 in
set_option maxRecDepth 100000 in
theorem c_X6_bestOfAll (l : Launch) (D : va_G) (G : GC) (base : Nat) (E : PE) {a0 : Nat} {σ0 τ : PS} {rv : Unit} (hF : f_X6_bestOfAll E (some a0) σ0 = some (rv, τ)) : Ct l D G base E yX6_bestOfAll wsX6_bestOfAll 3 70 ([.ref a0] : List Value) σ0 none τ := by
  obtain ⟨hf, hmo⟩ := oM_of hF
  refine Ct.of (own := RX6) [1] (by decide) rfl rfl hmo (ct_R ct_0) (by decide) ?_
  intro p e s m below meth c R Q ls H locs cells slots S hKn hRm hfr hlo hlk hret hnm hQ hD hl
  have hx := S.1
  have hb := S.2.1
  have hts := S.2.2.2.2
  have inX6 : ∀ w ∈ u_ws RX6 TX6 23, w ∈ wsX6_bestOfAll := by decide +kernel
  have wd0 := hts (.fieldLink RX6 90 "SolidGroupsModel" "rowMany" "I") (by decide +kernel)
  have wd1 := hts (.fieldLink RX6 47 "SolidGroupsModel" "row" "[I") (by decide +kernel)
  have wd2 := hts (.fieldLink RX6 50 "SolidGroupsModel" "best" "[I") (by decide +kernel)
  have hL66 : ∀ (n : Nat), ∀ (v0 : Option Nat) (v3 : Int32) (σ : PS) (H : Heap) (locs : List Loc) (cells slots : Nat) (ls : Array Slot), Dy D G base E s.heap σ0 σ H locs cells slots → lv_has ls 5 [(0, va_rf (v0)), (3, .int (v3))] → f_X6_bestOfAll_L66 E n v0 v3 σ = some (rv, τ) → W p l e R s m ([.ref a0] : List Value).toArray below meth c H locs cells slots Q (F0 m 66 ls []) := by
    intro n
    induction n with
    | zero =>
      intro v0 v3 σ H locs cells slots ls hD hl hf
      rw [f_X6_bestOfAll_L66] at hf
      cases hf
    | succ n ih =>
      intro v0 v3 σ H locs cells slots ls hD hl hf
      rw [f_X6_bestOfAll_L66] at hf
      refine lv_iload_n hx hb dX6_bestOfAll_66 rfl (lv_at hl 1 rfl) ?_
      refine hw_aload_n (r := v0) hx hb dX6_bestOfAll_67 rfl (lv_at hl 0 rfl) ?_
      obtain ⟨x4, hv, hf⟩ := ob_s hf
      refine hw_gi (C := RX6) (T := TX6) (N := 23) (ref := "SolidGroupsModel") S hKn hD hv rfl (by decide) (by decide) rfl inX6 wd0 (fun _ h9 => h9) dX6_bestOfAll_68 ?_
      refine lv_icmp_ge (tgt := 92) hx hb dX6_bestOfAll_71 (by decide) (fun hc => ?_) (fun hc => ?_)
      · rw [if_pos hc] at hf
        obtain ⟨-, e2⟩ := ret_eq hf
        rw [hQ, ← e2]
        exact hw_vret S hlk hret hD dX6_bestOfAll_92
      · rw [if_neg hc] at hf
        refine hw_aload_n (r := v0) hx hb dX6_bestOfAll_74 rfl (lv_at hl 0 rfl) ?_
        obtain ⟨x5, hv, hf⟩ := ob_s hf
        refine hw_gr (C := RX6) (T := TX6) (N := 23) (ref := "SolidGroupsModel") S hKn hD hv rfl (by decide) (by decide) rfl inX6 wd1 (fun _ h9 => h9) dX6_bestOfAll_75 ?_
        refine lv_iload_n hx hb dX6_bestOfAll_78 rfl (lv_at hl 1 rfl) ?_
        refine hw_aload_n (r := v0) hx hb dX6_bestOfAll_79 rfl (lv_at hl 0 rfl) ?_
        obtain ⟨x6, hv, hf⟩ := ob_s hf
        refine hw_gr (C := RX6) (T := TX6) (N := 23) (ref := "SolidGroupsModel") S hKn hD hv rfl (by decide) (by decide) rfl inX6 wd2 (fun _ h9 => h9) dX6_bestOfAll_80 ?_
        refine lv_iload_n hx hb dX6_bestOfAll_83 rfl (lv_at hl 1 rfl) ?_
        obtain ⟨x7, hv, hf⟩ := ob_s hf
        refine hw_al S hKn hD hv dX6_bestOfAll_84 ?_
        obtain ⟨s8, hv, hf⟩ := ob_s hf
        refine hw_as S hKn hD hv dX6_bestOfAll_85 (fun H locs hD => ?_)
        refine hs_iinc (i := 3) (k := 1) (v := v3 + 1) (lv' := [(3, .int (v3 + 1)), (0, va_rf (v0))]) hx hb dX6_bestOfAll_86 hl rfl (congrArg (fun z => v3 + z) (by decide)) (by decide) (st_okR (st_okI st_ok0)) rfl (fun ls hl => ?_)
        refine lv_goto (tgt := 66) hx hb dX6_bestOfAll_89 (by decide) ?_
        exact ih v0 (v3 + 1) _ _ _ _ _ _ hD (lv_sub hl [1, 0] rfl) hf
  have hB56 : ∀ (k4 : Option Nat → Int32 → Int32 → PS → Option (Unit × PS)) (hk4 : ∀ (z0 : Option Nat) (z1 : Int32) (z2 : Int32) (σ : PS) (H : Heap) (locs : List Loc) (cells slots : Nat) (ls : Array Slot), Dy D G base E s.heap σ0 σ H locs cells slots → lv_has ls 5 [(0, va_rf (z0)), (1, .int (z1)), (2, .int (z2))] → k4 z0 z1 z2 σ = some (rv, τ) → W p l e R s m ([.ref a0] : List Value).toArray below meth c H locs cells slots Q (F0 m 4 ls [])), ∀ (v0 : Option Nat) (v1 : Int32) (σ : PS) (H : Heap) (locs : List Loc) (cells slots : Nat) (ls : Array Slot), Dy D G base E s.heap σ0 σ H locs cells slots → lv_has ls 5 [(0, va_rf (v0)), (1, .int (v1))] → f_X6_bestOfAll_B56 E k4 v0 v1 σ = some (rv, τ) → W p l e R s m ([.ref a0] : List Value).toArray below meth c H locs cells slots Q (F0 m 56 ls []) := by
    intro k4 hk4 v0 v1 σ H locs cells slots ls hD hl hf
    unfold f_X6_bestOfAll_B56 at hf
    refine hw_aload_n (r := v0) hx hb dX6_bestOfAll_56 rfl (lv_at hl 0 rfl) ?_
    obtain ⟨b16, hv, hf⟩ := ob_s hf
    obtain ⟨e9, hk9⟩ := oK_of hv
    cases e9
    obtain ⟨r14, s15, hv, hf⟩ := ob_p hf
    refine hw_V (b := b16) (ci := 7) (T := TX6) (N := 23) (As := []) (rest := []) S hKn hRm hD (c_X6_next l D G base E hv) (mo_X6_next hv) hk9 rfl (by decide) gX6_bestOfAll_X6_next rfl 0 (by decide +kernel) ⟨by rw [hfr]; decide, by rw [hlo]; decide⟩ rfl hl.1 (Nat.le_trans cs_0 (by decide)) rfl dX6_bestOfAll_57 (fun H locs cells slots hD => ?_)
    refine W.eq (g2 := F0 m 60 ls [.int (r14)]) rfl ?_
    refine hs_istore_n (i := 2) (lv' := [(2, .int (r14)), (0, va_rf ((some b16))), (1, .int (v1))]) hx hb dX6_bestOfAll_60 rfl hl (by decide) (st_okR (st_okI st_ok0)) rfl (fun ls hl => ?_)
    refine lv_goto (tgt := 4) hx hb dX6_bestOfAll_61 (by decide) ?_
    exact hk4 (some b16) v1 r14 _ _ _ _ _ _ hD (lv_sub hl [1, 2, 0] rfl) hf
  have hL27 : ∀ (k4 : Option Nat → Int32 → Int32 → PS → Option (Unit × PS)) (hk4 : ∀ (z0 : Option Nat) (z1 : Int32) (z2 : Int32) (σ : PS) (H : Heap) (locs : List Loc) (cells slots : Nat) (ls : Array Slot), Dy D G base E s.heap σ0 σ H locs cells slots → lv_has ls 5 [(0, va_rf (z0)), (1, .int (z1)), (2, .int (z2))] → k4 z0 z1 z2 σ = some (rv, τ) → W p l e R s m ([.ref a0] : List Value).toArray below meth c H locs cells slots Q (F0 m 4 ls [])) (n : Nat), ∀ (v0 : Option Nat) (v1 : Int32) (v4 : Int32) (σ : PS) (H : Heap) (locs : List Loc) (cells slots : Nat) (ls : Array Slot), Dy D G base E s.heap σ0 σ H locs cells slots → lv_has ls 5 [(0, va_rf (v0)), (1, .int (v1)), (4, .int (v4))] → f_X6_bestOfAll_L27 E k4 n v0 v1 v4 σ = some (rv, τ) → W p l e R s m ([.ref a0] : List Value).toArray below meth c H locs cells slots Q (F0 m 27 ls []) := by
    intro k4 hk4 n
    induction n with
    | zero =>
      intro v0 v1 v4 σ H locs cells slots ls hD hl hf
      rw [f_X6_bestOfAll_L27] at hf
      cases hf
    | succ n ih =>
      intro v0 v1 v4 σ H locs cells slots ls hD hl hf
      rw [f_X6_bestOfAll_L27] at hf
      refine lv_iload hx hb dX6_bestOfAll_27 (lv_at hl 2 rfl) ?_
      refine hw_aload_n (r := v0) hx hb dX6_bestOfAll_29 rfl (lv_at hl 0 rfl) ?_
      obtain ⟨x9, hv, hf⟩ := ob_s hf
      refine hw_gi (C := RX6) (T := TX6) (N := 23) (ref := "SolidGroupsModel") S hKn hD hv rfl (by decide) (by decide) rfl inX6 wd0 (fun _ h9 => h9) dX6_bestOfAll_30 ?_
      refine lv_icmp_ge (tgt := 56) hx hb dX6_bestOfAll_33 (by decide) (fun hc => ?_) (fun hc => ?_)
      · rw [if_pos hc] at hf
        exact hB56 _ hk4 v0 v1 _ _ _ _ _ _ hD (lv_sub hl [0, 1] rfl) hf
      · rw [if_neg hc] at hf
        refine hw_aload_n (r := v0) hx hb dX6_bestOfAll_36 rfl (lv_at hl 0 rfl) ?_
        obtain ⟨x10, hv, hf⟩ := ob_s hf
        refine hw_gr (C := RX6) (T := TX6) (N := 23) (ref := "SolidGroupsModel") S hKn hD hv rfl (by decide) (by decide) rfl inX6 wd2 (fun _ h9 => h9) dX6_bestOfAll_37 ?_
        refine lv_iload hx hb dX6_bestOfAll_40 (lv_at hl 2 rfl) ?_
        refine hw_aload_n (r := v0) hx hb dX6_bestOfAll_42 rfl (lv_at hl 0 rfl) ?_
        obtain ⟨x11, hv, hf⟩ := ob_s hf
        refine hw_gr (C := RX6) (T := TX6) (N := 23) (ref := "SolidGroupsModel") S hKn hD hv rfl (by decide) (by decide) rfl inX6 wd1 (fun _ h9 => h9) dX6_bestOfAll_43 ?_
        refine lv_iload hx hb dX6_bestOfAll_46 (lv_at hl 2 rfl) ?_
        obtain ⟨x12, hv, hf⟩ := ob_s hf
        refine hw_al S hKn hD hv dX6_bestOfAll_48 ?_
        obtain ⟨s13, hv, hf⟩ := ob_s hf
        refine hw_as S hKn hD hv dX6_bestOfAll_49 (fun H locs hD => ?_)
        refine hs_iinc (i := 4) (k := 2) (v := v4 + 1) (lv' := [(4, .int (v4 + 1)), (0, va_rf (v0)), (1, .int (v1))]) hx hb dX6_bestOfAll_50 hl rfl (congrArg (fun z => v4 + z) (by decide)) (by decide) (st_okR (st_okI (st_okI st_ok0))) rfl (fun ls hl => ?_)
        refine lv_goto (tgt := 27) hx hb dX6_bestOfAll_53 (by decide) ?_
        exact ih v0 v1 (v4 + 1) _ _ _ _ _ _ hD (lv_sub hl [1, 2, 0] rfl) hf
  have hB22 : ∀ (k4 : Option Nat → Int32 → Int32 → PS → Option (Unit × PS)) (hk4 : ∀ (z0 : Option Nat) (z1 : Int32) (z2 : Int32) (σ : PS) (H : Heap) (locs : List Loc) (cells slots : Nat) (ls : Array Slot), Dy D G base E s.heap σ0 σ H locs cells slots → lv_has ls 5 [(0, va_rf (z0)), (1, .int (z1)), (2, .int (z2))] → k4 z0 z1 z2 σ = some (rv, τ) → W p l e R s m ([.ref a0] : List Value).toArray below meth c H locs cells slots Q (F0 m 4 ls [])), ∀ (v0 : Option Nat) (v3 : Int32) (σ : PS) (H : Heap) (locs : List Loc) (cells slots : Nat) (ls : Array Slot), Dy D G base E s.heap σ0 σ H locs cells slots → lv_has ls 5 [(0, va_rf (v0)), (3, .int (v3))] → f_X6_bestOfAll_B22 E k4 v0 v3 σ = some (rv, τ) → W p l e R s m ([.ref a0] : List Value).toArray below meth c H locs cells slots Q (F0 m 22 ls []) := by
    intro k4 hk4 v0 v3 σ H locs cells slots ls hD hl hf
    unfold f_X6_bestOfAll_B22 at hf
    refine lv_iload_n hx hb dX6_bestOfAll_22 rfl (lv_at hl 1 rfl) ?_
    refine hs_istore_n (i := 1) (lv' := [(1, .int (v3)), (0, va_rf (v0)), (3, .int (v3))]) hx hb dX6_bestOfAll_23 rfl hl (by decide) (st_okR (st_okI st_ok0)) rfl (fun ls hl => ?_)
    refine lv_iconst (v := (0)) hx hb dX6_bestOfAll_24 (by decide) ?_
    refine hs_istore (i := 4) (lv' := [(4, .int ((0 : Int32))), (1, .int (v3)), (0, va_rf (v0)), (3, .int (v3))]) hx hb dX6_bestOfAll_25 hl (by decide) (st_okI (st_okR (st_okI st_ok0))) rfl (fun ls hl => ?_)
    exact hL27 _ hk4 _ v0 v3 (0 : Int32) _ _ _ _ _ _ hD (lv_sub hl [2, 1, 0] rfl) hf
  have hL4 : ∀ (n : Nat), ∀ (v0 : Option Nat) (v1 : Int32) (v2 : Int32) (σ : PS) (H : Heap) (locs : List Loc) (cells slots : Nat) (ls : Array Slot), Dy D G base E s.heap σ0 σ H locs cells slots → lv_has ls 5 [(0, va_rf (v0)), (1, .int (v1)), (2, .int (v2))] → f_X6_bestOfAll_L4 E n v0 v1 v2 σ = some (rv, τ) → W p l e R s m ([.ref a0] : List Value).toArray below meth c H locs cells slots Q (F0 m 4 ls []) := by
    intro n
    induction n with
    | zero =>
      intro v0 v1 v2 σ H locs cells slots ls hD hl hf
      rw [f_X6_bestOfAll_L4] at hf
      cases hf
    | succ n ih =>
      intro v0 v1 v2 σ H locs cells slots ls hD hl hf
      rw [f_X6_bestOfAll_L4] at hf
      refine lv_iload_n hx hb dX6_bestOfAll_4 rfl (lv_at hl 2 rfl) ?_
      refine lv_if_eq (tgt := 64) hx hb dX6_bestOfAll_5 (by decide) (fun hc => ?_) (fun hc => ?_)
      · rw [if_pos hc] at hf
        refine lv_iconst (v := (0)) hx hb dX6_bestOfAll_64 (by decide) ?_
        refine hs_istore_n (i := 3) (lv' := [(3, .int ((0 : Int32))), (0, va_rf (v0)), (1, .int (v1)), (2, .int (v2))]) hx hb dX6_bestOfAll_65 rfl hl (by decide) (st_okR (st_okI (st_okI st_ok0))) rfl (fun ls hl => ?_)
        exact hL66 _ v0 (0 : Int32) _ _ _ _ _ _ hD (lv_sub hl [1, 0] rfl) hf
      · rw [if_neg hc] at hf
        refine hw_aload_n (r := v0) hx hb dX6_bestOfAll_8 rfl (lv_at hl 0 rfl) ?_
        obtain ⟨b3, hv, hf⟩ := ob_s hf
        obtain ⟨e9, hk9⟩ := oK_of hv
        cases e9
        obtain ⟨r1, s2, hv, hf⟩ := ob_p hf
        refine hw_V (b := b3) (ci := 7) (T := TX6) (N := 23) (As := []) (rest := []) S hKn hRm hD (c_X6_rowSum l D G base E hv) (mo_X6_rowSum hv) hk9 rfl (by decide) gX6_bestOfAll_X6_rowSum rfl 0 (by decide +kernel) ⟨by rw [hfr]; decide, by rw [hlo]; decide⟩ rfl hl.1 (Nat.le_trans cs_0 (by decide)) rfl dX6_bestOfAll_9 (fun H locs cells slots hD => ?_)
        refine W.eq (g2 := F0 m 12 ls [.int (r1)]) rfl ?_
        refine hs_istore_n (i := 3) (lv' := [(3, .int (r1)), (0, va_rf ((some b3))), (1, .int (v1)), (2, .int (v2))]) hx hb dX6_bestOfAll_12 rfl hl (by decide) (st_okR (st_okI (st_okI st_ok0))) rfl (fun ls hl => ?_)
        refine lv_iload_n hx hb dX6_bestOfAll_13 rfl (lv_at hl 2 rfl) ?_
        refine lv_if_lt (tgt := 22) hx hb dX6_bestOfAll_14 (by decide) (fun hc => ?_) (fun hc => ?_)
        · rw [if_pos hc] at hf
          exact hB22 _ ih (some b3) r1 _ _ _ _ _ _ hD (lv_sub hl [1, 0] rfl) hf
        · rw [if_neg hc] at hf
          refine lv_iload_n hx hb dX6_bestOfAll_17 rfl (lv_at hl 0 rfl) ?_
          refine lv_iload_n hx hb dX6_bestOfAll_18 rfl (lv_at hl 2 rfl) ?_
          refine lv_icmp_ge (tgt := 56) hx hb dX6_bestOfAll_19 (by decide) (fun hc => ?_) (fun hc => ?_)
          · rw [if_pos hc] at hf
            exact hB56 _ ih (some b3) v1 _ _ _ _ _ _ hD (lv_sub hl [1, 2] rfl) hf
          · rw [if_neg hc] at hf
            exact hB22 _ ih (some b3) r1 _ _ _ _ _ _ hD (lv_sub hl [1, 0] rfl) hf
  have hl : lv_has ls 5 [(0, va_rf (some a0))] := hl
  unfold g_X6_bestOfAll at hf
  refine lv_iconst (v := (-1)) hx hb dX6_bestOfAll_0 (by decide) ?_
  refine hs_istore_n (i := 1) (lv' := [(1, .int ((-1 : Int32))), (0, va_rf ((some a0)))]) hx hb dX6_bestOfAll_1 rfl hl (by decide) (st_okR st_ok0) rfl (fun ls hl => ?_)
  refine lv_iconst (v := (1)) hx hb dX6_bestOfAll_2 (by decide) ?_
  refine hs_istore_n (i := 2) (lv' := [(2, .int ((1 : Int32))), (1, .int ((-1 : Int32))), (0, va_rf ((some a0)))]) hx hb dX6_bestOfAll_3 rfl hl (by decide) (st_okI (st_okR st_ok0)) rfl (fun ls hl => ?_)
  exact hL4 _ (some a0) (-1 : Int32) (1 : Int32) _ _ _ _ _ _ hD (lv_sub hl [2, 1, 0] rfl) hf
