set_option maxHeartbeats 4000000 in
set_option maxRecDepth 100000 in
theorem c_X6_count (l : Launch) (D : va_G) (G : GC) (base : Nat) (E : PE) {a0 : Nat} {p1 : Int32} {σ0 τ : PS} {rv : Int32} (hF : f_X6_count E (some a0) p1 σ0 = some (rv, τ)) : Ct l D G base E yX6_count wsX6_count 1 23 ([.ref a0, .int (p1)] : List Value) σ0 (some (.int rv)) τ := by
  obtain ⟨hf, hmo⟩ := oM_of hF
  refine Ct.of (own := RX6) [1, 1] (by decide) rfl rfl hmo (ct_R (ct_I ct_0)) (by decide) ?_
  intro p e s m below meth c R Q ls H locs cells slots S hKn hRm hfr hlo hlk hret hnm hQ hD hl
  have hx := S.1
  have hb := S.2.1
  have hts := S.2.2.2.2
  have inX6 : ∀ w ∈ u_ws RX6 TX6 23, w ∈ wsX6_count := by decide +kernel
  have wd0 := hts (.fieldLink RX6 64 "SolidGroupsModel" "isPacked" "Z") (by decide +kernel)
  have wd1 := hts (.fieldLink RX6 56 "SolidGroupsModel" "entries" "I") (by decide +kernel)
  have wd2 := hts (.fieldLink RX6 107 "SolidGroupsModel" "groups" "I") (by decide +kernel)
  have wd3 := hts (.fieldLink RX6 104 "SolidGroupsModel" "kept" "I") (by decide +kernel)
  have hB81 : ∀ (w0 : Int32) (σ : PS) (H : Heap) (locs : List Loc) (cells slots : Nat) (ls : Array Slot), Dy D G base E s.heap σ0 σ H locs cells slots → lv_has ls 4 [] → f_X6_count_B81 E w0 σ = some (rv, τ) → W p l e R s m ([.ref a0, .int (p1)] : List Value).toArray below meth c H locs cells slots Q (F0 m 81 ls [.int (w0)]) := by
    intro w0 σ H locs cells slots ls hD hl hf
    unfold f_X6_count_B81 at hf
    obtain ⟨e1, e2⟩ := ret_eq hf
    rw [hQ, ← e1, ← e2]
    exact hw_iret S hlk hret rfl hD dX6_count_81
  have hL34 : ∀ (n : Nat), ∀ (v0 : Option Nat) (v1 : Int32) (v2 : Int32) (v3 : Int32) (σ : PS) (H : Heap) (locs : List Loc) (cells slots : Nat) (ls : Array Slot), Dy D G base E s.heap σ0 σ H locs cells slots → lv_has ls 4 [(0, va_rf (v0)), (1, .int (v1)), (2, .int (v2)), (3, .int (v3))] → f_X6_count_L34 E n v0 v1 v2 v3 σ = some (rv, τ) → W p l e R s m ([.ref a0, .int (p1)] : List Value).toArray below meth c H locs cells slots Q (F0 m 34 ls []) := by
    intro n
    induction n with
    | zero =>
      intro v0 v1 v2 v3 σ H locs cells slots ls hD hl hf
      rw [f_X6_count_L34] at hf
      cases hf
    | succ n ih =>
      intro v0 v1 v2 v3 σ H locs cells slots ls hD hl hf
      rw [f_X6_count_L34] at hf
      refine lv_iload_n hx hb dX6_count_34 rfl (lv_at hl 3 rfl) ?_
      refine hw_aload_n (r := v0) hx hb dX6_count_35 rfl (lv_at hl 0 rfl) ?_
      obtain ⟨x5, hv, hf⟩ := ob_s hf
      refine hw_gi (C := RX6) (T := TX6) (N := 23) (ref := "SolidGroupsModel") S hKn hD hv rfl (by decide) (by decide) rfl inX6 wd2 (fun _ h9 => h9) dX6_count_36 ?_
      refine lv_icmp_ge (tgt := 56) hx hb dX6_count_39 (by decide) (fun hc => ?_) (fun hc => ?_)
      · rw [if_pos hc] at hf
        refine lv_iload_n hx hb dX6_count_56 rfl (lv_at hl 1 rfl) ?_
        refine lv_iconst (v := (1)) hx hb dX6_count_57 (by decide) ?_
        refine lv_icmp_ne (tgt := 68) hx hb dX6_count_58 (by decide) (fun hc => ?_) (fun hc => ?_)
        · rw [if_neg hc] at hf
          refine lv_iload_n hx hb dX6_count_68 rfl (lv_at hl 1 rfl) ?_
          refine lv_iconst (v := (2)) hx hb dX6_count_69 (by decide) ?_
          refine lv_icmp_ne (tgt := 80) hx hb dX6_count_70 (by decide) (fun hc => ?_) (fun hc => ?_)
          · rw [if_neg hc] at hf
            refine lv_iload_n hx hb dX6_count_80 rfl (lv_at hl 2 rfl) ?_
            exact hB81 v2 _ _ _ _ _ _ hD (lv_sub hl [] rfl) hf
          · rw [if_pos hc] at hf
            refine hw_aload_n (r := v0) hx hb dX6_count_73 rfl (lv_at hl 0 rfl) ?_
            obtain ⟨x6, hv, hf⟩ := ob_s hf
            refine hw_gi (C := RX6) (T := TX6) (N := 23) (ref := "SolidGroupsModel") S hKn hD hv rfl (by decide) (by decide) rfl inX6 wd2 (fun _ h9 => h9) dX6_count_74 ?_
            refine lv_goto (tgt := 81) hx hb dX6_count_77 (by decide) ?_
            exact hB81 x6 _ _ _ _ _ _ hD (lv_sub hl [] rfl) hf
        · rw [if_pos hc] at hf
          refine hw_aload_n (r := v0) hx hb dX6_count_61 rfl (lv_at hl 0 rfl) ?_
          obtain ⟨x7, hv, hf⟩ := ob_s hf
          refine hw_gi (C := RX6) (T := TX6) (N := 23) (ref := "SolidGroupsModel") S hKn hD hv rfl (by decide) (by decide) rfl inX6 wd3 (fun _ h9 => h9) dX6_count_62 ?_
          refine lv_goto (tgt := 81) hx hb dX6_count_65 (by decide) ?_
          exact hB81 x7 _ _ _ _ _ _ hD (lv_sub hl [] rfl) hf
      · rw [if_neg hc] at hf
        refine lv_iload_n hx hb dX6_count_42 rfl (lv_at hl 2 rfl) ?_
        refine hw_aload_n (r := v0) hx hb dX6_count_43 rfl (lv_at hl 0 rfl) ?_
        refine lv_iload_n hx hb dX6_count_44 rfl (lv_at hl 3 rfl) ?_
        obtain ⟨b10, hv, hf⟩ := ob_s hf
        obtain ⟨e9, hk9⟩ := oK_of hv
        cases e9
        obtain ⟨r8, s9, hv, hf⟩ := ob_p hf
        refine hw_V (b := b10) (ci := 7) (T := TX6) (N := 23) (As := [.int (v3)]) (rest := [.int (v2)]) S hKn hRm hD (c_X6_sizeOf l D G base E hv) (mo_X6_sizeOf hv) hk9 rfl (by decide) gX6_count_X6_sizeOf rfl 1 (by decide +kernel) ⟨by rw [hfr]; decide, by rw [hlo]; decide⟩ rfl hl.1 (Nat.le_trans (cs_I cs_0) (by decide)) rfl dX6_count_45 (fun H locs cells slots hD => ?_)
        refine W.eq (g2 := F0 m 48 ls [.int (r8), .int (v2)]) rfl ?_
        refine lv_iadd hx hb dX6_count_48 ?_
        refine hs_istore_n (i := 2) (lv' := [(2, .int (v2 + r8)), (0, va_rf ((some b10))), (1, .int (v1)), (3, .int (v3))]) hx hb dX6_count_49 rfl hl (by decide) (st_okR (st_okI (st_okI (st_okI st_ok0)))) rfl (fun ls hl => ?_)
        refine hs_iinc (i := 3) (k := 3) (v := v3 + 1) (lv' := [(3, .int (v3 + 1)), (2, .int (v2 + r8)), (0, va_rf ((some b10))), (1, .int (v1))]) hx hb dX6_count_50 hl rfl (congrArg (fun z => v3 + z) (by decide)) (by decide) (st_okI (st_okR (st_okI (st_okI st_ok0)))) rfl (fun ls hl => ?_)
        refine lv_goto (tgt := 34) hx hb dX6_count_53 (by decide) ?_
        exact ih (some b10) v1 (v2 + r8) (v3 + 1) _ _ _ _ _ _ hD (lv_sub hl [2, 3, 1, 0] rfl) hf
  have hl : lv_has ls 4 [(0, va_rf (some a0)), (1, .int (p1))] := hl
  unfold g_X6_count at hf
  refine lv_iload_n hx hb dX6_count_0 rfl (lv_at hl 1 rfl) ?_
  refine lv_iconst (v := (0)) hx hb dX6_count_1 (by decide) ?_
  refine lv_iconst (v := (3)) hx hb dX6_count_2 (by decide) ?_
  obtain ⟨r1, s2, hv, hf⟩ := ob_p hf
  refine hw_S (As := [.int (p1), .int ((0 : Int32)), .int ((3 : Int32))]) (rest := []) S hKn hRm hD (c_X6_isIn l D G base E hv) (mo_X6_isIn hv) gX6_count_X6_isIn rfl 3 (by decide +kernel) ⟨by rw [hfr]; decide, by rw [hlo]; decide⟩ rfl hl.1 (Nat.le_trans cs_0 (by decide)) rfl dX6_count_3 (fun H locs cells slots hD => ?_)
  refine W.eq (g2 := F0 m 6 ls [.int (r1)]) rfl ?_
  refine lv_if_ne (tgt := 11) hx hb dX6_count_6 (by decide) (fun hc => ?_) (fun hc => ?_)
  · rw [if_neg hc] at hf
    refine lv_iload_n hx hb dX6_count_11 rfl (lv_at hl 1 rfl) ?_
    refine lv_if_ne (tgt := 20) hx hb dX6_count_12 (by decide) (fun hc => ?_) (fun hc => ?_)
    · rw [if_neg hc] at hf
      refine hw_aload_n (r := (some a0)) hx hb dX6_count_20 rfl (lv_at hl 0 rfl) ?_
      obtain ⟨x3, hv, hf⟩ := ob_s hf
      refine hw_gi (C := RX6) (T := TX6) (N := 23) (ref := "SolidGroupsModel") S hKn hD hv rfl (by decide) (by decide) rfl inX6 wd0 (fun _ h9 => h9) dX6_count_21 ?_
      refine lv_if_ne (tgt := 30) hx hb dX6_count_24 (by decide) (fun hc => ?_) (fun hc => ?_)
      · rw [if_neg hc] at hf
        refine lv_iconst (v := (0)) hx hb dX6_count_30 (by decide) ?_
        refine hs_istore_n (i := 2) (lv' := [(2, .int ((0 : Int32))), (0, va_rf ((some a0))), (1, .int (p1))]) hx hb dX6_count_31 rfl hl (by decide) (st_okR (st_okI st_ok0)) rfl (fun ls hl => ?_)
        refine lv_iconst (v := (0)) hx hb dX6_count_32 (by decide) ?_
        refine hs_istore_n (i := 3) (lv' := [(3, .int ((0 : Int32))), (2, .int ((0 : Int32))), (0, va_rf ((some a0))), (1, .int (p1))]) hx hb dX6_count_33 rfl hl (by decide) (st_okI (st_okR (st_okI st_ok0))) rfl (fun ls hl => ?_)
        exact hL34 _ (some a0) p1 (0 : Int32) (0 : Int32) _ _ _ _ _ _ hD (lv_sub hl [2, 3, 1, 0] rfl) hf
      · rw [if_pos hc] at hf
        refine lv_bipush (v := (-2)) hx hb dX6_count_27 (by decide) ?_
        obtain ⟨e1, e2⟩ := ret_eq hf
        rw [hQ, ← e1, ← e2]
        exact hw_iret S hlk hret rfl hD dX6_count_29
    · rw [if_pos hc] at hf
      refine hw_aload_n (r := (some a0)) hx hb dX6_count_15 rfl (lv_at hl 0 rfl) ?_
      obtain ⟨x4, hv, hf⟩ := ob_s hf
      refine hw_gi (C := RX6) (T := TX6) (N := 23) (ref := "SolidGroupsModel") S hKn hD hv rfl (by decide) (by decide) rfl inX6 wd1 (fun _ h9 => h9) dX6_count_16 ?_
      obtain ⟨e1, e2⟩ := ret_eq hf
      rw [hQ, ← e1, ← e2]
      exact hw_iret S hlk hret rfl hD dX6_count_19
  · rw [if_pos hc] at hf
    refine lv_iconst (v := (-1)) hx hb dX6_count_9 (by decide) ?_
    obtain ⟨e1, e2⟩ := ret_eq hf
    rw [hQ, ← e1, ← e2]
    exact hw_iret S hlk hret rfl hD dX6_count_10
set_option maxHeartbeats 4000000 in
set_option maxRecDepth 100000 in
theorem c_X1_markCount (l : Launch) (D : va_G) (G : GC) (base : Nat) (E : PE) {a0 : Nat} {σ0 τ : PS} {rv : Int32} (hF : f_X1_markCount E (some a0) σ0 = some (rv, τ)) : Ct l D G base E yX1_markCount wsX1_markCount 1 60 ([.ref a0] : List Value) σ0 (some (.int rv)) τ := by
  obtain ⟨hf, hmo⟩ := oM_of hF
  refine Ct.of (own := RX1) [1] (by decide) rfl rfl hmo (ct_R ct_0) (by decide) ?_
  intro p e s m below meth c R Q ls H locs cells slots S hKn hRm hfr hlo hlk hret hnm hQ hD hl
  have hx := S.1
  have hb := S.2.1
  have hts := S.2.2.2.2
  have inX1 : ∀ w ∈ u_ws RX1 TX1 6, w ∈ wsX1_markCount := by decide +kernel
  have wd0 := hts (.fieldLink RX1 18 "SolidGroups$Entry" "length" "I") (by decide +kernel)
  have wd1 := hts (.methodLink RX1 31 Lib.Math.max.name) (by decide +kernel)
  have wd2 := hts (.static Lib.Math.max.name) (by decide +kernel)
  have wd3 := hts (.initialized "java/lang/Math") (by decide +kernel)
  have wd4 := hts (.code Lib.Math.max.name Lib.Math.max.code 2 (some .int)) (by decide +kernel)
  have hl : lv_has ls 1 [(0, va_rf (some a0))] := hl
  unfold g_X1_markCount at hf
  refine lv_iconst (v := (0)) hx hb dX1_markCount_0 (by decide) ?_
  refine hw_aload_n (r := (some a0)) hx hb dX1_markCount_1 rfl (lv_at hl 0 rfl) ?_
  obtain ⟨x1, hv, hf⟩ := ob_s hf
  refine hw_gi (C := RX1) (T := TX1) (N := 6) (ref := "SolidGroups$Entry") S hKn hD hv rfl (by decide) (by decide) rfl inX1 wd0 (fun _ h9 => h9) dX1_markCount_2 ?_
  refine lv_iconst (v := (2)) hx hb dX1_markCount_5 (by decide) ?_
  refine lv_isub hx hb dX1_markCount_6 ?_
  refine va_mmax hx hb (S.2.2.1.trans hl.1.symm) S.2.2.2.1 wd1 wd2 wd3 wd4 (by rw [hfr]; decide) (by rw [hlo]; exact Nat.le_trans (Nat.add_le_add_right cs_0 13) (by decide)) (by have := hw_room hRm hD; omega) (by have := hw_room hRm hD; omega) dX1_markCount_7 ?_
  obtain ⟨e1, e2⟩ := ret_eq hf
  rw [hQ, ← e1, ← e2]
  exact hw_iret S hlk hret rfl hD dX1_markCount_10
