set_option maxHeartbeats 4000000 in
set_option maxRecDepth 100000 in
theorem c_X6_groupBytes (l : Launch) (D : va_G) (G : GC) (base : Nat) (E : PE) {a0 : Nat} {p1 : Int32} {σ0 τ : PS} {rv : Int32} (hF : f_X6_groupBytes E (some a0) p1 σ0 = some (rv, τ)) : Ct l D G base E yX6_groupBytes wsX6_groupBytes 0 0 ([.ref a0, .int (p1)] : List Value) σ0 (some (.int rv)) τ := by
  obtain ⟨hf, hmo⟩ := oM_of hF
  refine Ct.of (own := RX6) [1, 1] (by decide) rfl rfl hmo (ct_R (ct_I ct_0)) (by decide) ?_
  intro p e s m below meth c R Q ls H locs cells slots S hKn hRm hfr hlo hlk hret hnm hQ hD hl
  have hx := S.1
  have hb := S.2.1
  have hts := S.2.2.2.2
  have inX6 : ∀ w ∈ u_ws RX6 TX6 23, w ∈ wsX6_groupBytes := by decide +kernel
  have wd0 := hts (.fieldLink RX6 104 "SolidGroupsModel" "kept" "I") (by decide +kernel)
  have wd1 := hts (.fieldLink RX6 25 "SolidGroupsModel" "groupAt" "[I") (by decide +kernel)
  have wd2 := hts (.fieldLink RX6 13 "SolidGroupsModel" "sizes" "[I") (by decide +kernel)
  have wd3 := hts (.fieldLink RX6 22 "SolidGroupsModel" "order" "[I") (by decide +kernel)
  have hB38 : ∀ (k4 : Option Nat → Int32 → Int32 → Int32 → PS → Option (Int32 × PS)) (hk4 : ∀ (z0 : Option Nat) (z1 : Int32) (z2 : Int32) (z3 : Int32) (σ : PS) (H : Heap) (locs : List Loc) (cells slots : Nat) (ls : Array Slot), Dy D G base E s.heap σ0 σ H locs cells slots → lv_has ls 4 [(0, va_rf (z0)), (1, .int (z1)), (2, .int (z2)), (3, .int (z3))] → k4 z0 z1 z2 z3 σ = some (rv, τ) → W p l e R s m ([.ref a0, .int (p1)] : List Value).toArray below meth c H locs cells slots Q (F0 m 4 ls [])), ∀ (v0 : Option Nat) (v1 : Int32) (v3 : Int32) (w0 : Int32) (w1 : Int32) (σ : PS) (H : Heap) (locs : List Loc) (cells slots : Nat) (ls : Array Slot), Dy D G base E s.heap σ0 σ H locs cells slots → lv_has ls 4 [(0, va_rf (v0)), (1, .int (v1)), (3, .int (v3))] → f_X6_groupBytes_B38 E k4 v0 v1 v3 w0 w1 σ = some (rv, τ) → W p l e R s m ([.ref a0, .int (p1)] : List Value).toArray below meth c H locs cells slots Q (F0 m 38 ls [.int (w1), .int (w0)]) := by
    intro k4 hk4 v0 v1 v3 w0 w1 σ H locs cells slots ls hD hl hf
    unfold f_X6_groupBytes_B38 at hf
    refine lv_iadd hx hb dX6_groupBytes_38 ?_
    refine hs_istore_n (i := 2) (lv' := [(2, .int (w0 + w1)), (0, va_rf (v0)), (1, .int (v1)), (3, .int (v3))]) hx hb dX6_groupBytes_39 rfl hl (by decide) (st_okR (st_okI (st_okI st_ok0))) rfl (fun ls hl => ?_)
    refine hs_iinc (i := 3) (k := 3) (v := v3 + 1) (lv' := [(3, .int (v3 + 1)), (2, .int (w0 + w1)), (0, va_rf (v0)), (1, .int (v1))]) hx hb dX6_groupBytes_40 hl rfl (congrArg (fun z => v3 + z) (by decide)) (by decide) (st_okI (st_okR (st_okI (st_okI st_ok0)))) rfl (fun ls hl => ?_)
    refine lv_goto (tgt := 4) hx hb dX6_groupBytes_43 (by decide) ?_
    exact hk4 v0 v1 (w0 + w1) (v3 + 1) _ _ _ _ _ _ hD (lv_sub hl [2, 3, 1, 0] rfl) hf
  have hL4 : ∀ (n : Nat), ∀ (v0 : Option Nat) (v1 : Int32) (v2 : Int32) (v3 : Int32) (σ : PS) (H : Heap) (locs : List Loc) (cells slots : Nat) (ls : Array Slot), Dy D G base E s.heap σ0 σ H locs cells slots → lv_has ls 4 [(0, va_rf (v0)), (1, .int (v1)), (2, .int (v2)), (3, .int (v3))] → f_X6_groupBytes_L4 E n v0 v1 v2 v3 σ = some (rv, τ) → W p l e R s m ([.ref a0, .int (p1)] : List Value).toArray below meth c H locs cells slots Q (F0 m 4 ls []) := by
    intro n
    induction n with
    | zero =>
      intro v0 v1 v2 v3 σ H locs cells slots ls hD hl hf
      rw [f_X6_groupBytes_L4] at hf
      cases hf
    | succ n ih =>
      intro v0 v1 v2 v3 σ H locs cells slots ls hD hl hf
      rw [f_X6_groupBytes_L4] at hf
      refine lv_iload_n hx hb dX6_groupBytes_4 rfl (lv_at hl 3 rfl) ?_
      refine hw_aload_n (r := v0) hx hb dX6_groupBytes_5 rfl (lv_at hl 0 rfl) ?_
      obtain ⟨x1, hv, hf⟩ := ob_s hf
      refine hw_gi (C := RX6) (T := TX6) (N := 23) (ref := "SolidGroupsModel") S hKn hD hv rfl (by decide) (by decide) rfl inX6 wd0 (fun _ h9 => h9) dX6_groupBytes_6 ?_
      refine lv_icmp_ge (tgt := 46) hx hb dX6_groupBytes_9 (by decide) (fun hc => ?_) (fun hc => ?_)
      · rw [if_pos hc] at hf
        refine lv_iload_n hx hb dX6_groupBytes_46 rfl (lv_at hl 2 rfl) ?_
        obtain ⟨e1, e2⟩ := ret_eq hf
        rw [hQ, ← e1, ← e2]
        exact hw_iret S hlk hret rfl hD dX6_groupBytes_47
      · rw [if_neg hc] at hf
        refine lv_iload_n hx hb dX6_groupBytes_12 rfl (lv_at hl 2 rfl) ?_
        refine hw_aload_n (r := v0) hx hb dX6_groupBytes_13 rfl (lv_at hl 0 rfl) ?_
        obtain ⟨x2, hv, hf⟩ := ob_s hf
        refine hw_gr (C := RX6) (T := TX6) (N := 23) (ref := "SolidGroupsModel") S hKn hD hv rfl (by decide) (by decide) rfl inX6 wd1 (fun _ h9 => h9) dX6_groupBytes_14 ?_
        refine lv_iload_n hx hb dX6_groupBytes_17 rfl (lv_at hl 3 rfl) ?_
        obtain ⟨x3, hv, hf⟩ := ob_s hf
        refine hw_al S hKn hD hv dX6_groupBytes_18 ?_
        refine lv_iload_n hx hb dX6_groupBytes_19 rfl (lv_at hl 1 rfl) ?_
        refine lv_icmp_ne (tgt := 37) hx hb dX6_groupBytes_20 (by decide) (fun hc => ?_) (fun hc => ?_)
        · rw [if_neg hc] at hf
          refine lv_iconst (v := (0)) hx hb dX6_groupBytes_37 (by decide) ?_
          exact hB38 _ ih v0 v1 v3 v2 (0 : Int32) _ _ _ _ _ _ hD (lv_sub hl [0, 1, 3] rfl) hf
        · rw [if_pos hc] at hf
          refine hw_aload_n (r := v0) hx hb dX6_groupBytes_23 rfl (lv_at hl 0 rfl) ?_
          obtain ⟨x4, hv, hf⟩ := ob_s hf
          refine hw_gr (C := RX6) (T := TX6) (N := 23) (ref := "SolidGroupsModel") S hKn hD hv rfl (by decide) (by decide) rfl inX6 wd2 (fun _ h9 => h9) dX6_groupBytes_24 ?_
          refine hw_aload_n (r := v0) hx hb dX6_groupBytes_27 rfl (lv_at hl 0 rfl) ?_
          obtain ⟨x5, hv, hf⟩ := ob_s hf
          refine hw_gr (C := RX6) (T := TX6) (N := 23) (ref := "SolidGroupsModel") S hKn hD hv rfl (by decide) (by decide) rfl inX6 wd3 (fun _ h9 => h9) dX6_groupBytes_28 ?_
          refine lv_iload_n hx hb dX6_groupBytes_31 rfl (lv_at hl 3 rfl) ?_
          obtain ⟨x6, hv, hf⟩ := ob_s hf
          refine hw_al S hKn hD hv dX6_groupBytes_32 ?_
          obtain ⟨x7, hv, hf⟩ := ob_s hf
          refine hw_al S hKn hD hv dX6_groupBytes_33 ?_
          refine lv_goto (tgt := 38) hx hb dX6_groupBytes_34 (by decide) ?_
          exact hB38 _ ih v0 v1 v3 v2 x7 _ _ _ _ _ _ hD (lv_sub hl [0, 1, 3] rfl) hf
  have hl : lv_has ls 4 [(0, va_rf (some a0)), (1, .int (p1))] := hl
  unfold g_X6_groupBytes at hf
  refine lv_iconst (v := (0)) hx hb dX6_groupBytes_0 (by decide) ?_
  refine hs_istore_n (i := 2) (lv' := [(2, .int ((0 : Int32))), (0, va_rf ((some a0))), (1, .int (p1))]) hx hb dX6_groupBytes_1 rfl hl (by decide) (st_okR (st_okI st_ok0)) rfl (fun ls hl => ?_)
  refine lv_iconst (v := (0)) hx hb dX6_groupBytes_2 (by decide) ?_
  refine hs_istore_n (i := 3) (lv' := [(3, .int ((0 : Int32))), (2, .int ((0 : Int32))), (0, va_rf ((some a0))), (1, .int (p1))]) hx hb dX6_groupBytes_3 rfl hl (by decide) (st_okI (st_okR (st_okI st_ok0))) rfl (fun ls hl => ?_)
  exact hL4 _ (some a0) p1 (0 : Int32) (0 : Int32) _ _ _ _ _ _ hD (lv_sub hl [2, 3, 1, 0] rfl) hf
set_option maxHeartbeats 4000000 in
set_option maxRecDepth 100000 in
theorem c_X6_gathers (l : Launch) (D : va_G) (G : GC) (base : Nat) (E : PE) {a0 : Nat} {p1 : Int32} {σ0 τ : PS} {rv : Unit} (hF : f_X6_gathers E (some a0) p1 σ0 = some (rv, τ)) : Ct l D G base E yX6_gathers wsX6_gathers 0 0 ([.ref a0, .int (p1)] : List Value) σ0 none τ := by
  obtain ⟨hf, hmo⟩ := oM_of hF
  refine Ct.of (own := RX6) [1, 1] (by decide) rfl rfl hmo (ct_R (ct_I ct_0)) (by decide) ?_
  intro p e s m below meth c R Q ls H locs cells slots S hKn hRm hfr hlo hlk hret hnm hQ hD hl
  have hx := S.1
  have hb := S.2.1
  have hts := S.2.2.2.2
  have inX6 : ∀ w ∈ u_ws RX6 TX6 23, w ∈ wsX6_gathers := by decide +kernel
  have wd0 := hts (.fieldLink RX6 127 "SolidGroupsModel" "allMany" "I") (by decide +kernel)
  have wd1 := hts (.fieldLink RX6 104 "SolidGroupsModel" "kept" "I") (by decide +kernel)
  have wd2 := hts (.fieldLink RX6 25 "SolidGroupsModel" "groupAt" "[I") (by decide +kernel)
  have wd3 := hts (.fieldLink RX6 13 "SolidGroupsModel" "sizes" "[I") (by decide +kernel)
  have wd4 := hts (.fieldLink RX6 22 "SolidGroupsModel" "order" "[I") (by decide +kernel)
  have wd5 := hts (.fieldLink RX6 53 "SolidGroupsModel" "all" "[I") (by decide +kernel)
  have wd6 := hts (.fieldLink RX6 16 "SolidGroupsModel" "bytes" "[I") (by decide +kernel)
  have hB83 : ∀ (k7 : Option Nat → Int32 → Int32 → PS → Option (Unit × PS)) (hk7 : ∀ (z0 : Option Nat) (z1 : Int32) (z2 : Int32) (σ : PS) (H : Heap) (locs : List Loc) (cells slots : Nat) (ls : Array Slot), Dy D G base E s.heap σ0 σ H locs cells slots → lv_has ls 4 [(0, va_rf (z0)), (1, .int (z1)), (2, .int (z2))] → k7 z0 z1 z2 σ = some (rv, τ) → W p l e R s m ([.ref a0, .int (p1)] : List Value).toArray below meth c H locs cells slots Q (F0 m 7 ls [])), ∀ (v0 : Option Nat) (v1 : Int32) (v2 : Int32) (σ : PS) (H : Heap) (locs : List Loc) (cells slots : Nat) (ls : Array Slot), Dy D G base E s.heap σ0 σ H locs cells slots → lv_has ls 4 [(0, va_rf (v0)), (1, .int (v1)), (2, .int (v2))] → f_X6_gathers_B83 E k7 v0 v1 v2 σ = some (rv, τ) → W p l e R s m ([.ref a0, .int (p1)] : List Value).toArray below meth c H locs cells slots Q (F0 m 83 ls []) := by
    intro k7 hk7 v0 v1 v2 σ H locs cells slots ls hD hl hf
    unfold f_X6_gathers_B83 at hf
    refine hs_iinc (i := 2) (k := 2) (v := v2 + 1) (lv' := [(2, .int (v2 + 1)), (0, va_rf (v0)), (1, .int (v1))]) hx hb dX6_gathers_83 hl rfl (congrArg (fun z => v2 + z) (by decide)) (by decide) (st_okR (st_okI (st_okI st_ok0))) rfl (fun ls hl => ?_)
    refine lv_goto (tgt := 7) hx hb dX6_gathers_86 (by decide) ?_
    exact hk7 v0 v1 (v2 + 1) _ _ _ _ _ _ hD (lv_sub hl [1, 2, 0] rfl) hf
  have hL17 : ∀ (k7 : Option Nat → Int32 → Int32 → PS → Option (Unit × PS)) (hk7 : ∀ (z0 : Option Nat) (z1 : Int32) (z2 : Int32) (σ : PS) (H : Heap) (locs : List Loc) (cells slots : Nat) (ls : Array Slot), Dy D G base E s.heap σ0 σ H locs cells slots → lv_has ls 4 [(0, va_rf (z0)), (1, .int (z1)), (2, .int (z2))] → k7 z0 z1 z2 σ = some (rv, τ) → W p l e R s m ([.ref a0, .int (p1)] : List Value).toArray below meth c H locs cells slots Q (F0 m 7 ls [])) (n : Nat), ∀ (v0 : Option Nat) (v1 : Int32) (v2 : Int32) (v3 : Int32) (σ : PS) (H : Heap) (locs : List Loc) (cells slots : Nat) (ls : Array Slot), Dy D G base E s.heap σ0 σ H locs cells slots → lv_has ls 4 [(0, va_rf (v0)), (1, .int (v1)), (2, .int (v2)), (3, .int (v3))] → f_X6_gathers_L17 E k7 n v0 v1 v2 v3 σ = some (rv, τ) → W p l e R s m ([.ref a0, .int (p1)] : List Value).toArray below meth c H locs cells slots Q (F0 m 17 ls []) := by
    intro k7 hk7 n
    induction n with
    | zero =>
      intro v0 v1 v2 v3 σ H locs cells slots ls hD hl hf
      rw [f_X6_gathers_L17] at hf
      cases hf
    | succ n ih =>
      intro v0 v1 v2 v3 σ H locs cells slots ls hD hl hf
      rw [f_X6_gathers_L17] at hf
      refine hw_aload_n (r := v0) hx hb dX6_gathers_17 rfl (lv_at hl 0 rfl) ?_
      obtain ⟨x3, hv, hf⟩ := ob_s hf
      refine hw_gr (C := RX6) (T := TX6) (N := 23) (ref := "SolidGroupsModel") S hKn hD hv rfl (by decide) (by decide) rfl inX6 wd2 (fun _ h9 => h9) dX6_gathers_18 ?_
      refine lv_iload_n hx hb dX6_gathers_21 rfl (lv_at hl 2 rfl) ?_
      obtain ⟨x4, hv, hf⟩ := ob_s hf
      refine hw_al S hKn hD hv dX6_gathers_22 ?_
      refine lv_iload_n hx hb dX6_gathers_23 rfl (lv_at hl 1 rfl) ?_
      refine lv_icmp_ne (tgt := 83) hx hb dX6_gathers_24 (by decide) (fun hc => ?_) (fun hc => ?_)
      · rw [if_neg hc] at hf
        exact hB83 _ hk7 v0 v1 v2 _ _ _ _ _ _ hD (lv_sub hl [0, 1, 2] rfl) hf
      · rw [if_pos hc] at hf
        refine lv_iload_n hx hb dX6_gathers_27 rfl (lv_at hl 3 rfl) ?_
        refine hw_aload_n (r := v0) hx hb dX6_gathers_28 rfl (lv_at hl 0 rfl) ?_
        obtain ⟨x5, hv, hf⟩ := ob_s hf
        refine hw_gr (C := RX6) (T := TX6) (N := 23) (ref := "SolidGroupsModel") S hKn hD hv rfl (by decide) (by decide) rfl inX6 wd3 (fun _ h9 => h9) dX6_gathers_29 ?_
        refine hw_aload_n (r := v0) hx hb dX6_gathers_32 rfl (lv_at hl 0 rfl) ?_
        obtain ⟨x6, hv, hf⟩ := ob_s hf
        refine hw_gr (C := RX6) (T := TX6) (N := 23) (ref := "SolidGroupsModel") S hKn hD hv rfl (by decide) (by decide) rfl inX6 wd4 (fun _ h9 => h9) dX6_gathers_33 ?_
        refine lv_iload_n hx hb dX6_gathers_36 rfl (lv_at hl 2 rfl) ?_
        obtain ⟨x7, hv, hf⟩ := ob_s hf
        refine hw_al S hKn hD hv dX6_gathers_37 ?_
        obtain ⟨x8, hv, hf⟩ := ob_s hf
        refine hw_al S hKn hD hv dX6_gathers_38 ?_
        refine lv_icmp_ge (tgt := 83) hx hb dX6_gathers_39 (by decide) (fun hc => ?_) (fun hc => ?_)
        · rw [if_pos hc] at hf
          exact hB83 _ hk7 v0 v1 v2 _ _ _ _ _ _ hD (lv_sub hl [0, 1, 2] rfl) hf
        · rw [if_neg hc] at hf
          refine hw_aload_n (r := v0) hx hb dX6_gathers_42 rfl (lv_at hl 0 rfl) ?_
          obtain ⟨x9, hv, hf⟩ := ob_s hf
          refine hw_gr (C := RX6) (T := TX6) (N := 23) (ref := "SolidGroupsModel") S hKn hD hv rfl (by decide) (by decide) rfl inX6 wd5 (fun _ h9 => h9) dX6_gathers_43 ?_
          refine hw_aload_n (r := v0) hx hb dX6_gathers_46 rfl (lv_at hl 0 rfl) ?_
          obtain ⟨x10, hv, hf⟩ := ob_s hf
          refine hw_gi (C := RX6) (T := TX6) (N := 23) (ref := "SolidGroupsModel") S hKn hD hv rfl (by decide) (by decide) rfl inX6 wd0 (fun _ h9 => h9) dX6_gathers_47 ?_
          refine hw_aload_n (r := v0) hx hb dX6_gathers_50 rfl (lv_at hl 0 rfl) ?_
          obtain ⟨x11, hv, hf⟩ := ob_s hf
          refine hw_gr (C := RX6) (T := TX6) (N := 23) (ref := "SolidGroupsModel") S hKn hD hv rfl (by decide) (by decide) rfl inX6 wd6 (fun _ h9 => h9) dX6_gathers_51 ?_
          refine lv_bipush (v := (60)) hx hb dX6_gathers_54 (by decide) ?_
          refine hw_aload_n (r := v0) hx hb dX6_gathers_56 rfl (lv_at hl 0 rfl) ?_
          obtain ⟨x12, hv, hf⟩ := ob_s hf
          refine hw_gr (C := RX6) (T := TX6) (N := 23) (ref := "SolidGroupsModel") S hKn hD hv rfl (by decide) (by decide) rfl inX6 wd4 (fun _ h9 => h9) dX6_gathers_57 ?_
          refine lv_iload_n hx hb dX6_gathers_60 rfl (lv_at hl 2 rfl) ?_
          obtain ⟨x13, hv, hf⟩ := ob_s hf
          refine hw_al S hKn hD hv dX6_gathers_61 ?_
          refine lv_imul hx hb dX6_gathers_62 ?_
          refine lv_iload_n hx hb dX6_gathers_63 rfl (lv_at hl 3 rfl) ?_
          refine lv_iadd hx hb dX6_gathers_64 ?_
          obtain ⟨x14, hv, hf⟩ := ob_s hf
          refine hw_al S hKn hD hv dX6_gathers_65 ?_
          obtain ⟨s15, hv, hf⟩ := ob_s hf
          refine hw_as S hKn hD hv dX6_gathers_66 (fun H locs hD => ?_)
          refine hw_aload_n (r := v0) hx hb dX6_gathers_67 rfl (lv_at hl 0 rfl) ?_
          refine lv_dup hx hb dX6_gathers_68 (va_rf_cat _) ?_
          obtain ⟨x16, hv, hf⟩ := ob_s hf
          refine hw_gi (C := RX6) (T := TX6) (N := 23) (ref := "SolidGroupsModel") S hKn hD hv rfl (by decide) (by decide) rfl inX6 wd0 (fun _ h9 => h9) dX6_gathers_69 ?_
          refine lv_iconst (v := (1)) hx hb dX6_gathers_72 (by decide) ?_
          refine lv_iadd hx hb dX6_gathers_73 ?_
          obtain ⟨s17, hv, hf⟩ := ob_s hf
          refine hw_pi (C := RX6) (T := TX6) (N := 23) (ref := "SolidGroupsModel") S hKn hD hv rfl (by decide) (by decide) rfl inX6 tyX6 tyX6_ok nmX6 wd0 (fun _ h9 => h9) rfl (by first | rfl | decide) (by first | rfl | decide) dX6_gathers_74 (fun H locs hD => ?_)
          refine hs_iinc (i := 3) (k := 3) (v := v3 + 1) (lv' := [(3, .int (v3 + 1)), (0, va_rf (v0)), (1, .int (v1)), (2, .int (v2))]) hx hb dX6_gathers_77 hl rfl (congrArg (fun z => v3 + z) (by decide)) (by decide) (st_okR (st_okI (st_okI (st_okI st_ok0)))) rfl (fun ls hl => ?_)
          refine lv_goto (tgt := 17) hx hb dX6_gathers_80 (by decide) ?_
          exact ih v0 v1 v2 (v3 + 1) _ _ _ _ _ _ hD (lv_sub hl [1, 2, 3, 0] rfl) hf
  have hL7 : ∀ (n : Nat), ∀ (v0 : Option Nat) (v1 : Int32) (v2 : Int32) (σ : PS) (H : Heap) (locs : List Loc) (cells slots : Nat) (ls : Array Slot), Dy D G base E s.heap σ0 σ H locs cells slots → lv_has ls 4 [(0, va_rf (v0)), (1, .int (v1)), (2, .int (v2))] → f_X6_gathers_L7 E n v0 v1 v2 σ = some (rv, τ) → W p l e R s m ([.ref a0, .int (p1)] : List Value).toArray below meth c H locs cells slots Q (F0 m 7 ls []) := by
    intro n
    induction n with
    | zero =>
      intro v0 v1 v2 σ H locs cells slots ls hD hl hf
      rw [f_X6_gathers_L7] at hf
      cases hf
    | succ n ih =>
      intro v0 v1 v2 σ H locs cells slots ls hD hl hf
      rw [f_X6_gathers_L7] at hf
      refine lv_iload_n hx hb dX6_gathers_7 rfl (lv_at hl 2 rfl) ?_
      refine hw_aload_n (r := v0) hx hb dX6_gathers_8 rfl (lv_at hl 0 rfl) ?_
      obtain ⟨x2, hv, hf⟩ := ob_s hf
      refine hw_gi (C := RX6) (T := TX6) (N := 23) (ref := "SolidGroupsModel") S hKn hD hv rfl (by decide) (by decide) rfl inX6 wd1 (fun _ h9 => h9) dX6_gathers_9 ?_
      refine lv_icmp_ge (tgt := 89) hx hb dX6_gathers_12 (by decide) (fun hc => ?_) (fun hc => ?_)
      · rw [if_pos hc] at hf
        obtain ⟨-, e2⟩ := ret_eq hf
        rw [hQ, ← e2]
        exact hw_vret S hlk hret hD dX6_gathers_89
      · rw [if_neg hc] at hf
        refine lv_iconst (v := (0)) hx hb dX6_gathers_15 (by decide) ?_
        refine hs_istore_n (i := 3) (lv' := [(3, .int ((0 : Int32))), (0, va_rf (v0)), (1, .int (v1)), (2, .int (v2))]) hx hb dX6_gathers_16 rfl hl (by decide) (st_okR (st_okI (st_okI st_ok0))) rfl (fun ls hl => ?_)
        exact hL17 _ ih _ v0 v1 v2 (0 : Int32) _ _ _ _ _ _ hD (lv_sub hl [1, 2, 3, 0] rfl) hf
  have hl : lv_has ls 4 [(0, va_rf (some a0)), (1, .int (p1))] := hl
  unfold g_X6_gathers at hf
  refine hw_aload_n (r := (some a0)) hx hb dX6_gathers_0 rfl (lv_at hl 0 rfl) ?_
  refine lv_iconst (v := (0)) hx hb dX6_gathers_1 (by decide) ?_
  obtain ⟨s1, hv, hf⟩ := ob_s hf
  refine hw_pi (C := RX6) (T := TX6) (N := 23) (ref := "SolidGroupsModel") S hKn hD hv rfl (by decide) (by decide) rfl inX6 tyX6 tyX6_ok nmX6 wd0 (fun _ h9 => h9) rfl (by first | rfl | decide) (by first | rfl | decide) dX6_gathers_2 (fun H locs hD => ?_)
  refine lv_iconst (v := (0)) hx hb dX6_gathers_5 (by decide) ?_
  refine hs_istore_n (i := 2) (lv' := [(2, .int ((0 : Int32))), (0, va_rf ((some a0))), (1, .int (p1))]) hx hb dX6_gathers_6 rfl hl (by decide) (st_okR (st_okI st_ok0)) rfl (fun ls hl => ?_)
  exact hL7 _ (some a0) p1 (0 : Int32) _ _ _ _ _ _ hD (lv_sub hl [1, 2, 0] rfl) hf
set_option maxHeartbeats 4000000 in
set_option maxRecDepth 100000 in
theorem c_X6_makes (l : Launch) (D : va_G) (G : GC) (base : Nat) (E : PE) {a0 : Nat} {p1 : Int32} {σ0 τ : PS} {rv : Unit} (hF : f_X6_makes E (some a0) p1 σ0 = some (rv, τ)) : Ct l D G base E yX6_makes wsX6_makes 1 23 ([.ref a0, .int (p1)] : List Value) σ0 none τ := by
  obtain ⟨hf, hmo⟩ := oM_of hF
  refine Ct.of (own := RX6) [1, 1] (by decide) rfl rfl hmo (ct_R (ct_I ct_0)) (by decide) ?_
  intro p e s m below meth c R Q ls H locs cells slots S hKn hRm hfr hlo hlk hret hnm hQ hD hl
  have hx := S.1
  have hb := S.2.1
  have hts := S.2.2.2.2
  have inX6 : ∀ w ∈ u_ws RX6 TX6 23, w ∈ wsX6_makes := by decide +kernel
  have wd0 := hts (.fieldLink RX6 127 "SolidGroupsModel" "allMany" "I") (by decide +kernel)
  have wd1 := hts (.fieldLink RX6 34 "SolidGroupsModel" "tokenMany" "[I") (by decide +kernel)
  have wd2 := hts (.fieldLink RX6 38 "SolidGroupsModel" "tokens" "[I") (by decide +kernel)
  have wd3 := hts (.fieldLink RX6 53 "SolidGroupsModel" "all" "[I") (by decide +kernel)
  have hB168 : ∀ (k9 : Option Nat → Int32 → Int32 → Int32 → PS → Option (Unit × PS)) (hk9 : ∀ (z0 : Option Nat) (z1 : Int32) (z2 : Int32) (z3 : Int32) (σ : PS) (H : Heap) (locs : List Loc) (cells slots : Nat) (ls : Array Slot), Dy D G base E s.heap σ0 σ H locs cells slots → lv_has ls 8 [(0, va_rf (z0)), (1, .int (z1)), (2, .int (z2)), (3, .int (z3))] → k9 z0 z1 z2 z3 σ = some (rv, τ) → W p l e R s m ([.ref a0, .int (p1)] : List Value).toArray below meth c H locs cells slots Q (F0 m 9 ls [])), ∀ (v0 : Option Nat) (v1 : Int32) (v2 : Int32) (v3 : Int32) (v6 : Int32) (w0 : Option Nat) (w1 : Int32) (w2 : Int32) (σ : PS) (H : Heap) (locs : List Loc) (cells slots : Nat) (ls : Array Slot), Dy D G base E s.heap σ0 σ H locs cells slots → lv_has ls 8 [(0, va_rf (v0)), (1, .int (v1)), (2, .int (v2)), (3, .int (v3)), (6, .int (v6))] → f_X6_makes_B168 E k9 v0 v1 v2 v3 v6 w0 w1 w2 σ = some (rv, τ) → W p l e R s m ([.ref a0, .int (p1)] : List Value).toArray below meth c H locs cells slots Q (F0 m 168 ls [.int (w2), .int (w1), va_rf (w0)]) := by
    intro k9 hk9 v0 v1 v2 v3 v6 w0 w1 w2 σ H locs cells slots ls hD hl hf
    unfold f_X6_makes_B168 at hf
    obtain ⟨s14, hv, hf⟩ := ob_s hf
    refine hw_as S hKn hD hv dX6_makes_168 (fun H locs hD => ?_)
    refine lv_iload_n hx hb dX6_makes_169 rfl (lv_at hl 3 rfl) ?_
    refine hw_aload_n (r := v0) hx hb dX6_makes_170 rfl (lv_at hl 0 rfl) ?_
    obtain ⟨x15, hv, hf⟩ := ob_s hf
    refine hw_gr (C := RX6) (T := TX6) (N := 23) (ref := "SolidGroupsModel") S hKn hD hv rfl (by decide) (by decide) rfl inX6 wd2 (fun _ h9 => h9) dX6_makes_171 ?_
    refine lv_iload hx hb dX6_makes_174 (lv_at hl 4 rfl) ?_
    refine lv_iconst (v := (2)) hx hb dX6_makes_176 (by decide) ?_
    refine lv_iadd hx hb dX6_makes_177 ?_
    obtain ⟨x16, hv, hf⟩ := ob_s hf
    refine hw_al S hKn hD hv dX6_makes_178 ?_
    refine lv_iadd hx hb dX6_makes_179 ?_
    refine hs_istore_n (i := 3) (lv' := [(3, .int (v3 + x16)), (0, va_rf (v0)), (1, .int (v1)), (2, .int (v2)), (6, .int (v6))]) hx hb dX6_makes_180 rfl hl (by decide) (st_okR (st_okI (st_okI (st_okI (st_okI st_ok0))))) rfl (fun ls hl => ?_)
    refine hs_iinc (i := 2) (k := 3) (v := v2 + 1) (lv' := [(2, .int (v2 + 1)), (3, .int (v3 + x16)), (0, va_rf (v0)), (1, .int (v1)), (6, .int (v6))]) hx hb dX6_makes_181 hl rfl (congrArg (fun z => v2 + z) (by decide)) (by decide) (st_okI (st_okR (st_okI (st_okI (st_okI st_ok0))))) rfl (fun ls hl => ?_)
    refine lv_goto (tgt := 9) hx hb dX6_makes_184 (by decide) ?_
    exact hk9 v0 v1 (v2 + 1) (v3 + x16) _ _ _ _ _ _ hD (lv_sub hl [2, 3, 0, 1] rfl) hf
  have hB137 : ∀ (k9 : Option Nat → Int32 → Int32 → Int32 → PS → Option (Unit × PS)) (hk9 : ∀ (z0 : Option Nat) (z1 : Int32) (z2 : Int32) (z3 : Int32) (σ : PS) (H : Heap) (locs : List Loc) (cells slots : Nat) (ls : Array Slot), Dy D G base E s.heap σ0 σ H locs cells slots → lv_has ls 8 [(0, va_rf (z0)), (1, .int (z1)), (2, .int (z2)), (3, .int (z3))] → k9 z0 z1 z2 z3 σ = some (rv, τ) → W p l e R s m ([.ref a0, .int (p1)] : List Value).toArray below meth c H locs cells slots Q (F0 m 9 ls [])), ∀ (v0 : Option Nat) (v1 : Int32) (v2 : Int32) (v3 : Int32) (v4 : Int32) (v5 : Int32) (v6 : Int32) (w0 : Option Nat) (w1 : Int32) (w2 : Int32) (σ : PS) (H : Heap) (locs : List Loc) (cells slots : Nat) (ls : Array Slot), Dy D G base E s.heap σ0 σ H locs cells slots → lv_has ls 8 [(0, va_rf (v0)), (1, .int (v1)), (2, .int (v2)), (3, .int (v3)), (4, .int (v4)), (5, .int (v5)), (6, .int (v6))] → f_X6_makes_B137 E k9 v0 v1 v2 v3 v4 v5 v6 w0 w1 w2 σ = some (rv, τ) → W p l e R s m ([.ref a0, .int (p1)] : List Value).toArray below meth c H locs cells slots Q (F0 m 137 ls [.int (w2), .int (w1), va_rf (w0)]) := by
    intro k9 hk9 v0 v1 v2 v3 v4 v5 v6 w0 w1 w2 σ H locs cells slots ls hD hl hf
    unfold f_X6_makes_B137 at hf
    obtain ⟨s10, hv, hf⟩ := ob_s hf
    refine hw_as S hKn hD hv dX6_makes_137 (fun H locs hD => ?_)
    refine hw_aload_n (r := v0) hx hb dX6_makes_138 rfl (lv_at hl 0 rfl) ?_
    obtain ⟨x11, hv, hf⟩ := ob_s hf
    refine hw_gr (C := RX6) (T := TX6) (N := 23) (ref := "SolidGroupsModel") S hKn hD hv rfl (by decide) (by decide) rfl inX6 wd2 (fun _ h9 => h9) dX6_makes_139 ?_
    refine lv_iload hx hb dX6_makes_142 (lv_at hl 6 rfl) ?_
    refine lv_iconst (v := (1)) hx hb dX6_makes_144 (by decide) ?_
    refine lv_iadd hx hb dX6_makes_145 ?_
    refine lv_iload hx hb dX6_makes_146 (lv_at hl 4 rfl) ?_
    obtain ⟨s12, hv, hf⟩ := ob_s hf
    refine hw_as S hKn hD hv dX6_makes_148 (fun H locs hD => ?_)
    refine hw_aload_n (r := v0) hx hb dX6_makes_149 rfl (lv_at hl 0 rfl) ?_
    obtain ⟨x13, hv, hf⟩ := ob_s hf
    refine hw_gr (C := RX6) (T := TX6) (N := 23) (ref := "SolidGroupsModel") S hKn hD hv rfl (by decide) (by decide) rfl inX6 wd2 (fun _ h9 => h9) dX6_makes_150 ?_
    refine lv_iload hx hb dX6_makes_153 (lv_at hl 6 rfl) ?_
    refine lv_iconst (v := (2)) hx hb dX6_makes_155 (by decide) ?_
    refine lv_iadd hx hb dX6_makes_156 ?_
    refine lv_iload hx hb dX6_makes_157 (lv_at hl 4 rfl) ?_
    refine lv_if_le (tgt := 167) hx hb dX6_makes_159 (by decide) (fun hc => ?_) (fun hc => ?_)
    · rw [if_pos hc] at hf
      refine lv_iconst (v := (1)) hx hb dX6_makes_167 (by decide) ?_
      exact hB168 _ hk9 v0 v1 v2 v3 v6 x13 (v6 + (2 : Int32)) (1 : Int32) _ _ _ _ _ _ hD (lv_sub hl [0, 1, 2, 3, 6] rfl) hf
    · rw [if_neg hc] at hf
      refine lv_iload hx hb dX6_makes_162 (lv_at hl 5 rfl) ?_
      refine lv_goto (tgt := 168) hx hb dX6_makes_164 (by decide) ?_
      exact hB168 _ hk9 v0 v1 v2 v3 v6 x13 (v6 + (2 : Int32)) v5 _ _ _ _ _ _ hD (lv_sub hl [0, 1, 2, 3, 6] rfl) hf
  have hB99 : ∀ (k9 : Option Nat → Int32 → Int32 → Int32 → PS → Option (Unit × PS)) (hk9 : ∀ (z0 : Option Nat) (z1 : Int32) (z2 : Int32) (z3 : Int32) (σ : PS) (H : Heap) (locs : List Loc) (cells slots : Nat) (ls : Array Slot), Dy D G base E s.heap σ0 σ H locs cells slots → lv_has ls 8 [(0, va_rf (z0)), (1, .int (z1)), (2, .int (z2)), (3, .int (z3))] → k9 z0 z1 z2 z3 σ = some (rv, τ) → W p l e R s m ([.ref a0, .int (p1)] : List Value).toArray below meth c H locs cells slots Q (F0 m 9 ls [])) (k28 : Option Nat → Int32 → Int32 → Int32 → Int32 → Int32 → Int32 → PS → Option (Unit × PS)) (hk28 : ∀ (z0 : Option Nat) (z1 : Int32) (z2 : Int32) (z3 : Int32) (z4 : Int32) (z5 : Int32) (z6 : Int32) (σ : PS) (H : Heap) (locs : List Loc) (cells slots : Nat) (ls : Array Slot), Dy D G base E s.heap σ0 σ H locs cells slots → lv_has ls 8 [(0, va_rf (z0)), (1, .int (z1)), (2, .int (z2)), (3, .int (z3)), (4, .int (z4)), (5, .int (z5)), (6, .int (z6))] → k28 z0 z1 z2 z3 z4 z5 z6 σ = some (rv, τ) → W p l e R s m ([.ref a0, .int (p1)] : List Value).toArray below meth c H locs cells slots Q (F0 m 28 ls [])), ∀ (v0 : Option Nat) (v1 : Int32) (v2 : Int32) (v3 : Int32) (v4 : Int32) (v5 : Int32) (v6 : Int32) (σ : PS) (H : Heap) (locs : List Loc) (cells slots : Nat) (ls : Array Slot), Dy D G base E s.heap σ0 σ H locs cells slots → lv_has ls 8 [(0, va_rf (v0)), (1, .int (v1)), (2, .int (v2)), (3, .int (v3)), (4, .int (v4)), (5, .int (v5)), (6, .int (v6))] → f_X6_makes_B99 E k9 k28 v0 v1 v2 v3 v4 v5 v6 σ = some (rv, τ) → W p l e R s m ([.ref a0, .int (p1)] : List Value).toArray below meth c H locs cells slots Q (F0 m 99 ls []) := by
    intro k9 hk9 k28 hk28 v0 v1 v2 v3 v4 v5 v6 σ H locs cells slots ls hD hl hf
    unfold f_X6_makes_B99 at hf
    refine hs_iinc (i := 6) (k := 6) (v := v6 + (-1)) (lv' := [(6, .int (v6 + (-1))), (0, va_rf (v0)), (1, .int (v1)), (2, .int (v2)), (3, .int (v3)), (4, .int (v4)), (5, .int (v5))]) hx hb dX6_makes_99 hl rfl (congrArg (fun z => v6 + z) (by decide)) (by decide) (st_okR (st_okI (st_okI (st_okI (st_okI (st_okI (st_okI st_ok0))))))) rfl (fun ls hl => ?_)
    refine lv_goto (tgt := 28) hx hb dX6_makes_102 (by decide) ?_
    exact hk28 v0 v1 v2 v3 v4 v5 (v6 + (-1)) _ _ _ _ _ _ hD (lv_sub hl [1, 2, 3, 4, 5, 6, 0] rfl) hf
  have hB82 : ∀ (k9 : Option Nat → Int32 → Int32 → Int32 → PS → Option (Unit × PS)) (hk9 : ∀ (z0 : Option Nat) (z1 : Int32) (z2 : Int32) (z3 : Int32) (σ : PS) (H : Heap) (locs : List Loc) (cells slots : Nat) (ls : Array Slot), Dy D G base E s.heap σ0 σ H locs cells slots → lv_has ls 8 [(0, va_rf (z0)), (1, .int (z1)), (2, .int (z2)), (3, .int (z3))] → k9 z0 z1 z2 z3 σ = some (rv, τ) → W p l e R s m ([.ref a0, .int (p1)] : List Value).toArray below meth c H locs cells slots Q (F0 m 9 ls [])) (k28 : Option Nat → Int32 → Int32 → Int32 → Int32 → Int32 → Int32 → PS → Option (Unit × PS)) (hk28 : ∀ (z0 : Option Nat) (z1 : Int32) (z2 : Int32) (z3 : Int32) (z4 : Int32) (z5 : Int32) (z6 : Int32) (σ : PS) (H : Heap) (locs : List Loc) (cells slots : Nat) (ls : Array Slot), Dy D G base E s.heap σ0 σ H locs cells slots → lv_has ls 8 [(0, va_rf (z0)), (1, .int (z1)), (2, .int (z2)), (3, .int (z3)), (4, .int (z4)), (5, .int (z5)), (6, .int (z6))] → k28 z0 z1 z2 z3 z4 z5 z6 σ = some (rv, τ) → W p l e R s m ([.ref a0, .int (p1)] : List Value).toArray below meth c H locs cells slots Q (F0 m 28 ls [])), ∀ (v0 : Option Nat) (v1 : Int32) (v2 : Int32) (v3 : Int32) (v4 : Int32) (v5 : Int32) (v6 : Int32) (v7 : Int32) (σ : PS) (H : Heap) (locs : List Loc) (cells slots : Nat) (ls : Array Slot), Dy D G base E s.heap σ0 σ H locs cells slots → lv_has ls 8 [(0, va_rf (v0)), (1, .int (v1)), (2, .int (v2)), (3, .int (v3)), (4, .int (v4)), (5, .int (v5)), (6, .int (v6)), (7, .int (v7))] → f_X6_makes_B82 E k9 k28 v0 v1 v2 v3 v4 v5 v6 v7 σ = some (rv, τ) → W p l e R s m ([.ref a0, .int (p1)] : List Value).toArray below meth c H locs cells slots Q (F0 m 82 ls []) := by
    intro k9 hk9 k28 hk28 v0 v1 v2 v3 v4 v5 v6 v7 σ H locs cells slots ls hD hl hf
    unfold f_X6_makes_B82 at hf
    refine lv_iload hx hb dX6_makes_82 (lv_at hl 7 rfl) ?_
    refine lv_iload hx hb dX6_makes_84 (lv_at hl 5 rfl) ?_
    refine lv_icmp_le (tgt := 99) hx hb dX6_makes_86 (by decide) (fun hc => ?_) (fun hc => ?_)
    · rw [if_pos hc] at hf
      exact hB99 _ hk9 _ hk28 v0 v1 v2 v3 v4 v5 v6 _ _ _ _ _ _ hD (lv_sub hl [0, 1, 2, 3, 4, 5, 6] rfl) hf
    · rw [if_neg hc] at hf
      refine lv_iload hx hb dX6_makes_89 (lv_at hl 7 rfl) ?_
      refine hs_istore (i := 5) (lv' := [(5, .int (v7)), (0, va_rf (v0)), (1, .int (v1)), (2, .int (v2)), (3, .int (v3)), (4, .int (v4)), (6, .int (v6)), (7, .int (v7))]) hx hb dX6_makes_91 hl (by decide) (st_okR (st_okI (st_okI (st_okI (st_okI (st_okI (st_okI (st_okI st_ok0)))))))) rfl (fun ls hl => ?_)
      refine lv_iload_n hx hb dX6_makes_93 rfl (lv_at hl 4 rfl) ?_
      refine lv_iload hx hb dX6_makes_94 (lv_at hl 6 rfl) ?_
      refine lv_isub hx hb dX6_makes_96 ?_
      refine hs_istore (i := 4) (lv' := [(4, .int (v3 - v6)), (5, .int (v7)), (0, va_rf (v0)), (1, .int (v1)), (2, .int (v2)), (3, .int (v3)), (6, .int (v6)), (7, .int (v7))]) hx hb dX6_makes_97 hl (by decide) (st_okI (st_okR (st_okI (st_okI (st_okI (st_okI (st_okI (st_okI st_ok0)))))))) rfl (fun ls hl => ?_)
      exact hB99 _ hk9 _ hk28 v0 v1 v2 v3 (v3 - v6) v7 v6 _ _ _ _ _ _ hD (lv_sub hl [2, 3, 4, 5, 0, 1, 6] rfl) hf
  have hL36 : ∀ (k9 : Option Nat → Int32 → Int32 → Int32 → PS → Option (Unit × PS)) (hk9 : ∀ (z0 : Option Nat) (z1 : Int32) (z2 : Int32) (z3 : Int32) (σ : PS) (H : Heap) (locs : List Loc) (cells slots : Nat) (ls : Array Slot), Dy D G base E s.heap σ0 σ H locs cells slots → lv_has ls 8 [(0, va_rf (z0)), (1, .int (z1)), (2, .int (z2)), (3, .int (z3))] → k9 z0 z1 z2 z3 σ = some (rv, τ) → W p l e R s m ([.ref a0, .int (p1)] : List Value).toArray below meth c H locs cells slots Q (F0 m 9 ls [])) (k28 : Option Nat → Int32 → Int32 → Int32 → Int32 → Int32 → Int32 → PS → Option (Unit × PS)) (hk28 : ∀ (z0 : Option Nat) (z1 : Int32) (z2 : Int32) (z3 : Int32) (z4 : Int32) (z5 : Int32) (z6 : Int32) (σ : PS) (H : Heap) (locs : List Loc) (cells slots : Nat) (ls : Array Slot), Dy D G base E s.heap σ0 σ H locs cells slots → lv_has ls 8 [(0, va_rf (z0)), (1, .int (z1)), (2, .int (z2)), (3, .int (z3)), (4, .int (z4)), (5, .int (z5)), (6, .int (z6))] → k28 z0 z1 z2 z3 z4 z5 z6 σ = some (rv, τ) → W p l e R s m ([.ref a0, .int (p1)] : List Value).toArray below meth c H locs cells slots Q (F0 m 28 ls [])) (n : Nat), ∀ (v0 : Option Nat) (v1 : Int32) (v2 : Int32) (v3 : Int32) (v4 : Int32) (v5 : Int32) (v6 : Int32) (v7 : Int32) (σ : PS) (H : Heap) (locs : List Loc) (cells slots : Nat) (ls : Array Slot), Dy D G base E s.heap σ0 σ H locs cells slots → lv_has ls 8 [(0, va_rf (v0)), (1, .int (v1)), (2, .int (v2)), (3, .int (v3)), (4, .int (v4)), (5, .int (v5)), (6, .int (v6)), (7, .int (v7))] → f_X6_makes_L36 E k9 k28 n v0 v1 v2 v3 v4 v5 v6 v7 σ = some (rv, τ) → W p l e R s m ([.ref a0, .int (p1)] : List Value).toArray below meth c H locs cells slots Q (F0 m 36 ls []) := by
    intro k9 hk9 k28 hk28 n
    induction n with
    | zero =>
      intro v0 v1 v2 v3 v4 v5 v6 v7 σ H locs cells slots ls hD hl hf
      rw [f_X6_makes_L36] at hf
      cases hf
    | succ n ih =>
      intro v0 v1 v2 v3 v4 v5 v6 v7 σ H locs cells slots ls hD hl hf
      rw [f_X6_makes_L36] at hf
      refine lv_iload hx hb dX6_makes_36 (lv_at hl 7 rfl) ?_
      refine lv_bipush (v := (60)) hx hb dX6_makes_38 (by decide) ?_
      refine lv_icmp_ge (tgt := 82) hx hb dX6_makes_40 (by decide) (fun hc => ?_) (fun hc => ?_)
      · rw [if_pos hc] at hf
        exact hB82 _ hk9 _ hk28 v0 v1 v2 v3 v4 v5 v6 v7 _ _ _ _ _ _ hD (lv_sub hl [0, 1, 2, 3, 4, 5, 6, 7] rfl) hf
      · rw [if_neg hc] at hf
        refine lv_iload_n hx hb dX6_makes_43 rfl (lv_at hl 3 rfl) ?_
        refine lv_iload hx hb dX6_makes_44 (lv_at hl 7 rfl) ?_
        refine lv_iadd hx hb dX6_makes_46 ?_
        refine hw_aload_n (r := v0) hx hb dX6_makes_47 rfl (lv_at hl 0 rfl) ?_
        obtain ⟨x17, hv, hf⟩ := ob_s hf
        refine hw_gi (C := RX6) (T := TX6) (N := 23) (ref := "SolidGroupsModel") S hKn hD hv rfl (by decide) (by decide) rfl inX6 wd0 (fun _ h9 => h9) dX6_makes_48 ?_
        refine lv_icmp_ge (tgt := 82) hx hb dX6_makes_51 (by decide) (fun hc => ?_) (fun hc => ?_)
        · rw [if_pos hc] at hf
          exact hB82 _ hk9 _ hk28 v0 v1 v2 v3 v4 v5 v6 v7 _ _ _ _ _ _ hD (lv_sub hl [0, 1, 2, 3, 4, 5, 6, 7] rfl) hf
        · rw [if_neg hc] at hf
          refine hw_aload_n (r := v0) hx hb dX6_makes_54 rfl (lv_at hl 0 rfl) ?_
          obtain ⟨x18, hv, hf⟩ := ob_s hf
          refine hw_gr (C := RX6) (T := TX6) (N := 23) (ref := "SolidGroupsModel") S hKn hD hv rfl (by decide) (by decide) rfl inX6 wd3 (fun _ h9 => h9) dX6_makes_55 ?_
          refine lv_iload hx hb dX6_makes_58 (lv_at hl 6 rfl) ?_
          refine lv_iload hx hb dX6_makes_60 (lv_at hl 7 rfl) ?_
          refine lv_iadd hx hb dX6_makes_62 ?_
          obtain ⟨x19, hv, hf⟩ := ob_s hf
          refine hw_al S hKn hD hv dX6_makes_63 ?_
          refine hw_aload_n (r := v0) hx hb dX6_makes_64 rfl (lv_at hl 0 rfl) ?_
          obtain ⟨x20, hv, hf⟩ := ob_s hf
          refine hw_gr (C := RX6) (T := TX6) (N := 23) (ref := "SolidGroupsModel") S hKn hD hv rfl (by decide) (by decide) rfl inX6 wd3 (fun _ h9 => h9) dX6_makes_65 ?_
          refine lv_iload_n hx hb dX6_makes_68 rfl (lv_at hl 3 rfl) ?_
          refine lv_iload hx hb dX6_makes_69 (lv_at hl 7 rfl) ?_
          refine lv_iadd hx hb dX6_makes_71 ?_
          obtain ⟨x21, hv, hf⟩ := ob_s hf
          refine hw_al S hKn hD hv dX6_makes_72 ?_
          refine lv_icmp_ne (tgt := 82) hx hb dX6_makes_73 (by decide) (fun hc => ?_) (fun hc => ?_)
          · rw [if_neg hc] at hf
            exact hB82 _ hk9 _ hk28 v0 v1 v2 v3 v4 v5 v6 v7 _ _ _ _ _ _ hD (lv_sub hl [0, 1, 2, 3, 4, 5, 6, 7] rfl) hf
          · rw [if_pos hc] at hf
            refine hs_iinc (i := 7) (k := 7) (v := v7 + 1) (lv' := [(7, .int (v7 + 1)), (0, va_rf (v0)), (1, .int (v1)), (2, .int (v2)), (3, .int (v3)), (4, .int (v4)), (5, .int (v5)), (6, .int (v6))]) hx hb dX6_makes_76 hl rfl (congrArg (fun z => v7 + z) (by decide)) (by decide) (st_okR (st_okI (st_okI (st_okI (st_okI (st_okI (st_okI (st_okI st_ok0)))))))) rfl (fun ls hl => ?_)
            refine lv_goto (tgt := 36) hx hb dX6_makes_79 (by decide) ?_
            exact ih v0 v1 v2 v3 v4 v5 v6 (v7 + 1) _ _ _ _ _ _ hD (lv_sub hl [1, 2, 3, 4, 5, 6, 7, 0] rfl) hf
  have hL28 : ∀ (k9 : Option Nat → Int32 → Int32 → Int32 → PS → Option (Unit × PS)) (hk9 : ∀ (z0 : Option Nat) (z1 : Int32) (z2 : Int32) (z3 : Int32) (σ : PS) (H : Heap) (locs : List Loc) (cells slots : Nat) (ls : Array Slot), Dy D G base E s.heap σ0 σ H locs cells slots → lv_has ls 8 [(0, va_rf (z0)), (1, .int (z1)), (2, .int (z2)), (3, .int (z3))] → k9 z0 z1 z2 z3 σ = some (rv, τ) → W p l e R s m ([.ref a0, .int (p1)] : List Value).toArray below meth c H locs cells slots Q (F0 m 9 ls [])) (n : Nat), ∀ (v0 : Option Nat) (v1 : Int32) (v2 : Int32) (v3 : Int32) (v4 : Int32) (v5 : Int32) (v6 : Int32) (σ : PS) (H : Heap) (locs : List Loc) (cells slots : Nat) (ls : Array Slot), Dy D G base E s.heap σ0 σ H locs cells slots → lv_has ls 8 [(0, va_rf (v0)), (1, .int (v1)), (2, .int (v2)), (3, .int (v3)), (4, .int (v4)), (5, .int (v5)), (6, .int (v6))] → f_X6_makes_L28 E k9 n v0 v1 v2 v3 v4 v5 v6 σ = some (rv, τ) → W p l e R s m ([.ref a0, .int (p1)] : List Value).toArray below meth c H locs cells slots Q (F0 m 28 ls []) := by
    intro k9 hk9 n
    induction n with
    | zero =>
      intro v0 v1 v2 v3 v4 v5 v6 σ H locs cells slots ls hD hl hf
      rw [f_X6_makes_L28] at hf
      cases hf
    | succ n ih =>
      intro v0 v1 v2 v3 v4 v5 v6 σ H locs cells slots ls hD hl hf
      rw [f_X6_makes_L28] at hf
      refine lv_iload hx hb dX6_makes_28 (lv_at hl 6 rfl) ?_
      refine lv_if_lt (tgt := 105) hx hb dX6_makes_30 (by decide) (fun hc => ?_) (fun hc => ?_)
      · rw [if_pos hc] at hf
        refine lv_sipush (v := (5400)) hx hb dX6_makes_105 (by decide) ?_
        refine lv_iload_n hx hb dX6_makes_108 rfl (lv_at hl 1 rfl) ?_
        refine lv_imul hx hb dX6_makes_109 ?_
        refine lv_iconst (v := (3)) hx hb dX6_makes_110 (by decide) ?_
        refine lv_iload_n hx hb dX6_makes_111 rfl (lv_at hl 2 rfl) ?_
        refine lv_imul hx hb dX6_makes_112 ?_
        refine lv_iadd hx hb dX6_makes_113 ?_
        refine hs_istore (i := 6) (lv' := [(6, .int (((5400 : Int32) * v1) + ((3 : Int32) * v2))), (0, va_rf (v0)), (1, .int (v1)), (2, .int (v2)), (3, .int (v3)), (4, .int (v4)), (5, .int (v5))]) hx hb dX6_makes_114 hl (by decide) (st_okR (st_okI (st_okI (st_okI (st_okI (st_okI (st_okI st_ok0))))))) rfl (fun ls hl => ?_)
        refine hw_aload_n (r := v0) hx hb dX6_makes_116 rfl (lv_at hl 1 rfl) ?_
        obtain ⟨x7, hv, hf⟩ := ob_s hf
        refine hw_gr (C := RX6) (T := TX6) (N := 23) (ref := "SolidGroupsModel") S hKn hD hv rfl (by decide) (by decide) rfl inX6 wd2 (fun _ h9 => h9) dX6_makes_117 ?_
        refine lv_iload hx hb dX6_makes_120 (lv_at hl 0 rfl) ?_
        refine lv_iload hx hb dX6_makes_122 (lv_at hl 5 rfl) ?_
        refine lv_if_le (tgt := 131) hx hb dX6_makes_124 (by decide) (fun hc => ?_) (fun hc => ?_)
        · rw [if_pos hc] at hf
          refine hw_aload_n (r := v0) hx hb dX6_makes_131 rfl (lv_at hl 1 rfl) ?_
          obtain ⟨x8, hv, hf⟩ := ob_s hf
          refine hw_gr (C := RX6) (T := TX6) (N := 23) (ref := "SolidGroupsModel") S hKn hD hv rfl (by decide) (by decide) rfl inX6 wd3 (fun _ h9 => h9) dX6_makes_132 ?_
          refine lv_iload_n hx hb dX6_makes_135 rfl (lv_at hl 4 rfl) ?_
          obtain ⟨x9, hv, hf⟩ := ob_s hf
          refine hw_al S hKn hD hv dX6_makes_136 ?_
          exact hB137 _ hk9 v0 v1 v2 v3 v4 v5 (((5400 : Int32) * v1) + ((3 : Int32) * v2)) x7 (((5400 : Int32) * v1) + ((3 : Int32) * v2)) x9 _ _ _ _ _ _ hD (lv_sub hl [1, 2, 3, 4, 5, 6, 0] rfl) hf
        · rw [if_neg hc] at hf
          refine lv_iconst (v := (-1)) hx hb dX6_makes_127 (by decide) ?_
          refine lv_goto (tgt := 137) hx hb dX6_makes_128 (by decide) ?_
          exact hB137 _ hk9 v0 v1 v2 v3 v4 v5 (((5400 : Int32) * v1) + ((3 : Int32) * v2)) x7 (((5400 : Int32) * v1) + ((3 : Int32) * v2)) (-1 : Int32) _ _ _ _ _ _ hD (lv_sub hl [1, 2, 3, 4, 5, 6, 0] rfl) hf
      · rw [if_neg hc] at hf
        refine lv_iconst (v := (0)) hx hb dX6_makes_33 (by decide) ?_
        refine hs_istore (i := 7) (lv' := [(7, .int ((0 : Int32))), (0, va_rf (v0)), (1, .int (v1)), (2, .int (v2)), (3, .int (v3)), (4, .int (v4)), (5, .int (v5)), (6, .int (v6))]) hx hb dX6_makes_34 hl (by decide) (st_okR (st_okI (st_okI (st_okI (st_okI (st_okI (st_okI st_ok0))))))) rfl (fun ls hl => ?_)
        exact hL36 _ hk9 _ ih _ v0 v1 v2 v3 v4 v5 v6 (0 : Int32) _ _ _ _ _ _ hD (lv_sub hl [1, 2, 3, 4, 5, 6, 7, 0] rfl) hf
  have hL9 : ∀ (n : Nat), ∀ (v0 : Option Nat) (v1 : Int32) (v2 : Int32) (v3 : Int32) (σ : PS) (H : Heap) (locs : List Loc) (cells slots : Nat) (ls : Array Slot), Dy D G base E s.heap σ0 σ H locs cells slots → lv_has ls 8 [(0, va_rf (v0)), (1, .int (v1)), (2, .int (v2)), (3, .int (v3))] → f_X6_makes_L9 E n v0 v1 v2 v3 σ = some (rv, τ) → W p l e R s m ([.ref a0, .int (p1)] : List Value).toArray below meth c H locs cells slots Q (F0 m 9 ls []) := by
    intro n
    induction n with
    | zero =>
      intro v0 v1 v2 v3 σ H locs cells slots ls hD hl hf
      rw [f_X6_makes_L9] at hf
      cases hf
    | succ n ih =>
      intro v0 v1 v2 v3 σ H locs cells slots ls hD hl hf
      rw [f_X6_makes_L9] at hf
      refine lv_iload_n hx hb dX6_makes_9 rfl (lv_at hl 3 rfl) ?_
      refine hw_aload_n (r := v0) hx hb dX6_makes_10 rfl (lv_at hl 0 rfl) ?_
      obtain ⟨x4, hv, hf⟩ := ob_s hf
      refine hw_gi (C := RX6) (T := TX6) (N := 23) (ref := "SolidGroupsModel") S hKn hD hv rfl (by decide) (by decide) rfl inX6 wd0 (fun _ h9 => h9) dX6_makes_11 ?_
      refine lv_icmp_ge (tgt := 187) hx hb dX6_makes_14 (by decide) (fun hc => ?_) (fun hc => ?_)
      · rw [if_pos hc] at hf
        refine hw_aload_n (r := v0) hx hb dX6_makes_187 rfl (lv_at hl 0 rfl) ?_
        obtain ⟨x5, hv, hf⟩ := ob_s hf
        refine hw_gr (C := RX6) (T := TX6) (N := 23) (ref := "SolidGroupsModel") S hKn hD hv rfl (by decide) (by decide) rfl inX6 wd1 (fun _ h9 => h9) dX6_makes_188 ?_
        refine lv_iload_n hx hb dX6_makes_191 rfl (lv_at hl 1 rfl) ?_
        refine lv_iload_n hx hb dX6_makes_192 rfl (lv_at hl 2 rfl) ?_
        obtain ⟨s6, hv, hf⟩ := ob_s hf
        refine hw_as S hKn hD hv dX6_makes_193 (fun H locs hD => ?_)
        obtain ⟨-, e2⟩ := ret_eq hf
        rw [hQ, ← e2]
        exact hw_vret S hlk hret hD dX6_makes_194
      · rw [if_neg hc] at hf
        refine lv_iconst (v := (0)) hx hb dX6_makes_17 (by decide) ?_
        refine hs_istore (i := 4) (lv' := [(4, .int ((0 : Int32))), (0, va_rf (v0)), (1, .int (v1)), (2, .int (v2)), (3, .int (v3))]) hx hb dX6_makes_18 hl (by decide) (st_okR (st_okI (st_okI (st_okI st_ok0)))) rfl (fun ls hl => ?_)
        refine lv_iconst (v := (3)) hx hb dX6_makes_20 (by decide) ?_
        refine hs_istore (i := 5) (lv' := [(5, .int ((3 : Int32))), (4, .int ((0 : Int32))), (0, va_rf (v0)), (1, .int (v1)), (2, .int (v2)), (3, .int (v3))]) hx hb dX6_makes_21 hl (by decide) (st_okI (st_okR (st_okI (st_okI (st_okI st_ok0))))) rfl (fun ls hl => ?_)
        refine lv_iload_n hx hb dX6_makes_23 rfl (lv_at hl 5 rfl) ?_
        refine lv_iconst (v := (1)) hx hb dX6_makes_24 (by decide) ?_
        refine lv_isub hx hb dX6_makes_25 ?_
        refine hs_istore (i := 6) (lv' := [(6, .int (v3 - (1 : Int32))), (5, .int ((3 : Int32))), (4, .int ((0 : Int32))), (0, va_rf (v0)), (1, .int (v1)), (2, .int (v2)), (3, .int (v3))]) hx hb dX6_makes_26 hl (by decide) (st_okI (st_okI (st_okR (st_okI (st_okI (st_okI st_ok0)))))) rfl (fun ls hl => ?_)
        exact hL28 _ ih _ v0 v1 v2 v3 (0 : Int32) (3 : Int32) (v3 - (1 : Int32)) _ _ _ _ _ _ hD (lv_sub hl [3, 4, 5, 6, 2, 1, 0] rfl) hf
  have hl : lv_has ls 8 [(0, va_rf (some a0)), (1, .int (p1))] := hl
  unfold g_X6_makes at hf
  refine hw_aload_n (r := (some a0)) hx hb dX6_makes_0 rfl (lv_at hl 0 rfl) ?_
  refine lv_iload_n hx hb dX6_makes_1 rfl (lv_at hl 1 rfl) ?_
  obtain ⟨b3, hv, hf⟩ := ob_s hf
  obtain ⟨e9, hk9⟩ := oK_of hv
  cases e9
  obtain ⟨r1, s2, hv, hf⟩ := ob_p hf
  refine hw_V (b := a0) (ci := 7) (T := TX6) (N := 23) (As := [.int (p1)]) (rest := []) S hKn hRm hD (c_X6_gathers l D G base E hv) (mo_X6_gathers hv) hk9 rfl (by decide) gX6_makes_X6_gathers rfl 1 (by decide +kernel) ⟨by rw [hfr]; decide, by rw [hlo]; decide⟩ rfl hl.1 (Nat.le_trans cs_0 (by decide)) rfl dX6_makes_2 (fun H locs cells slots hD => ?_)
  refine W.eq (g2 := F0 m 5 ls []) rfl ?_
  refine lv_iconst (v := (0)) hx hb dX6_makes_5 (by decide) ?_
  refine hs_istore_n (i := 2) (lv' := [(2, .int ((0 : Int32))), (0, va_rf ((some a0))), (1, .int (p1))]) hx hb dX6_makes_6 rfl hl (by decide) (st_okR (st_okI st_ok0)) rfl (fun ls hl => ?_)
  refine lv_iconst (v := (0)) hx hb dX6_makes_7 (by decide) ?_
  refine hs_istore_n (i := 3) (lv' := [(3, .int ((0 : Int32))), (2, .int ((0 : Int32))), (0, va_rf ((some a0))), (1, .int (p1))]) hx hb dX6_makes_8 rfl hl (by decide) (st_okI (st_okR (st_okI st_ok0))) rfl (fun ls hl => ?_)
  exact hL9 _ (some a0) p1 (0 : Int32) (0 : Int32) _ _ _ _ _ _ hD (lv_sub hl [2, 3, 1, 0] rfl) hf
set_option maxHeartbeats 4000000 in
set_option maxRecDepth 100000 in
theorem c_X6_pack (l : Launch) (D : va_G) (G : GC) (base : Nat) (E : PE) {a0 : Nat} {p1 : Int32} {p2 : Int32} {σ0 τ : PS} {rv : Int32} (hF : f_X6_pack E (some a0) p1 p2 σ0 = some (rv, τ)) : Ct l D G base E yX6_pack wsX6_pack 4 94 ([.ref a0, .int (p1), .int (p2)] : List Value) σ0 (some (.int rv)) τ := by
  obtain ⟨hf, hmo⟩ := oM_of hF
  refine Ct.of (own := RX6) [1, 1, 1] (by decide) rfl rfl hmo (ct_R (ct_I (ct_I ct_0))) (by decide) ?_
  intro p e s m below meth c R Q ls H locs cells slots S hKn hRm hfr hlo hlk hret hnm hQ hD hl
  have hx := S.1
  have hb := S.2.1
  have hts := S.2.2.2.2
  have inX6 : ∀ w ∈ u_ws RX6 TX6 23, w ∈ wsX6_pack := by decide +kernel
  have wd0 := hts (.fieldLink RX6 64 "SolidGroupsModel" "isPacked" "Z") (by decide +kernel)
  have wd1 := hts (.fieldLink RX6 101 "SolidGroupsModel" "bound" "I") (by decide +kernel)
  have wd2 := hts (.fieldLink RX6 104 "SolidGroupsModel" "kept" "I") (by decide +kernel)
  have wd3 := hts (.fieldLink RX6 107 "SolidGroupsModel" "groups" "I") (by decide +kernel)
  have wd4 := hts (.fieldLink RX6 56 "SolidGroupsModel" "entries" "I") (by decide +kernel)
  have wd5 := hts (.fieldLink RX6 90 "SolidGroupsModel" "rowMany" "I") (by decide +kernel)
  have wd6 := hts (.fieldLink RX6 7 "SolidGroupsModel" "kinds" "[I") (by decide +kernel)
  have wd7 := hts (.fieldLink RX6 19 "SolidGroupsModel" "twins" "[I") (by decide +kernel)
  have wd8 := hts (.fieldLink RX6 47 "SolidGroupsModel" "row" "[I") (by decide +kernel)
  have wd9 := hts (.fieldLink RX6 28 "SolidGroupsModel" "groupKind" "[I") (by decide +kernel)
  have wd10 := hts (.fieldLink RX6 13 "SolidGroupsModel" "sizes" "[I") (by decide +kernel)
  have wd11 := hts (.fieldLink RX6 31 "SolidGroupsModel" "anew" "[I") (by decide +kernel)
  have wd12 := hts (.fieldLink RX6 22 "SolidGroupsModel" "order" "[I") (by decide +kernel)
  have wd13 := hts (.fieldLink RX6 25 "SolidGroupsModel" "groupAt" "[I") (by decide +kernel)
  have hB20 : ∀ (σ : PS) (H : Heap) (locs : List Loc) (cells slots : Nat) (ls : Array Slot), Dy D G base E s.heap σ0 σ H locs cells slots → lv_has ls 5 [] → f_X6_pack_B20 E σ = some (rv, τ) → W p l e R s m ([.ref a0, .int (p1), .int (p2)] : List Value).toArray below meth c H locs cells slots Q (F0 m 20 ls []) := by
    intro σ H locs cells slots ls hD hl hf
    unfold f_X6_pack_B20 at hf
    refine lv_iconst (v := (-1)) hx hb dX6_pack_20 (by decide) ?_
    obtain ⟨e1, e2⟩ := ret_eq hf
    rw [hQ, ← e1, ← e2]
    exact hw_iret S hlk hret rfl hD dX6_pack_21
  have hL339 : ∀ (n : Nat), ∀ (v0 : Option Nat) (v3 : Int32) (σ : PS) (H : Heap) (locs : List Loc) (cells slots : Nat) (ls : Array Slot), Dy D G base E s.heap σ0 σ H locs cells slots → lv_has ls 5 [(0, va_rf (v0)), (3, .int (v3))] → f_X6_pack_L339 E n v0 v3 σ = some (rv, τ) → W p l e R s m ([.ref a0, .int (p1), .int (p2)] : List Value).toArray below meth c H locs cells slots Q (F0 m 339 ls []) := by
    intro n
    induction n with
    | zero =>
      intro v0 v3 σ H locs cells slots ls hD hl hf
      rw [f_X6_pack_L339] at hf
      cases hf
    | succ n ih =>
      intro v0 v3 σ H locs cells slots ls hD hl hf
      rw [f_X6_pack_L339] at hf
      refine lv_iload_n hx hb dX6_pack_339 rfl (lv_at hl 1 rfl) ?_
      refine hw_aload_n (r := v0) hx hb dX6_pack_340 rfl (lv_at hl 0 rfl) ?_
      obtain ⟨x11, hv, hf⟩ := ob_s hf
      refine hw_gi (C := RX6) (T := TX6) (N := 23) (ref := "SolidGroupsModel") S hKn hD hv rfl (by decide) (by decide) rfl inX6 wd3 (fun _ h9 => h9) dX6_pack_341 ?_
      refine lv_icmp_ge (tgt := 358) hx hb dX6_pack_344 (by decide) (fun hc => ?_) (fun hc => ?_)
      · rw [if_pos hc] at hf
        refine hw_aload_n (r := v0) hx hb dX6_pack_358 rfl (lv_at hl 0 rfl) ?_
        obtain ⟨x12, hv, hf⟩ := ob_s hf
        refine hw_gi (C := RX6) (T := TX6) (N := 23) (ref := "SolidGroupsModel") S hKn hD hv rfl (by decide) (by decide) rfl inX6 wd3 (fun _ h9 => h9) dX6_pack_359 ?_
        obtain ⟨e1, e2⟩ := ret_eq hf
        rw [hQ, ← e1, ← e2]
        exact hw_iret S hlk hret rfl hD dX6_pack_362
      · rw [if_neg hc] at hf
        refine hw_aload_n (r := v0) hx hb dX6_pack_347 rfl (lv_at hl 0 rfl) ?_
        refine lv_iload_n hx hb dX6_pack_348 rfl (lv_at hl 1 rfl) ?_
        obtain ⟨b15, hv, hf⟩ := ob_s hf
        obtain ⟨e9, hk9⟩ := oK_of hv
        cases e9
        obtain ⟨r13, s14, hv, hf⟩ := ob_p hf
        refine hw_V (b := b15) (ci := 7) (T := TX6) (N := 23) (As := [.int (v3)]) (rest := []) S hKn hRm hD (c_X6_makes l D G base E hv) (mo_X6_makes hv) hk9 rfl (by decide) gX6_pack_X6_makes rfl 1 (by decide +kernel) ⟨by rw [hfr]; decide, by rw [hlo]; decide⟩ rfl hl.1 (Nat.le_trans cs_0 (by decide)) rfl dX6_pack_349 (fun H locs cells slots hD => ?_)
        refine W.eq (g2 := F0 m 352 ls []) rfl ?_
        refine hs_iinc (i := 3) (k := 1) (v := v3 + 1) (lv' := [(3, .int (v3 + 1)), (0, va_rf ((some b15)))]) hx hb dX6_pack_352 hl rfl (congrArg (fun z => v3 + z) (by decide)) (by decide) (st_okR (st_okI st_ok0)) rfl (fun ls hl => ?_)
        refine lv_goto (tgt := 339) hx hb dX6_pack_355 (by decide) ?_
        exact ih (some b15) (v3 + 1) _ _ _ _ _ _ hD (lv_sub hl [1, 0] rfl) hf
  have hB284 : ∀ (k87 : Option Nat → Int32 → Int32 → Int32 → PS → Option (Int32 × PS)) (hk87 : ∀ (z0 : Option Nat) (z1 : Int32) (z2 : Int32) (z3 : Int32) (σ : PS) (H : Heap) (locs : List Loc) (cells slots : Nat) (ls : Array Slot), Dy D G base E s.heap σ0 σ H locs cells slots → lv_has ls 5 [(0, va_rf (z0)), (1, .int (z1)), (2, .int (z2)), (3, .int (z3))] → k87 z0 z1 z2 z3 σ = some (rv, τ) → W p l e R s m ([.ref a0, .int (p1), .int (p2)] : List Value).toArray below meth c H locs cells slots Q (F0 m 87 ls [])) (k196 : Option Nat → Int32 → Int32 → Int32 → Int32 → PS → Option (Int32 × PS)) (hk196 : ∀ (z0 : Option Nat) (z1 : Int32) (z2 : Int32) (z3 : Int32) (z4 : Int32) (σ : PS) (H : Heap) (locs : List Loc) (cells slots : Nat) (ls : Array Slot), Dy D G base E s.heap σ0 σ H locs cells slots → lv_has ls 5 [(0, va_rf (z0)), (1, .int (z1)), (2, .int (z2)), (3, .int (z3)), (4, .int (z4))] → k196 z0 z1 z2 z3 z4 σ = some (rv, τ) → W p l e R s m ([.ref a0, .int (p1), .int (p2)] : List Value).toArray below meth c H locs cells slots Q (F0 m 196 ls [])), ∀ (v0 : Option Nat) (v1 : Int32) (v2 : Int32) (v3 : Int32) (v4 : Int32) (σ : PS) (H : Heap) (locs : List Loc) (cells slots : Nat) (ls : Array Slot), Dy D G base E s.heap σ0 σ H locs cells slots → lv_has ls 5 [(0, va_rf (v0)), (1, .int (v1)), (2, .int (v2)), (3, .int (v3)), (4, .int (v4))] → f_X6_pack_B284 E k87 k196 v0 v1 v2 v3 v4 σ = some (rv, τ) → W p l e R s m ([.ref a0, .int (p1), .int (p2)] : List Value).toArray below meth c H locs cells slots Q (F0 m 284 ls []) := by
    intro k87 hk87 k196 hk196 v0 v1 v2 v3 v4 σ H locs cells slots ls hD hl hf
    unfold f_X6_pack_B284 at hf
    refine hw_aload_n (r := v0) hx hb dX6_pack_284 rfl (lv_at hl 0 rfl) ?_
    obtain ⟨x56, hv, hf⟩ := ob_s hf
    refine hw_gr (C := RX6) (T := TX6) (N := 23) (ref := "SolidGroupsModel") S hKn hD hv rfl (by decide) (by decide) rfl inX6 wd12 (fun _ h9 => h9) dX6_pack_285 ?_
    refine hw_aload_n (r := v0) hx hb dX6_pack_288 rfl (lv_at hl 0 rfl) ?_
    obtain ⟨x57, hv, hf⟩ := ob_s hf
    refine hw_gi (C := RX6) (T := TX6) (N := 23) (ref := "SolidGroupsModel") S hKn hD hv rfl (by decide) (by decide) rfl inX6 wd2 (fun _ h9 => h9) dX6_pack_289 ?_
    refine hw_aload_n (r := v0) hx hb dX6_pack_292 rfl (lv_at hl 0 rfl) ?_
    obtain ⟨x58, hv, hf⟩ := ob_s hf
    refine hw_gr (C := RX6) (T := TX6) (N := 23) (ref := "SolidGroupsModel") S hKn hD hv rfl (by decide) (by decide) rfl inX6 wd8 (fun _ h9 => h9) dX6_pack_293 ?_
    refine lv_iload hx hb dX6_pack_296 (lv_at hl 4 rfl) ?_
    obtain ⟨x59, hv, hf⟩ := ob_s hf
    refine hw_al S hKn hD hv dX6_pack_298 ?_
    obtain ⟨s60, hv, hf⟩ := ob_s hf
    refine hw_as S hKn hD hv dX6_pack_299 (fun H locs hD => ?_)
    refine hw_aload_n (r := v0) hx hb dX6_pack_300 rfl (lv_at hl 0 rfl) ?_
    obtain ⟨x61, hv, hf⟩ := ob_s hf
    refine hw_gr (C := RX6) (T := TX6) (N := 23) (ref := "SolidGroupsModel") S hKn hD hv rfl (by decide) (by decide) rfl inX6 wd13 (fun _ h9 => h9) dX6_pack_301 ?_
    refine hw_aload_n (r := v0) hx hb dX6_pack_304 rfl (lv_at hl 0 rfl) ?_
    obtain ⟨x62, hv, hf⟩ := ob_s hf
    refine hw_gi (C := RX6) (T := TX6) (N := 23) (ref := "SolidGroupsModel") S hKn hD hv rfl (by decide) (by decide) rfl inX6 wd2 (fun _ h9 => h9) dX6_pack_305 ?_
    refine hw_aload_n (r := v0) hx hb dX6_pack_308 rfl (lv_at hl 0 rfl) ?_
    obtain ⟨x63, hv, hf⟩ := ob_s hf
    refine hw_gi (C := RX6) (T := TX6) (N := 23) (ref := "SolidGroupsModel") S hKn hD hv rfl (by decide) (by decide) rfl inX6 wd3 (fun _ h9 => h9) dX6_pack_309 ?_
    refine lv_iconst (v := (1)) hx hb dX6_pack_312 (by decide) ?_
    refine lv_isub hx hb dX6_pack_313 ?_
    obtain ⟨s64, hv, hf⟩ := ob_s hf
    refine hw_as S hKn hD hv dX6_pack_314 (fun H locs hD => ?_)
    refine hw_aload_n (r := v0) hx hb dX6_pack_315 rfl (lv_at hl 0 rfl) ?_
    refine lv_dup hx hb dX6_pack_316 (va_rf_cat _) ?_
    obtain ⟨x65, hv, hf⟩ := ob_s hf
    refine hw_gi (C := RX6) (T := TX6) (N := 23) (ref := "SolidGroupsModel") S hKn hD hv rfl (by decide) (by decide) rfl inX6 wd2 (fun _ h9 => h9) dX6_pack_317 ?_
    refine lv_iconst (v := (1)) hx hb dX6_pack_320 (by decide) ?_
    refine lv_iadd hx hb dX6_pack_321 ?_
    obtain ⟨s66, hv, hf⟩ := ob_s hf
    refine hw_pi (C := RX6) (T := TX6) (N := 23) (ref := "SolidGroupsModel") S hKn hD hv rfl (by decide) (by decide) rfl inX6 tyX6 tyX6_ok nmX6 wd2 (fun _ h9 => h9) rfl (by first | rfl | decide) (by first | rfl | decide) dX6_pack_322 (fun H locs hD => ?_)
    refine hs_iinc (i := 4) (k := 4) (v := v4 + 1) (lv' := [(4, .int (v4 + 1)), (0, va_rf (v0)), (1, .int (v1)), (2, .int (v2)), (3, .int (v3))]) hx hb dX6_pack_325 hl rfl (congrArg (fun z => v4 + z) (by decide)) (by decide) (st_okR (st_okI (st_okI (st_okI (st_okI st_ok0))))) rfl (fun ls hl => ?_)
    refine lv_goto (tgt := 196) hx hb dX6_pack_328 (by decide) ?_
    exact hk196 v0 v1 v2 v3 (v4 + 1) _ _ _ _ _ _ hD (lv_sub hl [1, 2, 3, 4, 0] rfl) hf
  have hB254 : ∀ (k87 : Option Nat → Int32 → Int32 → Int32 → PS → Option (Int32 × PS)) (hk87 : ∀ (z0 : Option Nat) (z1 : Int32) (z2 : Int32) (z3 : Int32) (σ : PS) (H : Heap) (locs : List Loc) (cells slots : Nat) (ls : Array Slot), Dy D G base E s.heap σ0 σ H locs cells slots → lv_has ls 5 [(0, va_rf (z0)), (1, .int (z1)), (2, .int (z2)), (3, .int (z3))] → k87 z0 z1 z2 z3 σ = some (rv, τ) → W p l e R s m ([.ref a0, .int (p1), .int (p2)] : List Value).toArray below meth c H locs cells slots Q (F0 m 87 ls [])) (k196 : Option Nat → Int32 → Int32 → Int32 → Int32 → PS → Option (Int32 × PS)) (hk196 : ∀ (z0 : Option Nat) (z1 : Int32) (z2 : Int32) (z3 : Int32) (z4 : Int32) (σ : PS) (H : Heap) (locs : List Loc) (cells slots : Nat) (ls : Array Slot), Dy D G base E s.heap σ0 σ H locs cells slots → lv_has ls 5 [(0, va_rf (z0)), (1, .int (z1)), (2, .int (z2)), (3, .int (z3)), (4, .int (z4))] → k196 z0 z1 z2 z3 z4 σ = some (rv, τ) → W p l e R s m ([.ref a0, .int (p1), .int (p2)] : List Value).toArray below meth c H locs cells slots Q (F0 m 196 ls [])), ∀ (v0 : Option Nat) (v1 : Int32) (v2 : Int32) (v3 : Int32) (v4 : Int32) (σ : PS) (H : Heap) (locs : List Loc) (cells slots : Nat) (ls : Array Slot), Dy D G base E s.heap σ0 σ H locs cells slots → lv_has ls 5 [(0, va_rf (v0)), (1, .int (v1)), (2, .int (v2)), (3, .int (v3)), (4, .int (v4))] → f_X6_pack_B254 E k87 k196 v0 v1 v2 v3 v4 σ = some (rv, τ) → W p l e R s m ([.ref a0, .int (p1), .int (p2)] : List Value).toArray below meth c H locs cells slots Q (F0 m 254 ls []) := by
    intro k87 hk87 k196 hk196 v0 v1 v2 v3 v4 σ H locs cells slots ls hD hl hf
    unfold f_X6_pack_B254 at hf
    refine hw_aload_n (r := v0) hx hb dX6_pack_254 rfl (lv_at hl 0 rfl) ?_
    obtain ⟨x48, hv, hf⟩ := ob_s hf
    refine hw_gr (C := RX6) (T := TX6) (N := 23) (ref := "SolidGroupsModel") S hKn hD hv rfl (by decide) (by decide) rfl inX6 wd9 (fun _ h9 => h9) dX6_pack_255 ?_
    refine hw_aload_n (r := v0) hx hb dX6_pack_258 rfl (lv_at hl 0 rfl) ?_
    obtain ⟨x49, hv, hf⟩ := ob_s hf
    refine hw_gi (C := RX6) (T := TX6) (N := 23) (ref := "SolidGroupsModel") S hKn hD hv rfl (by decide) (by decide) rfl inX6 wd3 (fun _ h9 => h9) dX6_pack_259 ?_
    refine lv_iload_n hx hb dX6_pack_262 rfl (lv_at hl 3 rfl) ?_
    obtain ⟨s50, hv, hf⟩ := ob_s hf
    refine hw_as S hKn hD hv dX6_pack_263 (fun H locs hD => ?_)
    refine hw_aload_n (r := v0) hx hb dX6_pack_264 rfl (lv_at hl 0 rfl) ?_
    obtain ⟨x51, hv, hf⟩ := ob_s hf
    refine hw_gr (C := RX6) (T := TX6) (N := 23) (ref := "SolidGroupsModel") S hKn hD hv rfl (by decide) (by decide) rfl inX6 wd11 (fun _ h9 => h9) dX6_pack_265 ?_
    refine hw_aload_n (r := v0) hx hb dX6_pack_268 rfl (lv_at hl 0 rfl) ?_
    obtain ⟨x52, hv, hf⟩ := ob_s hf
    refine hw_gi (C := RX6) (T := TX6) (N := 23) (ref := "SolidGroupsModel") S hKn hD hv rfl (by decide) (by decide) rfl inX6 wd3 (fun _ h9 => h9) dX6_pack_269 ?_
    refine lv_iconst (v := (0)) hx hb dX6_pack_272 (by decide) ?_
    obtain ⟨s53, hv, hf⟩ := ob_s hf
    refine hw_as S hKn hD hv dX6_pack_273 (fun H locs hD => ?_)
    refine hw_aload_n (r := v0) hx hb dX6_pack_274 rfl (lv_at hl 0 rfl) ?_
    refine lv_dup hx hb dX6_pack_275 (va_rf_cat _) ?_
    obtain ⟨x54, hv, hf⟩ := ob_s hf
    refine hw_gi (C := RX6) (T := TX6) (N := 23) (ref := "SolidGroupsModel") S hKn hD hv rfl (by decide) (by decide) rfl inX6 wd3 (fun _ h9 => h9) dX6_pack_276 ?_
    refine lv_iconst (v := (1)) hx hb dX6_pack_279 (by decide) ?_
    refine lv_iadd hx hb dX6_pack_280 ?_
    obtain ⟨s55, hv, hf⟩ := ob_s hf
    refine hw_pi (C := RX6) (T := TX6) (N := 23) (ref := "SolidGroupsModel") S hKn hD hv rfl (by decide) (by decide) rfl inX6 tyX6 tyX6_ok nmX6 wd3 (fun _ h9 => h9) rfl (by first | rfl | decide) (by first | rfl | decide) dX6_pack_281 (fun H locs hD => ?_)
    exact hB284 _ hk87 _ hk196 v0 v1 v2 v3 v4 _ _ _ _ _ _ hD (lv_sub hl [0, 1, 2, 3, 4] rfl) hf
  have hL196 : ∀ (k87 : Option Nat → Int32 → Int32 → Int32 → PS → Option (Int32 × PS)) (hk87 : ∀ (z0 : Option Nat) (z1 : Int32) (z2 : Int32) (z3 : Int32) (σ : PS) (H : Heap) (locs : List Loc) (cells slots : Nat) (ls : Array Slot), Dy D G base E s.heap σ0 σ H locs cells slots → lv_has ls 5 [(0, va_rf (z0)), (1, .int (z1)), (2, .int (z2)), (3, .int (z3))] → k87 z0 z1 z2 z3 σ = some (rv, τ) → W p l e R s m ([.ref a0, .int (p1), .int (p2)] : List Value).toArray below meth c H locs cells slots Q (F0 m 87 ls [])) (n : Nat), ∀ (v0 : Option Nat) (v1 : Int32) (v2 : Int32) (v3 : Int32) (v4 : Int32) (σ : PS) (H : Heap) (locs : List Loc) (cells slots : Nat) (ls : Array Slot), Dy D G base E s.heap σ0 σ H locs cells slots → lv_has ls 5 [(0, va_rf (v0)), (1, .int (v1)), (2, .int (v2)), (3, .int (v3)), (4, .int (v4))] → f_X6_pack_L196 E k87 n v0 v1 v2 v3 v4 σ = some (rv, τ) → W p l e R s m ([.ref a0, .int (p1), .int (p2)] : List Value).toArray below meth c H locs cells slots Q (F0 m 196 ls []) := by
    intro k87 hk87 n
    induction n with
    | zero =>
      intro v0 v1 v2 v3 v4 σ H locs cells slots ls hD hl hf
      rw [f_X6_pack_L196] at hf
      cases hf
    | succ n ih =>
      intro v0 v1 v2 v3 v4 σ H locs cells slots ls hD hl hf
      rw [f_X6_pack_L196] at hf
      refine lv_iload hx hb dX6_pack_196 (lv_at hl 4 rfl) ?_
      refine hw_aload_n (r := v0) hx hb dX6_pack_198 rfl (lv_at hl 0 rfl) ?_
      obtain ⟨x35, hv, hf⟩ := ob_s hf
      refine hw_gi (C := RX6) (T := TX6) (N := 23) (ref := "SolidGroupsModel") S hKn hD hv rfl (by decide) (by decide) rfl inX6 wd5 (fun _ h9 => h9) dX6_pack_199 ?_
      refine lv_icmp_ge (tgt := 331) hx hb dX6_pack_202 (by decide) (fun hc => ?_) (fun hc => ?_)
      · rw [if_pos hc] at hf
        refine hs_iinc (i := 3) (k := 3) (v := v3 + 1) (lv' := [(3, .int (v3 + 1)), (0, va_rf (v0)), (1, .int (v1)), (2, .int (v2)), (4, .int (v4))]) hx hb dX6_pack_331 hl rfl (congrArg (fun z => v3 + z) (by decide)) (by decide) (st_okR (st_okI (st_okI (st_okI (st_okI st_ok0))))) rfl (fun ls hl => ?_)
        refine lv_goto (tgt := 87) hx hb dX6_pack_334 (by decide) ?_
        exact hk87 v0 v1 v2 (v3 + 1) _ _ _ _ _ _ hD (lv_sub hl [1, 2, 3, 0] rfl) hf
      · rw [if_neg hc] at hf
        refine hw_aload_n (r := v0) hx hb dX6_pack_205 rfl (lv_at hl 0 rfl) ?_
        obtain ⟨x36, hv, hf⟩ := ob_s hf
        refine hw_gi (C := RX6) (T := TX6) (N := 23) (ref := "SolidGroupsModel") S hKn hD hv rfl (by decide) (by decide) rfl inX6 wd3 (fun _ h9 => h9) dX6_pack_206 ?_
        refine lv_if_eq (tgt := 254) hx hb dX6_pack_209 (by decide) (fun hc => ?_) (fun hc => ?_)
        · rw [if_pos hc] at hf
          exact hB254 _ hk87 _ ih v0 v1 v2 v3 v4 _ _ _ _ _ _ hD (lv_sub hl [0, 1, 2, 3, 4] rfl) hf
        · rw [if_neg hc] at hf
          refine hw_aload_n (r := v0) hx hb dX6_pack_212 rfl (lv_at hl 0 rfl) ?_
          obtain ⟨x37, hv, hf⟩ := ob_s hf
          refine hw_gr (C := RX6) (T := TX6) (N := 23) (ref := "SolidGroupsModel") S hKn hD hv rfl (by decide) (by decide) rfl inX6 wd9 (fun _ h9 => h9) dX6_pack_213 ?_
          refine hw_aload_n (r := v0) hx hb dX6_pack_216 rfl (lv_at hl 0 rfl) ?_
          obtain ⟨x38, hv, hf⟩ := ob_s hf
          refine hw_gi (C := RX6) (T := TX6) (N := 23) (ref := "SolidGroupsModel") S hKn hD hv rfl (by decide) (by decide) rfl inX6 wd3 (fun _ h9 => h9) dX6_pack_217 ?_
          refine lv_iconst (v := (1)) hx hb dX6_pack_220 (by decide) ?_
          refine lv_isub hx hb dX6_pack_221 ?_
          obtain ⟨x39, hv, hf⟩ := ob_s hf
          refine hw_al S hKn hD hv dX6_pack_222 ?_
          refine lv_iload_n hx hb dX6_pack_223 rfl (lv_at hl 3 rfl) ?_
          refine lv_icmp_ne (tgt := 254) hx hb dX6_pack_224 (by decide) (fun hc => ?_) (fun hc => ?_)
          · rw [if_neg hc] at hf
            exact hB254 _ hk87 _ ih v0 v1 v2 v3 v4 _ _ _ _ _ _ hD (lv_sub hl [0, 1, 2, 3, 4] rfl) hf
          · rw [if_pos hc] at hf
            refine hw_aload_n (r := v0) hx hb dX6_pack_227 rfl (lv_at hl 0 rfl) ?_
            refine hw_aload_n (r := v0) hx hb dX6_pack_228 rfl (lv_at hl 0 rfl) ?_
            obtain ⟨x40, hv, hf⟩ := ob_s hf
            refine hw_gi (C := RX6) (T := TX6) (N := 23) (ref := "SolidGroupsModel") S hKn hD hv rfl (by decide) (by decide) rfl inX6 wd3 (fun _ h9 => h9) dX6_pack_229 ?_
            refine lv_iconst (v := (1)) hx hb dX6_pack_232 (by decide) ?_
            refine lv_isub hx hb dX6_pack_233 ?_
            obtain ⟨b43, hv, hf⟩ := ob_s hf
            obtain ⟨e9, hk9⟩ := oK_of hv
            cases e9
            obtain ⟨r41, s42, hv, hf⟩ := ob_p hf
            refine hw_V (b := b43) (ci := 7) (T := TX6) (N := 23) (As := [.int (x40 - (1 : Int32))]) (rest := []) S hKn hRm hD (c_X6_groupBytes l D G base E hv) (mo_X6_groupBytes hv) hk9 rfl (by decide) gX6_pack_X6_groupBytes rfl 1 (by decide +kernel) ⟨by rw [hfr]; decide, by rw [hlo]; decide⟩ rfl hl.1 (Nat.le_trans cs_0 (by decide)) rfl dX6_pack_234 (fun H locs cells slots hD => ?_)
            refine W.eq (g2 := F0 m 237 ls [.int (r41)]) rfl ?_
            refine hw_aload_n (r := (some b43)) hx hb dX6_pack_237 rfl (lv_at hl 0 rfl) ?_
            obtain ⟨x44, hv, hf⟩ := ob_s hf
            refine hw_gr (C := RX6) (T := TX6) (N := 23) (ref := "SolidGroupsModel") S hKn hD hv rfl (by decide) (by decide) rfl inX6 wd10 (fun _ h9 => h9) dX6_pack_238 ?_
            refine hw_aload_n (r := (some b43)) hx hb dX6_pack_241 rfl (lv_at hl 0 rfl) ?_
            obtain ⟨x45, hv, hf⟩ := ob_s hf
            refine hw_gr (C := RX6) (T := TX6) (N := 23) (ref := "SolidGroupsModel") S hKn hD hv rfl (by decide) (by decide) rfl inX6 wd8 (fun _ h9 => h9) dX6_pack_242 ?_
            refine lv_iload hx hb dX6_pack_245 (lv_at hl 4 rfl) ?_
            obtain ⟨x46, hv, hf⟩ := ob_s hf
            refine hw_al S hKn hD hv dX6_pack_247 ?_
            obtain ⟨x47, hv, hf⟩ := ob_s hf
            refine hw_al S hKn hD hv dX6_pack_248 ?_
            refine lv_iadd hx hb dX6_pack_249 ?_
            refine lv_iload_n hx hb dX6_pack_250 rfl (lv_at hl 1 rfl) ?_
            refine lv_icmp_le (tgt := 284) hx hb dX6_pack_251 (by decide) (fun hc => ?_) (fun hc => ?_)
            · rw [if_pos hc] at hf
              exact hB284 _ hk87 _ ih (some b43) v1 v2 v3 v4 _ _ _ _ _ _ hD (lv_sub hl [0, 1, 2, 3, 4] rfl) hf
            · rw [if_neg hc] at hf
              exact hB254 _ hk87 _ ih (some b43) v1 v2 v3 v4 _ _ _ _ _ _ hD (lv_sub hl [0, 1, 2, 3, 4] rfl) hf
  have hB193 : ∀ (k87 : Option Nat → Int32 → Int32 → Int32 → PS → Option (Int32 × PS)) (hk87 : ∀ (z0 : Option Nat) (z1 : Int32) (z2 : Int32) (z3 : Int32) (σ : PS) (H : Heap) (locs : List Loc) (cells slots : Nat) (ls : Array Slot), Dy D G base E s.heap σ0 σ H locs cells slots → lv_has ls 5 [(0, va_rf (z0)), (1, .int (z1)), (2, .int (z2)), (3, .int (z3))] → k87 z0 z1 z2 z3 σ = some (rv, τ) → W p l e R s m ([.ref a0, .int (p1), .int (p2)] : List Value).toArray below meth c H locs cells slots Q (F0 m 87 ls [])), ∀ (v0 : Option Nat) (v1 : Int32) (v2 : Int32) (v3 : Int32) (σ : PS) (H : Heap) (locs : List Loc) (cells slots : Nat) (ls : Array Slot), Dy D G base E s.heap σ0 σ H locs cells slots → lv_has ls 5 [(0, va_rf (v0)), (1, .int (v1)), (2, .int (v2)), (3, .int (v3))] → f_X6_pack_B193 E k87 v0 v1 v2 v3 σ = some (rv, τ) → W p l e R s m ([.ref a0, .int (p1), .int (p2)] : List Value).toArray below meth c H locs cells slots Q (F0 m 193 ls []) := by
    intro k87 hk87 v0 v1 v2 v3 σ H locs cells slots ls hD hl hf
    unfold f_X6_pack_B193 at hf
    refine lv_iconst (v := (0)) hx hb dX6_pack_193 (by decide) ?_
    refine hs_istore (i := 4) (lv' := [(4, .int ((0 : Int32))), (0, va_rf (v0)), (1, .int (v1)), (2, .int (v2)), (3, .int (v3))]) hx hb dX6_pack_194 hl (by decide) (st_okR (st_okI (st_okI (st_okI st_ok0)))) rfl (fun ls hl => ?_)
    exact hL196 _ hk87 _ v0 v1 v2 v3 (0 : Int32) _ _ _ _ _ _ hD (lv_sub hl [1, 2, 3, 4, 0] rfl) hf
  have hB185 : ∀ (k87 : Option Nat → Int32 → Int32 → Int32 → PS → Option (Int32 × PS)) (hk87 : ∀ (z0 : Option Nat) (z1 : Int32) (z2 : Int32) (z3 : Int32) (σ : PS) (H : Heap) (locs : List Loc) (cells slots : Nat) (ls : Array Slot), Dy D G base E s.heap σ0 σ H locs cells slots → lv_has ls 5 [(0, va_rf (z0)), (1, .int (z1)), (2, .int (z2)), (3, .int (z3))] → k87 z0 z1 z2 z3 σ = some (rv, τ) → W p l e R s m ([.ref a0, .int (p1), .int (p2)] : List Value).toArray below meth c H locs cells slots Q (F0 m 87 ls [])), ∀ (v0 : Option Nat) (v1 : Int32) (v2 : Int32) (v3 : Int32) (σ : PS) (H : Heap) (locs : List Loc) (cells slots : Nat) (ls : Array Slot), Dy D G base E s.heap σ0 σ H locs cells slots → lv_has ls 5 [(0, va_rf (v0)), (1, .int (v1)), (2, .int (v2)), (3, .int (v3))] → f_X6_pack_B185 E k87 v0 v1 v2 v3 σ = some (rv, τ) → W p l e R s m ([.ref a0, .int (p1), .int (p2)] : List Value).toArray below meth c H locs cells slots Q (F0 m 185 ls []) := by
    intro k87 hk87 v0 v1 v2 v3 σ H locs cells slots ls hD hl hf
    unfold f_X6_pack_B185 at hf
    refine lv_iload_n hx hb dX6_pack_185 rfl (lv_at hl 2 rfl) ?_
    refine lv_if_le (tgt := 193) hx hb dX6_pack_186 (by decide) (fun hc => ?_) (fun hc => ?_)
    · rw [if_pos hc] at hf
      exact hB193 _ hk87 v0 v1 v2 v3 _ _ _ _ _ _ hD (lv_sub hl [0, 1, 2, 3] rfl) hf
    · rw [if_neg hc] at hf
      refine hw_aload_n (r := v0) hx hb dX6_pack_189 rfl (lv_at hl 0 rfl) ?_
      obtain ⟨b34, hv, hf⟩ := ob_s hf
      obtain ⟨e9, hk9⟩ := oK_of hv
      cases e9
      obtain ⟨r32, s33, hv, hf⟩ := ob_p hf
      refine hw_V (b := b34) (ci := 7) (T := TX6) (N := 23) (As := []) (rest := []) S hKn hRm hD (c_X6_chain l D G base E hv) (mo_X6_chain hv) hk9 rfl (by decide) gX6_pack_X6_chain rfl 0 (by decide +kernel) ⟨by rw [hfr]; decide, by rw [hlo]; decide⟩ rfl hl.1 (Nat.le_trans cs_0 (by decide)) rfl dX6_pack_190 (fun H locs cells slots hD => ?_)
      refine W.eq (g2 := F0 m 193 ls []) rfl ?_
      exact hB193 _ hk87 (some b34) v1 v2 v3 _ _ _ _ _ _ hD (lv_sub hl [0, 1, 2, 3] rfl) hf
  have hB154 : ∀ (k87 : Option Nat → Int32 → Int32 → Int32 → PS → Option (Int32 × PS)) (hk87 : ∀ (z0 : Option Nat) (z1 : Int32) (z2 : Int32) (z3 : Int32) (σ : PS) (H : Heap) (locs : List Loc) (cells slots : Nat) (ls : Array Slot), Dy D G base E s.heap σ0 σ H locs cells slots → lv_has ls 5 [(0, va_rf (z0)), (1, .int (z1)), (2, .int (z2)), (3, .int (z3))] → k87 z0 z1 z2 z3 σ = some (rv, τ) → W p l e R s m ([.ref a0, .int (p1), .int (p2)] : List Value).toArray below meth c H locs cells slots Q (F0 m 87 ls [])) (k101 : Option Nat → Int32 → Int32 → Int32 → Int32 → PS → Option (Int32 × PS)) (hk101 : ∀ (z0 : Option Nat) (z1 : Int32) (z2 : Int32) (z3 : Int32) (z4 : Int32) (σ : PS) (H : Heap) (locs : List Loc) (cells slots : Nat) (ls : Array Slot), Dy D G base E s.heap σ0 σ H locs cells slots → lv_has ls 5 [(0, va_rf (z0)), (1, .int (z1)), (2, .int (z2)), (3, .int (z3)), (4, .int (z4))] → k101 z0 z1 z2 z3 z4 σ = some (rv, τ) → W p l e R s m ([.ref a0, .int (p1), .int (p2)] : List Value).toArray below meth c H locs cells slots Q (F0 m 101 ls [])), ∀ (v0 : Option Nat) (v1 : Int32) (v2 : Int32) (v3 : Int32) (v4 : Int32) (σ : PS) (H : Heap) (locs : List Loc) (cells slots : Nat) (ls : Array Slot), Dy D G base E s.heap σ0 σ H locs cells slots → lv_has ls 5 [(0, va_rf (v0)), (1, .int (v1)), (2, .int (v2)), (3, .int (v3)), (4, .int (v4))] → f_X6_pack_B154 E k87 k101 v0 v1 v2 v3 v4 σ = some (rv, τ) → W p l e R s m ([.ref a0, .int (p1), .int (p2)] : List Value).toArray below meth c H locs cells slots Q (F0 m 154 ls []) := by
    intro k87 hk87 k101 hk101 v0 v1 v2 v3 v4 σ H locs cells slots ls hD hl hf
    unfold f_X6_pack_B154 at hf
    refine hs_iinc (i := 4) (k := 4) (v := v4 + 1) (lv' := [(4, .int (v4 + 1)), (0, va_rf (v0)), (1, .int (v1)), (2, .int (v2)), (3, .int (v3))]) hx hb dX6_pack_154 hl rfl (congrArg (fun z => v4 + z) (by decide)) (by decide) (st_okR (st_okI (st_okI (st_okI (st_okI st_ok0))))) rfl (fun ls hl => ?_)
    refine lv_goto (tgt := 101) hx hb dX6_pack_157 (by decide) ?_
    exact hk101 v0 v1 v2 v3 (v4 + 1) _ _ _ _ _ _ hD (lv_sub hl [1, 2, 3, 4, 0] rfl) hf
  have hL101 : ∀ (k87 : Option Nat → Int32 → Int32 → Int32 → PS → Option (Int32 × PS)) (hk87 : ∀ (z0 : Option Nat) (z1 : Int32) (z2 : Int32) (z3 : Int32) (σ : PS) (H : Heap) (locs : List Loc) (cells slots : Nat) (ls : Array Slot), Dy D G base E s.heap σ0 σ H locs cells slots → lv_has ls 5 [(0, va_rf (z0)), (1, .int (z1)), (2, .int (z2)), (3, .int (z3))] → k87 z0 z1 z2 z3 σ = some (rv, τ) → W p l e R s m ([.ref a0, .int (p1), .int (p2)] : List Value).toArray below meth c H locs cells slots Q (F0 m 87 ls [])) (n : Nat), ∀ (v0 : Option Nat) (v1 : Int32) (v2 : Int32) (v3 : Int32) (v4 : Int32) (σ : PS) (H : Heap) (locs : List Loc) (cells slots : Nat) (ls : Array Slot), Dy D G base E s.heap σ0 σ H locs cells slots → lv_has ls 5 [(0, va_rf (v0)), (1, .int (v1)), (2, .int (v2)), (3, .int (v3)), (4, .int (v4))] → f_X6_pack_L101 E k87 n v0 v1 v2 v3 v4 σ = some (rv, τ) → W p l e R s m ([.ref a0, .int (p1), .int (p2)] : List Value).toArray below meth c H locs cells slots Q (F0 m 101 ls []) := by
    intro k87 hk87 n
    induction n with
    | zero =>
      intro v0 v1 v2 v3 v4 σ H locs cells slots ls hD hl hf
      rw [f_X6_pack_L101] at hf
      cases hf
    | succ n ih =>
      intro v0 v1 v2 v3 v4 σ H locs cells slots ls hD hl hf
      rw [f_X6_pack_L101] at hf
      refine lv_iload hx hb dX6_pack_101 (lv_at hl 4 rfl) ?_
      refine hw_aload_n (r := v0) hx hb dX6_pack_103 rfl (lv_at hl 0 rfl) ?_
      obtain ⟨x16, hv, hf⟩ := ob_s hf
      refine hw_gi (C := RX6) (T := TX6) (N := 23) (ref := "SolidGroupsModel") S hKn hD hv rfl (by decide) (by decide) rfl inX6 wd4 (fun _ h9 => h9) dX6_pack_104 ?_
      refine lv_icmp_ge (tgt := 160) hx hb dX6_pack_107 (by decide) (fun hc => ?_) (fun hc => ?_)
      · rw [if_pos hc] at hf
        refine lv_iload_n hx hb dX6_pack_160 rfl (lv_at hl 2 rfl) ?_
        refine lv_iconst (v := (2)) hx hb dX6_pack_161 (by decide) ?_
        refine lv_icmp_ne (tgt := 185) hx hb dX6_pack_162 (by decide) (fun hc => ?_) (fun hc => ?_)
        · rw [if_neg hc] at hf
          exact hB185 _ hk87 v0 v1 v2 v3 _ _ _ _ _ _ hD (lv_sub hl [0, 1, 2, 3] rfl) hf
        · rw [if_pos hc] at hf
          refine hw_aload_n (r := v0) hx hb dX6_pack_165 rfl (lv_at hl 0 rfl) ?_
          obtain ⟨x17, hv, hf⟩ := ob_s hf
          refine hw_gi (C := RX6) (T := TX6) (N := 23) (ref := "SolidGroupsModel") S hKn hD hv rfl (by decide) (by decide) rfl inX6 wd5 (fun _ h9 => h9) dX6_pack_166 ?_
          refine lv_iconst (v := (1)) hx hb dX6_pack_169 (by decide) ?_
          refine lv_bipush (v := (7)) hx hb dX6_pack_170 (by decide) ?_
          obtain ⟨r18, s19, hv, hf⟩ := ob_p hf
          refine hw_S (As := [.int (x17), .int ((1 : Int32)), .int ((7 : Int32))]) (rest := []) S hKn hRm hD (c_X6_isIn l D G base E hv) (mo_X6_isIn hv) gX6_pack_X6_isIn rfl 3 (by decide +kernel) ⟨by rw [hfr]; decide, by rw [hlo]; decide⟩ rfl hl.1 (Nat.le_trans cs_0 (by decide)) rfl dX6_pack_172 (fun H locs cells slots hD => ?_)
          refine W.eq (g2 := F0 m 175 ls [.int (r18)]) rfl ?_
          refine lv_if_eq (tgt := 185) hx hb dX6_pack_175 (by decide) (fun hc => ?_) (fun hc => ?_)
          · rw [if_pos hc] at hf
            exact hB185 _ hk87 v0 v1 v2 v3 _ _ _ _ _ _ hD (lv_sub hl [0, 1, 2, 3] rfl) hf
          · rw [if_neg hc] at hf
            refine hw_aload_n (r := v0) hx hb dX6_pack_178 rfl (lv_at hl 0 rfl) ?_
            obtain ⟨b22, hv, hf⟩ := ob_s hf
            obtain ⟨e9, hk9⟩ := oK_of hv
            cases e9
            obtain ⟨r20, s21, hv, hf⟩ := ob_p hf
            refine hw_V (b := b22) (ci := 7) (T := TX6) (N := 23) (As := []) (rest := []) S hKn hRm hD (c_X6_bestOfAll l D G base E hv) (mo_X6_bestOfAll hv) hk9 rfl (by decide) gX6_pack_X6_bestOfAll rfl 0 (by decide +kernel) ⟨by rw [hfr]; decide, by rw [hlo]; decide⟩ rfl hl.1 (Nat.le_trans cs_0 (by decide)) rfl dX6_pack_179 (fun H locs cells slots hD => ?_)
            refine W.eq (g2 := F0 m 182 ls []) rfl ?_
            refine lv_goto (tgt := 193) hx hb dX6_pack_182 (by decide) ?_
            exact hB193 _ hk87 (some b22) v1 v2 v3 _ _ _ _ _ _ hD (lv_sub hl [0, 1, 2, 3] rfl) hf
      · rw [if_neg hc] at hf
        refine hw_aload_n (r := v0) hx hb dX6_pack_110 rfl (lv_at hl 0 rfl) ?_
        obtain ⟨x23, hv, hf⟩ := ob_s hf
        refine hw_gr (C := RX6) (T := TX6) (N := 23) (ref := "SolidGroupsModel") S hKn hD hv rfl (by decide) (by decide) rfl inX6 wd6 (fun _ h9 => h9) dX6_pack_111 ?_
        refine lv_iload hx hb dX6_pack_114 (lv_at hl 4 rfl) ?_
        obtain ⟨x24, hv, hf⟩ := ob_s hf
        refine hw_al S hKn hD hv dX6_pack_116 ?_
        refine lv_iload_n hx hb dX6_pack_117 rfl (lv_at hl 3 rfl) ?_
        refine lv_icmp_ne (tgt := 154) hx hb dX6_pack_118 (by decide) (fun hc => ?_) (fun hc => ?_)
        · rw [if_neg hc] at hf
          exact hB154 _ hk87 _ ih v0 v1 v2 v3 v4 _ _ _ _ _ _ hD (lv_sub hl [0, 1, 2, 3, 4] rfl) hf
        · rw [if_pos hc] at hf
          refine hw_aload_n (r := v0) hx hb dX6_pack_121 rfl (lv_at hl 0 rfl) ?_
          obtain ⟨x25, hv, hf⟩ := ob_s hf
          refine hw_gr (C := RX6) (T := TX6) (N := 23) (ref := "SolidGroupsModel") S hKn hD hv rfl (by decide) (by decide) rfl inX6 wd7 (fun _ h9 => h9) dX6_pack_122 ?_
          refine lv_iload hx hb dX6_pack_125 (lv_at hl 4 rfl) ?_
          obtain ⟨x26, hv, hf⟩ := ob_s hf
          refine hw_al S hKn hD hv dX6_pack_127 ?_
          refine lv_iload hx hb dX6_pack_128 (lv_at hl 4 rfl) ?_
          refine lv_icmp_ne (tgt := 154) hx hb dX6_pack_130 (by decide) (fun hc => ?_) (fun hc => ?_)
          · rw [if_neg hc] at hf
            exact hB154 _ hk87 _ ih v0 v1 v2 v3 v4 _ _ _ _ _ _ hD (lv_sub hl [0, 1, 2, 3, 4] rfl) hf
          · rw [if_pos hc] at hf
            refine hw_aload_n (r := v0) hx hb dX6_pack_133 rfl (lv_at hl 0 rfl) ?_
            obtain ⟨x27, hv, hf⟩ := ob_s hf
            refine hw_gr (C := RX6) (T := TX6) (N := 23) (ref := "SolidGroupsModel") S hKn hD hv rfl (by decide) (by decide) rfl inX6 wd8 (fun _ h9 => h9) dX6_pack_134 ?_
            refine hw_aload_n (r := v0) hx hb dX6_pack_137 rfl (lv_at hl 0 rfl) ?_
            obtain ⟨x28, hv, hf⟩ := ob_s hf
            refine hw_gi (C := RX6) (T := TX6) (N := 23) (ref := "SolidGroupsModel") S hKn hD hv rfl (by decide) (by decide) rfl inX6 wd5 (fun _ h9 => h9) dX6_pack_138 ?_
            refine lv_iload hx hb dX6_pack_141 (lv_at hl 4 rfl) ?_
            obtain ⟨s29, hv, hf⟩ := ob_s hf
            refine hw_as S hKn hD hv dX6_pack_143 (fun H locs hD => ?_)
            refine hw_aload_n (r := v0) hx hb dX6_pack_144 rfl (lv_at hl 0 rfl) ?_
            refine lv_dup hx hb dX6_pack_145 (va_rf_cat _) ?_
            obtain ⟨x30, hv, hf⟩ := ob_s hf
            refine hw_gi (C := RX6) (T := TX6) (N := 23) (ref := "SolidGroupsModel") S hKn hD hv rfl (by decide) (by decide) rfl inX6 wd5 (fun _ h9 => h9) dX6_pack_146 ?_
            refine lv_iconst (v := (1)) hx hb dX6_pack_149 (by decide) ?_
            refine lv_iadd hx hb dX6_pack_150 ?_
            obtain ⟨s31, hv, hf⟩ := ob_s hf
            refine hw_pi (C := RX6) (T := TX6) (N := 23) (ref := "SolidGroupsModel") S hKn hD hv rfl (by decide) (by decide) rfl inX6 tyX6 tyX6_ok nmX6 wd5 (fun _ h9 => h9) rfl (by first | rfl | decide) (by first | rfl | decide) dX6_pack_151 (fun H locs hD => ?_)
            exact hB154 _ hk87 _ ih v0 v1 v2 v3 v4 _ _ _ _ _ _ hD (lv_sub hl [0, 1, 2, 3, 4] rfl) hf
  have hL87 : ∀ (n : Nat), ∀ (v0 : Option Nat) (v1 : Int32) (v2 : Int32) (v3 : Int32) (σ : PS) (H : Heap) (locs : List Loc) (cells slots : Nat) (ls : Array Slot), Dy D G base E s.heap σ0 σ H locs cells slots → lv_has ls 5 [(0, va_rf (v0)), (1, .int (v1)), (2, .int (v2)), (3, .int (v3))] → f_X6_pack_L87 E n v0 v1 v2 v3 σ = some (rv, τ) → W p l e R s m ([.ref a0, .int (p1), .int (p2)] : List Value).toArray below meth c H locs cells slots Q (F0 m 87 ls []) := by
    intro n
    induction n with
    | zero =>
      intro v0 v1 v2 v3 σ H locs cells slots ls hD hl hf
      rw [f_X6_pack_L87] at hf
      cases hf
    | succ n ih =>
      intro v0 v1 v2 v3 σ H locs cells slots ls hD hl hf
      rw [f_X6_pack_L87] at hf
      refine lv_iload_n hx hb dX6_pack_87 rfl (lv_at hl 3 rfl) ?_
      refine lv_bipush (v := (6)) hx hb dX6_pack_88 (by decide) ?_
      refine lv_icmp_ge (tgt := 337) hx hb dX6_pack_90 (by decide) (fun hc => ?_) (fun hc => ?_)
      · rw [if_pos hc] at hf
        refine lv_iconst (v := (0)) hx hb dX6_pack_337 (by decide) ?_
        refine hs_istore_n (i := 3) (lv' := [(3, .int ((0 : Int32))), (0, va_rf (v0)), (1, .int (v1)), (2, .int (v2))]) hx hb dX6_pack_338 rfl hl (by decide) (st_okR (st_okI (st_okI (st_okI st_ok0)))) rfl (fun ls hl => ?_)
        exact hL339 _ v0 (0 : Int32) _ _ _ _ _ _ hD (lv_sub hl [1, 0] rfl) hf
      · rw [if_neg hc] at hf
        refine hw_aload_n (r := v0) hx hb dX6_pack_93 rfl (lv_at hl 0 rfl) ?_
        refine lv_iconst (v := (0)) hx hb dX6_pack_94 (by decide) ?_
        obtain ⟨s10, hv, hf⟩ := ob_s hf
        refine hw_pi (C := RX6) (T := TX6) (N := 23) (ref := "SolidGroupsModel") S hKn hD hv rfl (by decide) (by decide) rfl inX6 tyX6 tyX6_ok nmX6 wd5 (fun _ h9 => h9) rfl (by first | rfl | decide) (by first | rfl | decide) dX6_pack_95 (fun H locs hD => ?_)
        refine lv_iconst (v := (0)) hx hb dX6_pack_98 (by decide) ?_
        refine hs_istore (i := 4) (lv' := [(4, .int ((0 : Int32))), (0, va_rf (v0)), (1, .int (v1)), (2, .int (v2)), (3, .int (v3))]) hx hb dX6_pack_99 hl (by decide) (st_okR (st_okI (st_okI (st_okI st_ok0)))) rfl (fun ls hl => ?_)
        exact hL101 _ ih _ v0 v1 v2 v3 (0 : Int32) _ _ _ _ _ _ hD (lv_sub hl [1, 2, 3, 4, 0] rfl) hf
  have hL55 : ∀ (k44 : Option Nat → Int32 → Int32 → Int32 → PS → Option (Int32 × PS)) (hk44 : ∀ (z0 : Option Nat) (z1 : Int32) (z2 : Int32) (z3 : Int32) (σ : PS) (H : Heap) (locs : List Loc) (cells slots : Nat) (ls : Array Slot), Dy D G base E s.heap σ0 σ H locs cells slots → lv_has ls 5 [(0, va_rf (z0)), (1, .int (z1)), (2, .int (z2)), (3, .int (z3))] → k44 z0 z1 z2 z3 σ = some (rv, τ) → W p l e R s m ([.ref a0, .int (p1), .int (p2)] : List Value).toArray below meth c H locs cells slots Q (F0 m 44 ls [])) (n : Nat), ∀ (v0 : Option Nat) (v1 : Int32) (v2 : Int32) (v3 : Int32) (v4 : Int32) (σ : PS) (H : Heap) (locs : List Loc) (cells slots : Nat) (ls : Array Slot), Dy D G base E s.heap σ0 σ H locs cells slots → lv_has ls 5 [(0, va_rf (v0)), (1, .int (v1)), (2, .int (v2)), (3, .int (v3)), (4, .int (v4))] → f_X6_pack_L55 E k44 n v0 v1 v2 v3 v4 σ = some (rv, τ) → W p l e R s m ([.ref a0, .int (p1), .int (p2)] : List Value).toArray below meth c H locs cells slots Q (F0 m 55 ls []) := by
    intro k44 hk44 n
    induction n with
    | zero =>
      intro v0 v1 v2 v3 v4 σ H locs cells slots ls hD hl hf
      rw [f_X6_pack_L55] at hf
      cases hf
    | succ n ih =>
      intro v0 v1 v2 v3 v4 σ H locs cells slots ls hD hl hf
      rw [f_X6_pack_L55] at hf
      refine hw_aload_n (r := v0) hx hb dX6_pack_55 rfl (lv_at hl 0 rfl) ?_
      refine lv_iload hx hb dX6_pack_56 (lv_at hl 4 rfl) ?_
      refine lv_iload_n hx hb dX6_pack_58 rfl (lv_at hl 3 rfl) ?_
      obtain ⟨b69, hv, hf⟩ := ob_s hf
      obtain ⟨e9, hk9⟩ := oK_of hv
      cases e9
      obtain ⟨r67, s68, hv, hf⟩ := ob_p hf
      refine hw_V (b := b69) (ci := 7) (T := TX6) (N := 23) (As := [.int (v4), .int (v3)]) (rest := []) S hKn hRm hD (c_X6_isSame l D G base E hv) (mo_X6_isSame hv) hk9 rfl (by decide) gX6_pack_X6_isSame rfl 2 (by decide +kernel) ⟨by rw [hfr]; decide, by rw [hlo]; decide⟩ rfl hl.1 (Nat.le_trans cs_0 (by decide)) rfl dX6_pack_59 (fun H locs cells slots hD => ?_)
      refine W.eq (g2 := F0 m 62 ls [.int (r67)]) rfl ?_
      refine lv_if_ne (tgt := 71) hx hb dX6_pack_62 (by decide) (fun hc => ?_) (fun hc => ?_)
      · rw [if_neg hc] at hf
        refine hw_aload_n (r := (some b69)) hx hb dX6_pack_71 rfl (lv_at hl 0 rfl) ?_
        obtain ⟨x70, hv, hf⟩ := ob_s hf
        refine hw_gr (C := RX6) (T := TX6) (N := 23) (ref := "SolidGroupsModel") S hKn hD hv rfl (by decide) (by decide) rfl inX6 wd7 (fun _ h9 => h9) dX6_pack_72 ?_
        refine lv_iload_n hx hb dX6_pack_75 rfl (lv_at hl 3 rfl) ?_
        refine lv_iload hx hb dX6_pack_76 (lv_at hl 4 rfl) ?_
        obtain ⟨s71, hv, hf⟩ := ob_s hf
        refine hw_as S hKn hD hv dX6_pack_78 (fun H locs hD => ?_)
        refine hs_iinc (i := 3) (k := 3) (v := v3 + 1) (lv' := [(3, .int (v3 + 1)), (0, va_rf ((some b69))), (1, .int (v1)), (2, .int (v2)), (4, .int (v4))]) hx hb dX6_pack_79 hl rfl (congrArg (fun z => v3 + z) (by decide)) (by decide) (st_okR (st_okI (st_okI (st_okI (st_okI st_ok0))))) rfl (fun ls hl => ?_)
        refine lv_goto (tgt := 44) hx hb dX6_pack_82 (by decide) ?_
        exact hk44 (some b69) v1 v2 (v3 + 1) _ _ _ _ _ _ hD (lv_sub hl [1, 2, 3, 0] rfl) hf
      · rw [if_pos hc] at hf
        refine hs_iinc (i := 4) (k := 4) (v := v4 + 1) (lv' := [(4, .int (v4 + 1)), (0, va_rf ((some b69))), (1, .int (v1)), (2, .int (v2)), (3, .int (v3))]) hx hb dX6_pack_65 hl rfl (congrArg (fun z => v4 + z) (by decide)) (by decide) (st_okR (st_okI (st_okI (st_okI (st_okI st_ok0))))) rfl (fun ls hl => ?_)
        refine lv_goto (tgt := 55) hx hb dX6_pack_68 (by decide) ?_
        exact ih (some b69) v1 v2 v3 (v4 + 1) _ _ _ _ _ _ hD (lv_sub hl [1, 2, 3, 4, 0] rfl) hf
  have hL44 : ∀ (n : Nat), ∀ (v0 : Option Nat) (v1 : Int32) (v2 : Int32) (v3 : Int32) (σ : PS) (H : Heap) (locs : List Loc) (cells slots : Nat) (ls : Array Slot), Dy D G base E s.heap σ0 σ H locs cells slots → lv_has ls 5 [(0, va_rf (v0)), (1, .int (v1)), (2, .int (v2)), (3, .int (v3))] → f_X6_pack_L44 E n v0 v1 v2 v3 σ = some (rv, τ) → W p l e R s m ([.ref a0, .int (p1), .int (p2)] : List Value).toArray below meth c H locs cells slots Q (F0 m 44 ls []) := by
    intro n
    induction n with
    | zero =>
      intro v0 v1 v2 v3 σ H locs cells slots ls hD hl hf
      rw [f_X6_pack_L44] at hf
      cases hf
    | succ n ih =>
      intro v0 v1 v2 v3 σ H locs cells slots ls hD hl hf
      rw [f_X6_pack_L44] at hf
      refine lv_iload_n hx hb dX6_pack_44 rfl (lv_at hl 3 rfl) ?_
      refine hw_aload_n (r := v0) hx hb dX6_pack_45 rfl (lv_at hl 0 rfl) ?_
      obtain ⟨x9, hv, hf⟩ := ob_s hf
      refine hw_gi (C := RX6) (T := TX6) (N := 23) (ref := "SolidGroupsModel") S hKn hD hv rfl (by decide) (by decide) rfl inX6 wd4 (fun _ h9 => h9) dX6_pack_46 ?_
      refine lv_icmp_ge (tgt := 85) hx hb dX6_pack_49 (by decide) (fun hc => ?_) (fun hc => ?_)
      · rw [if_pos hc] at hf
        refine lv_iconst (v := (0)) hx hb dX6_pack_85 (by decide) ?_
        refine hs_istore_n (i := 3) (lv' := [(3, .int ((0 : Int32))), (0, va_rf (v0)), (1, .int (v1)), (2, .int (v2))]) hx hb dX6_pack_86 rfl hl (by decide) (st_okR (st_okI (st_okI (st_okI st_ok0)))) rfl (fun ls hl => ?_)
        exact hL87 _ v0 v1 v2 (0 : Int32) _ _ _ _ _ _ hD (lv_sub hl [1, 2, 3, 0] rfl) hf
      · rw [if_neg hc] at hf
        refine lv_iconst (v := (0)) hx hb dX6_pack_52 (by decide) ?_
        refine hs_istore (i := 4) (lv' := [(4, .int ((0 : Int32))), (0, va_rf (v0)), (1, .int (v1)), (2, .int (v2)), (3, .int (v3))]) hx hb dX6_pack_53 hl (by decide) (st_okR (st_okI (st_okI (st_okI st_ok0)))) rfl (fun ls hl => ?_)
        exact hL55 _ ih _ v0 v1 v2 v3 (0 : Int32) _ _ _ _ _ _ hD (lv_sub hl [1, 2, 3, 4, 0] rfl) hf
  have hl : lv_has ls 5 [(0, va_rf (some a0)), (1, .int (p1)), (2, .int (p2))] := hl
  unfold g_X6_pack at hf
  refine lv_iload_n hx hb dX6_pack_0 rfl (lv_at hl 1 rfl) ?_
  refine lv_iconst (v := (1)) hx hb dX6_pack_1 (by decide) ?_
  refine lv_sipush (v := (400)) hx hb dX6_pack_2 (by decide) ?_
  obtain ⟨r1, s2, hv, hf⟩ := ob_p hf
  refine hw_S (As := [.int (p1), .int ((1 : Int32)), .int ((400 : Int32))]) (rest := []) S hKn hRm hD (c_X6_isIn l D G base E hv) (mo_X6_isIn hv) gX6_pack_X6_isIn rfl 3 (by decide +kernel) ⟨by rw [hfr]; decide, by rw [hlo]; decide⟩ rfl hl.1 (Nat.le_trans cs_0 (by decide)) rfl dX6_pack_5 (fun H locs cells slots hD => ?_)
  refine W.eq (g2 := F0 m 8 ls [.int (r1)]) rfl ?_
  refine lv_if_eq (tgt := 20) hx hb dX6_pack_8 (by decide) (fun hc => ?_) (fun hc => ?_)
  · rw [if_pos hc] at hf
    exact hB20 _ _ _ _ _ _ hD (lv_sub hl [] rfl) hf
  · rw [if_neg hc] at hf
    refine lv_iload_n hx hb dX6_pack_11 rfl (lv_at hl 2 rfl) ?_
    refine lv_iconst (v := (0)) hx hb dX6_pack_12 (by decide) ?_
    refine lv_iconst (v := (2)) hx hb dX6_pack_13 (by decide) ?_
    obtain ⟨r3, s4, hv, hf⟩ := ob_p hf
    refine hw_S (As := [.int (p2), .int ((0 : Int32)), .int ((2 : Int32))]) (rest := []) S hKn hRm hD (c_X6_isIn l D G base E hv) (mo_X6_isIn hv) gX6_pack_X6_isIn rfl 3 (by decide +kernel) ⟨by rw [hfr]; decide, by rw [hlo]; decide⟩ rfl hl.1 (Nat.le_trans cs_0 (by decide)) rfl dX6_pack_14 (fun H locs cells slots hD => ?_)
    refine W.eq (g2 := F0 m 17 ls [.int (r3)]) rfl ?_
    refine lv_if_ne (tgt := 22) hx hb dX6_pack_17 (by decide) (fun hc => ?_) (fun hc => ?_)
    · rw [if_neg hc] at hf
      refine hw_aload_n (r := (some a0)) hx hb dX6_pack_22 rfl (lv_at hl 0 rfl) ?_
      refine lv_iconst (v := (1)) hx hb dX6_pack_23 (by decide) ?_
      obtain ⟨s5, hv, hf⟩ := ob_s hf
      refine hw_pi (C := RX6) (T := TX6) (N := 23) (ref := "SolidGroupsModel") S hKn hD hv rfl (by decide) (by decide) rfl inX6 tyX6 tyX6_ok nmX6 wd0 (fun _ h9 => h9) rfl (by first | rfl | decide) (by first | rfl | decide) dX6_pack_24 (fun H locs hD => ?_)
      refine hw_aload_n (r := (some a0)) hx hb dX6_pack_27 rfl (lv_at hl 0 rfl) ?_
      refine lv_iload_n hx hb dX6_pack_28 rfl (lv_at hl 1 rfl) ?_
      obtain ⟨s6, hv, hf⟩ := ob_s hf
      refine hw_pi (C := RX6) (T := TX6) (N := 23) (ref := "SolidGroupsModel") S hKn hD hv rfl (by decide) (by decide) rfl inX6 tyX6 tyX6_ok nmX6 wd1 (fun _ h9 => h9) rfl (by first | rfl | decide) (by first | rfl | decide) dX6_pack_29 (fun H locs hD => ?_)
      refine hw_aload_n (r := (some a0)) hx hb dX6_pack_32 rfl (lv_at hl 0 rfl) ?_
      refine lv_iconst (v := (0)) hx hb dX6_pack_33 (by decide) ?_
      obtain ⟨s7, hv, hf⟩ := ob_s hf
      refine hw_pi (C := RX6) (T := TX6) (N := 23) (ref := "SolidGroupsModel") S hKn hD hv rfl (by decide) (by decide) rfl inX6 tyX6 tyX6_ok nmX6 wd2 (fun _ h9 => h9) rfl (by first | rfl | decide) (by first | rfl | decide) dX6_pack_34 (fun H locs hD => ?_)
      refine hw_aload_n (r := (some a0)) hx hb dX6_pack_37 rfl (lv_at hl 0 rfl) ?_
      refine lv_iconst (v := (0)) hx hb dX6_pack_38 (by decide) ?_
      obtain ⟨s8, hv, hf⟩ := ob_s hf
      refine hw_pi (C := RX6) (T := TX6) (N := 23) (ref := "SolidGroupsModel") S hKn hD hv rfl (by decide) (by decide) rfl inX6 tyX6 tyX6_ok nmX6 wd3 (fun _ h9 => h9) rfl (by first | rfl | decide) (by first | rfl | decide) dX6_pack_39 (fun H locs hD => ?_)
      refine lv_iconst (v := (0)) hx hb dX6_pack_42 (by decide) ?_
      refine hs_istore_n (i := 3) (lv' := [(3, .int ((0 : Int32))), (0, va_rf ((some a0))), (1, .int (p1)), (2, .int (p2))]) hx hb dX6_pack_43 rfl hl (by decide) (st_okR (st_okI (st_okI st_ok0))) rfl (fun ls hl => ?_)
      exact hL44 _ (some a0) p1 p2 (0 : Int32) _ _ _ _ _ _ hD (lv_sub hl [1, 2, 3, 0] rfl) hf
    · rw [if_pos hc] at hf
      exact hB20 _ _ _ _ _ _ hD (lv_sub hl [] rfl) hf
