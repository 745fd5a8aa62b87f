set_option maxHeartbeats 4000000 in
set_option maxRecDepth 100000 in
theorem c_X5_count (l : Launch) (D : va_G) (G : GC) (base : Nat) (E : PE) {a0 : Nat} {p1 : Int32} {σ0 τ : PS} {rv : Int32} (hF : f_X5_count E (some a0) p1 σ0 = some (rv, τ)) : Ct l D G base E yX5_count wsX5_count 3 64 ([.ref a0, .int (p1)] : List Value) σ0 (some (.int rv)) τ := by
  obtain ⟨hf, hmo⟩ := oM_of hF
  refine Ct.of (own := RX5) [1, 1] (by decide) rfl rfl hmo (ct_R (ct_I ct_0)) (by decide) ?_
  intro p e s m below meth c R Q ls H locs cells slots S hKn hRm hfr hlo hlk hret hnm hQ hD hl
  have hx := S.1
  have hb := S.2.1
  have hts := S.2.2.2.2
  have inX5 : ∀ w ∈ u_ws RX5 TX5 8, w ∈ wsX5_count := by decide +kernel
  have inX2 : ∀ w ∈ u_ws RX2 TX2 4, w ∈ wsX5_count := by decide +kernel
  have inX4 : ∀ w ∈ u_ws RX4 TX4 5, w ∈ wsX5_count := by decide +kernel
  have wd0 := hts (.fieldLink RX5 39 "SolidGroups" "packed" "Z") (by decide +kernel)
  have wd1 := hts (.fieldLink RX5 16 "SolidGroups" "groups" "Ljava/util/ArrayList;") (by decide +kernel)
  have wd2 := hts (.fieldLink RX5 10 "SolidGroups" "entries" "Ljava/util/ArrayList;") (by decide +kernel)
  have wd3 := hts (.classLink RX5 110 RX2) (by decide +kernel)
  have wd4 := hts (.fieldLink RX5 133 "SolidGroups$Group" "members" "Ljava/util/ArrayList;") (by decide +kernel)
  have wd5 := hts (.fieldLink RX5 153 "SolidGroups$Group" "row" "LSolidGroups$TokenRow;") (by decide +kernel)
  have wd6 := hts (.fieldLink RX5 174 "SolidGroups$TokenRow" "size" "I") (by decide +kernel)
  have hB9 : ∀ (σ : PS) (H : Heap) (locs : List Loc) (cells slots : Nat) (ls : Array Slot), Dy D G base E s.heap σ0 σ H locs cells slots → lv_has ls 5 [] → f_X5_count_B9 E σ = some (rv, τ) → W p l e R s m ([.ref a0, .int (p1)] : List Value).toArray below meth c H locs cells slots Q (F0 m 9 ls []) := by
    intro σ H locs cells slots ls hD hl hf
    unfold f_X5_count_B9 at hf
    refine lv_iconst (v := (-1)) hx hb dX5_count_9 (by decide) ?_
    obtain ⟨e1, e2⟩ := ret_eq hf
    rw [hQ, ← e1, ← e2]
    exact hw_iret S hlk hret rfl hD dX5_count_10
  have hB123 : ∀ (w0 : Int32) (σ : PS) (H : Heap) (locs : List Loc) (cells slots : Nat) (ls : Array Slot), Dy D G base E s.heap σ0 σ H locs cells slots → lv_has ls 5 [] → f_X5_count_B123 E w0 σ = some (rv, τ) → W p l e R s m ([.ref a0, .int (p1)] : List Value).toArray below meth c H locs cells slots Q (F0 m 123 ls [.int (w0)]) := by
    intro w0 σ H locs cells slots ls hD hl hf
    unfold f_X5_count_B123 at hf
    obtain ⟨e1, e2⟩ := ret_eq hf
    rw [hQ, ← e1, ← e2]
    exact hw_iret S hlk hret rfl hD dX5_count_123
  have hL53 : ∀ (n : Nat), ∀ (v0 : Option Nat) (v1 : Int32) (v2 : Int32) (v3 : Int32) (v4 : Int32) (σ : PS) (H : Heap) (locs : List Loc) (cells slots : Nat) (ls : Array Slot), Dy D G base E s.heap σ0 σ H locs cells slots → lv_has ls 5 [(0, va_rf (v0)), (1, .int (v1)), (2, .int (v2)), (3, .int (v3)), (4, .int (v4))] → f_X5_count_L53 E n v0 v1 v2 v3 v4 σ = some (rv, τ) → W p l e R s m ([.ref a0, .int (p1)] : List Value).toArray below meth c H locs cells slots Q (F0 m 53 ls []) := by
    intro n
    induction n with
    | zero =>
      intro v0 v1 v2 v3 v4 σ H locs cells slots ls hD hl hf
      rw [f_X5_count_L53] at hf
      cases hf
    | succ n ih =>
      intro v0 v1 v2 v3 v4 σ H locs cells slots ls hD hl hf
      rw [f_X5_count_L53] at hf
      refine lv_iload hx hb dX5_count_53 (lv_at hl 4 rfl) ?_
      refine hw_aload_n (r := v0) hx hb dX5_count_55 rfl (lv_at hl 0 rfl) ?_
      obtain ⟨x10, hv, hf⟩ := ob_s hf
      refine hw_gr (C := RX5) (T := TX5) (N := 8) (ref := "SolidGroups") S hKn hD hv rfl (by decide) (by decide) rfl inX5 wd1 (fun _ h9 => h9) dX5_count_56 ?_
      obtain ⟨b13, hv, hf⟩ := ob_s hf
      obtain ⟨e9, hk9⟩ := oK_of hv
      cases e9
      obtain ⟨r11, s12, hv, hf⟩ := ob_p hf
      refine hw_V (b := b13) (ci := 0) (T := TJx4a65c) (N := 3) (As := []) (rest := [.int (v4)]) S hKn hRm hD (c_Jx4a65c_size_8abf5 l D G base E hv) (mo_Jx4a65c_size_8abf5 hv) hk9 rfl (by decide) gX5_count_Jx4a65c_size_8abf5 rfl 0 (by decide +kernel) ⟨by rw [hfr]; decide, by rw [hlo]; decide⟩ rfl hl.1 (Nat.le_trans (cs_I cs_0) (by decide)) rfl dX5_count_59 (fun H locs cells slots hD => ?_)
      refine W.eq (g2 := F0 m 62 ls [.int (r11), .int (v4)]) rfl ?_
      refine lv_icmp_ge (tgt := 113) hx hb dX5_count_62 (by decide) (fun hc => ?_) (fun hc => ?_)
      · rw [if_pos hc] at hf
        refine lv_iload_n hx hb dX5_count_113 rfl (lv_at hl 1 rfl) ?_
        refine lv_iconst (v := (1)) hx hb dX5_count_114 (by decide) ?_
        refine lv_icmp_ne (tgt := 122) hx hb dX5_count_115 (by decide) (fun hc => ?_) (fun hc => ?_)
        · rw [if_neg hc] at hf
          refine lv_iload_n hx hb dX5_count_122 rfl (lv_at hl 3 rfl) ?_
          exact hB123 v3 _ _ _ _ _ _ hD (lv_sub hl [] rfl) hf
        · rw [if_pos hc] at hf
          refine lv_iload_n hx hb dX5_count_118 rfl (lv_at hl 2 rfl) ?_
          refine lv_goto (tgt := 123) hx hb dX5_count_119 (by decide) ?_
          exact hB123 v2 _ _ _ _ _ _ hD (lv_sub hl [] rfl) hf
      · rw [if_neg hc] at hf
        refine lv_iload_n hx hb dX5_count_65 rfl (lv_at hl 2 rfl) ?_
        refine hw_aload_n (r := v0) hx hb dX5_count_66 rfl (lv_at hl 0 rfl) ?_
        obtain ⟨x14, hv, hf⟩ := ob_s hf
        refine hw_gr (C := RX5) (T := TX5) (N := 8) (ref := "SolidGroups") S hKn hD hv rfl (by decide) (by decide) rfl inX5 wd1 (fun _ h9 => h9) dX5_count_67 ?_
        refine lv_iload hx hb dX5_count_70 (lv_at hl 4 rfl) ?_
        obtain ⟨b17, hv, hf⟩ := ob_s hf
        obtain ⟨e9, hk9⟩ := oK_of hv
        cases e9
        obtain ⟨r15, s16, hv, hf⟩ := ob_p hf
        refine hw_V (b := b17) (ci := 0) (T := TJx4a65c) (N := 3) (As := [.int (v4)]) (rest := [.int (v2)]) S hKn hRm hD (c_Jx4a65c_get_915e3 l D G base E hv) (mo_Jx4a65c_get_915e3 hv) hk9 rfl (by decide) gX5_count_Jx4a65c_get_915e3 rfl 1 (by decide +kernel) ⟨by rw [hfr]; decide, by rw [hlo]; decide⟩ rfl hl.1 (Nat.le_trans (cs_I cs_0) (by decide)) rfl dX5_count_72 (fun H locs cells slots hD => ?_)
        refine W.eq (g2 := F0 m 75 ls [va_rf (r15), .int (v2)]) rfl ?_
        obtain ⟨u18, hv, hf⟩ := ob_s hf
        refine hw_ca (C := RX2) (T := TX2) (N := 4) S hKn hD hv rfl (by decide) wd3 dX5_count_75 ?_
        obtain ⟨x19, hv, hf⟩ := ob_s hf
        refine hw_gr (C := RX2) (T := TX2) (N := 4) (ref := "SolidGroups$Group") S hKn hD hv rfl (by decide) (by decide) rfl inX2 wd4 (fun _ h9 => h9) dX5_count_78 ?_
        obtain ⟨b22, hv, hf⟩ := ob_s hf
        obtain ⟨e9, hk9⟩ := oK_of hv
        cases e9
        obtain ⟨r20, s21, hv, hf⟩ := ob_p hf
        refine hw_V (b := b22) (ci := 0) (T := TJx4a65c) (N := 3) (As := []) (rest := [.int (v2)]) S hKn hRm hD (c_Jx4a65c_size_8abf5 l D G base E hv) (mo_Jx4a65c_size_8abf5 hv) hk9 rfl (by decide) gX5_count_Jx4a65c_size_8abf5 rfl 0 (by decide +kernel) ⟨by rw [hfr]; decide, by rw [hlo]; decide⟩ rfl hl.1 (Nat.le_trans (cs_I cs_0) (by decide)) rfl dX5_count_81 (fun H locs cells slots hD => ?_)
        refine W.eq (g2 := F0 m 84 ls [.int (r20), .int (v2)]) rfl ?_
        refine lv_iadd hx hb dX5_count_84 ?_
        refine hs_istore_n (i := 2) (lv' := [(2, .int (v2 + r20)), (0, va_rf (v0)), (1, .int (v1)), (3, .int (v3)), (4, .int (v4))]) hx hb dX5_count_85 rfl hl (by decide) (st_okR (st_okI (st_okI (st_okI (st_okI st_ok0))))) rfl (fun ls hl => ?_)
        refine lv_iload_n hx hb dX5_count_86 rfl (lv_at hl 3 rfl) ?_
        refine hw_aload_n (r := v0) hx hb dX5_count_87 rfl (lv_at hl 1 rfl) ?_
        obtain ⟨x23, hv, hf⟩ := ob_s hf
        refine hw_gr (C := RX5) (T := TX5) (N := 8) (ref := "SolidGroups") S hKn hD hv rfl (by decide) (by decide) rfl inX5 wd1 (fun _ h9 => h9) dX5_count_88 ?_
        refine lv_iload hx hb dX5_count_91 (lv_at hl 4 rfl) ?_
        obtain ⟨b26, hv, hf⟩ := ob_s hf
        obtain ⟨e9, hk9⟩ := oK_of hv
        cases e9
        obtain ⟨r24, s25, hv, hf⟩ := ob_p hf
        refine hw_V (b := b26) (ci := 0) (T := TJx4a65c) (N := 3) (As := [.int (v4)]) (rest := [.int (v3)]) S hKn hRm hD (c_Jx4a65c_get_915e3 l D G base E hv) (mo_Jx4a65c_get_915e3 hv) hk9 rfl (by decide) gX5_count_Jx4a65c_get_915e3 rfl 1 (by decide +kernel) ⟨by rw [hfr]; decide, by rw [hlo]; decide⟩ rfl hl.1 (Nat.le_trans (cs_I cs_0) (by decide)) rfl dX5_count_93 (fun H locs cells slots hD => ?_)
        refine W.eq (g2 := F0 m 96 ls [va_rf (r24), .int (v3)]) rfl ?_
        obtain ⟨u27, hv, hf⟩ := ob_s hf
        refine hw_ca (C := RX2) (T := TX2) (N := 4) S hKn hD hv rfl (by decide) wd3 dX5_count_96 ?_
        obtain ⟨x28, hv, hf⟩ := ob_s hf
        refine hw_gr (C := RX2) (T := TX2) (N := 4) (ref := "SolidGroups$Group") S hKn hD hv rfl (by decide) (by decide) rfl inX2 wd5 (fun _ h9 => h9) dX5_count_99 ?_
        obtain ⟨x29, hv, hf⟩ := ob_s hf
        refine hw_gi (C := RX4) (T := TX4) (N := 5) (ref := "SolidGroups$TokenRow") S hKn hD hv rfl (by decide) (by decide) rfl inX4 wd6 (fun _ h9 => h9) dX5_count_102 ?_
        refine lv_iadd hx hb dX5_count_105 ?_
        refine hs_istore_n (i := 3) (lv' := [(3, .int (v3 + x29)), (2, .int (v2 + r20)), (0, va_rf (v0)), (1, .int (v1)), (4, .int (v4))]) hx hb dX5_count_106 rfl hl (by decide) (st_okI (st_okR (st_okI (st_okI (st_okI st_ok0))))) rfl (fun ls hl => ?_)
        refine hs_iinc (i := 4) (k := 4) (v := v4 + 1) (lv' := [(4, .int (v4 + 1)), (3, .int (v3 + x29)), (2, .int (v2 + r20)), (0, va_rf (v0)), (1, .int (v1))]) hx hb dX5_count_107 hl rfl (congrArg (fun z => v4 + z) (by decide)) (by decide) (st_okI (st_okI (st_okR (st_okI (st_okI st_ok0))))) rfl (fun ls hl => ?_)
        refine lv_goto (tgt := 53) hx hb dX5_count_110 (by decide) ?_
        exact ih v0 v1 (v2 + r20) (v3 + x29) (v4 + 1) _ _ _ _ _ _ hD (lv_sub hl [3, 4, 2, 1, 0] rfl) hf
  have hl : lv_has ls 5 [(0, va_rf (some a0)), (1, .int (p1))] := hl
  unfold g_X5_count at hf
  refine lv_iload_n hx hb dX5_count_0 rfl (lv_at hl 1 rfl) ?_
  refine lv_if_lt (tgt := 9) hx hb dX5_count_1 (by decide) (fun hc => ?_) (fun hc => ?_)
  · rw [if_pos hc] at hf
    exact hB9 _ _ _ _ _ _ hD (lv_sub hl [] rfl) hf
  · rw [if_neg hc] at hf
    refine lv_iload_n hx hb dX5_count_4 rfl (lv_at hl 1 rfl) ?_
    refine lv_iconst (v := (3)) hx hb dX5_count_5 (by decide) ?_
    refine lv_icmp_le (tgt := 11) hx hb dX5_count_6 (by decide) (fun hc => ?_) (fun hc => ?_)
    · rw [if_pos hc] at hf
      refine lv_iload_n hx hb dX5_count_11 rfl (lv_at hl 1 rfl) ?_
      refine lv_if_ne (tgt := 23) hx hb dX5_count_12 (by decide) (fun hc => ?_) (fun hc => ?_)
      · rw [if_neg hc] at hf
        refine hw_aload_n (r := (some a0)) hx hb dX5_count_23 rfl (lv_at hl 0 rfl) ?_
        obtain ⟨x1, hv, hf⟩ := ob_s hf
        refine hw_gi (C := RX5) (T := TX5) (N := 8) (ref := "SolidGroups") S hKn hD hv rfl (by decide) (by decide) rfl inX5 wd0 (fun _ h9 => h9) dX5_count_24 ?_
        refine lv_if_ne (tgt := 33) hx hb dX5_count_27 (by decide) (fun hc => ?_) (fun hc => ?_)
        · rw [if_neg hc] at hf
          refine lv_iload_n hx hb dX5_count_33 rfl (lv_at hl 1 rfl) ?_
          refine lv_iconst (v := (2)) hx hb dX5_count_34 (by decide) ?_
          refine lv_icmp_ne (tgt := 46) hx hb dX5_count_35 (by decide) (fun hc => ?_) (fun hc => ?_)
          · rw [if_neg hc] at hf
            refine lv_iconst (v := (0)) hx hb dX5_count_46 (by decide) ?_
            refine hs_istore_n (i := 2) (lv' := [(2, .int ((0 : Int32))), (0, va_rf ((some a0))), (1, .int (p1))]) hx hb dX5_count_47 rfl hl (by decide) (st_okR (st_okI st_ok0)) rfl (fun ls hl => ?_)
            refine lv_iconst (v := (0)) hx hb dX5_count_48 (by decide) ?_
            refine hs_istore_n (i := 3) (lv' := [(3, .int ((0 : Int32))), (2, .int ((0 : Int32))), (0, va_rf ((some a0))), (1, .int (p1))]) hx hb dX5_count_49 rfl hl (by decide) (st_okI (st_okR (st_okI st_ok0))) rfl (fun ls hl => ?_)
            refine lv_iconst (v := (0)) hx hb dX5_count_50 (by decide) ?_
            refine hs_istore (i := 4) (lv' := [(4, .int ((0 : Int32))), (3, .int ((0 : Int32))), (2, .int ((0 : Int32))), (0, va_rf ((some a0))), (1, .int (p1))]) hx hb dX5_count_51 hl (by decide) (st_okI (st_okI (st_okR (st_okI st_ok0)))) rfl (fun ls hl => ?_)
            exact hL53 _ (some a0) p1 (0 : Int32) (0 : Int32) (0 : Int32) _ _ _ _ _ _ hD (lv_sub hl [3, 4, 2, 1, 0] rfl) hf
          · rw [if_pos hc] at hf
            refine hw_aload_n (r := (some a0)) hx hb dX5_count_38 rfl (lv_at hl 0 rfl) ?_
            obtain ⟨x2, hv, hf⟩ := ob_s hf
            refine hw_gr (C := RX5) (T := TX5) (N := 8) (ref := "SolidGroups") S hKn hD hv rfl (by decide) (by decide) rfl inX5 wd1 (fun _ h9 => h9) dX5_count_39 ?_
            obtain ⟨b5, hv, hf⟩ := ob_s hf
            obtain ⟨e9, hk9⟩ := oK_of hv
            cases e9
            obtain ⟨r3, s4, hv, hf⟩ := ob_p hf
            refine hw_V (b := b5) (ci := 0) (T := TJx4a65c) (N := 3) (As := []) (rest := []) S hKn hRm hD (c_Jx4a65c_size_8abf5 l D G base E hv) (mo_Jx4a65c_size_8abf5 hv) hk9 rfl (by decide) gX5_count_Jx4a65c_size_8abf5 rfl 0 (by decide +kernel) ⟨by rw [hfr]; decide, by rw [hlo]; decide⟩ rfl hl.1 (Nat.le_trans cs_0 (by decide)) rfl dX5_count_42 (fun H locs cells slots hD => ?_)
            refine W.eq (g2 := F0 m 45 ls [.int (r3)]) rfl ?_
            obtain ⟨e1, e2⟩ := ret_eq hf
            rw [hQ, ← e1, ← e2]
            exact hw_iret S hlk hret rfl hD dX5_count_45
        · rw [if_pos hc] at hf
          refine lv_bipush (v := (-2)) hx hb dX5_count_30 (by decide) ?_
          obtain ⟨e1, e2⟩ := ret_eq hf
          rw [hQ, ← e1, ← e2]
          exact hw_iret S hlk hret rfl hD dX5_count_32
      · rw [if_pos hc] at hf
        refine hw_aload_n (r := (some a0)) hx hb dX5_count_15 rfl (lv_at hl 0 rfl) ?_
        obtain ⟨x6, hv, hf⟩ := ob_s hf
        refine hw_gr (C := RX5) (T := TX5) (N := 8) (ref := "SolidGroups") S hKn hD hv rfl (by decide) (by decide) rfl inX5 wd2 (fun _ h9 => h9) dX5_count_16 ?_
        obtain ⟨b9, hv, hf⟩ := ob_s hf
        obtain ⟨e9, hk9⟩ := oK_of hv
        cases e9
        obtain ⟨r7, s8, hv, hf⟩ := ob_p hf
        refine hw_V (b := b9) (ci := 0) (T := TJx4a65c) (N := 3) (As := []) (rest := []) S hKn hRm hD (c_Jx4a65c_size_8abf5 l D G base E hv) (mo_Jx4a65c_size_8abf5 hv) hk9 rfl (by decide) gX5_count_Jx4a65c_size_8abf5 rfl 0 (by decide +kernel) ⟨by rw [hfr]; decide, by rw [hlo]; decide⟩ rfl hl.1 (Nat.le_trans cs_0 (by decide)) rfl dX5_count_19 (fun H locs cells slots hD => ?_)
        refine W.eq (g2 := F0 m 22 ls [.int (r7)]) rfl ?_
        obtain ⟨e1, e2⟩ := ret_eq hf
        rw [hQ, ← e1, ← e2]
        exact hw_iret S hlk hret rfl hD dX5_count_22
    · rw [if_neg hc] at hf
      exact hB9 _ _ _ _ _ _ hD (lv_sub hl [] rfl) hf
set_option maxHeartbeats 4000000 in
set_option maxRecDepth 100000 in
theorem c_X6_init (l : Launch) (D : va_G) (G : GC) (base : Nat) (E : PE) {a0 : Nat} {σ0 τ : PS} {rv : Unit} (hF : f_X6_init E (some a0) σ0 = some (rv, τ)) : Ct l D G base E yX6_init wsX6_init 1 60 ([.ref a0] : List Value) σ0 none τ := by
  obtain ⟨hf, hmo⟩ := oM_of hF
  refine Ct.of (own := RX6) [1] (by decide) rfl rfl hmo (ct_R ct_0) (by decide) ?_
  intro p e s m below meth c R Q ls H locs cells slots S hKn hRm hfr hlo hlk hret hnm hQ hD hl
  have hx := S.1
  have hb := S.2.1
  have hts := S.2.2.2.2
  have inX6 : ∀ w ∈ u_ws RX6 TX6 23, w ∈ wsX6_init := by decide +kernel
  have wd0 := hts (.methodLink RX6 1 objectInit) (by decide +kernel)
  have wd1 := hts (.instanceMethod objectInit) (by decide +kernel)
  have wd2 := hts (.code objectInit ⟨#[0xb1]⟩ 1 none) (by decide +kernel)
  have wd3 := hts (.arrayClass .int) (by decide +kernel)
  have wd4 := hts (.fieldLink RX6 7 "SolidGroupsModel" "kinds" "[I") (by decide +kernel)
  have wd5 := hts (.fieldLink RX6 13 "SolidGroupsModel" "sizes" "[I") (by decide +kernel)
  have wd6 := hts (.fieldLink RX6 16 "SolidGroupsModel" "bytes" "[I") (by decide +kernel)
  have wd7 := hts (.fieldLink RX6 19 "SolidGroupsModel" "twins" "[I") (by decide +kernel)
  have wd8 := hts (.fieldLink RX6 22 "SolidGroupsModel" "order" "[I") (by decide +kernel)
  have wd9 := hts (.fieldLink RX6 25 "SolidGroupsModel" "groupAt" "[I") (by decide +kernel)
  have wd10 := hts (.fieldLink RX6 28 "SolidGroupsModel" "groupKind" "[I") (by decide +kernel)
  have wd11 := hts (.fieldLink RX6 31 "SolidGroupsModel" "anew" "[I") (by decide +kernel)
  have wd12 := hts (.fieldLink RX6 34 "SolidGroupsModel" "tokenMany" "[I") (by decide +kernel)
  have wd13 := hts (.constant RX6 37 (162000)) (by decide +kernel)
  have wd14 := hts (.fieldLink RX6 38 "SolidGroupsModel" "tokens" "[I") (by decide +kernel)
  have wd15 := hts (.fieldLink RX6 41 "SolidGroupsModel" "marksA" "[I") (by decide +kernel)
  have wd16 := hts (.fieldLink RX6 44 "SolidGroupsModel" "marksB" "[I") (by decide +kernel)
  have wd17 := hts (.fieldLink RX6 47 "SolidGroupsModel" "row" "[I") (by decide +kernel)
  have wd18 := hts (.fieldLink RX6 50 "SolidGroupsModel" "best" "[I") (by decide +kernel)
  have wd19 := hts (.fieldLink RX6 53 "SolidGroupsModel" "all" "[I") (by decide +kernel)
  have hl : lv_has ls 1 [(0, va_rf (some a0))] := hl
  unfold g_X6_init at hf
  refine hw_aload_n (r := (some a0)) hx hb dX6_init_0 rfl (lv_at hl 0 rfl) ?_
  obtain ⟨b1, hv, hf⟩ := ob_s hf
  obtain ⟨e9, hk9⟩ := oK_of hv
  cases e9
  refine W.objInit hx hb S.2.2.2.1 wd0 wd1 wd2 rfl (hl.1.trans S.2.2.1.symm) rfl dX6_init_1 (by rw [hfr]; decide) (by rw [hlo]; show 2 * 0 + _ + 12 ≤ _; exact Nat.le_trans (Nat.add_le_add_right (Nat.add_le_add_left cs_0 (2 * 0)) 12) (by decide)) ?_
  refine W.eq (g2 := F0 m 4 ls []) rfl ?_
  refine hw_aload_n (r := (some a0)) hx hb dX6_init_4 rfl (lv_at hl 0 rfl) ?_
  refine lv_bipush (v := (30)) hx hb dX6_init_5 (by decide) ?_
  obtain ⟨x2, s3, hv, hf⟩ := ob_p hf
  refine hw_nai S hKn hRm hD hv wd3 dX6_init_7 (fun H hD => ?_)
  generalize cells + 1 = cells, slots + Int32.toNatClampNeg (30 : Int32) = slots at hD ⊢
  obtain ⟨s4, hv, hf⟩ := ob_s hf
  refine hw_prF (C := RX6) (T := TX6) (N := 23) (ref := "SolidGroupsModel") S hKn hD hv rfl (by decide) (by decide) rfl inX6 tyX6 tyX6_ok nmX6 wd4 (fun _ h9 => h9) rfl hnm rfl (by first | rfl | (cases x2 <;> rfl)) (by first | rfl | (cases x2 <;> rfl)) dX6_init_9 (fun H locs hD => ?_)
  refine hw_aload_n (r := (some a0)) hx hb dX6_init_12 rfl (lv_at hl 0 rfl) ?_
  refine lv_bipush (v := (30)) hx hb dX6_init_13 (by decide) ?_
  obtain ⟨x5, s6, hv, hf⟩ := ob_p hf
  refine hw_nai S hKn hRm hD hv wd3 dX6_init_15 (fun H hD => ?_)
  generalize cells + 1 = cells, slots + Int32.toNatClampNeg (30 : Int32) = slots at hD ⊢
  obtain ⟨s7, hv, hf⟩ := ob_s hf
  refine hw_prF (C := RX6) (T := TX6) (N := 23) (ref := "SolidGroupsModel") S hKn hD hv rfl (by decide) (by decide) rfl inX6 tyX6 tyX6_ok nmX6 wd5 (fun _ h9 => h9) rfl hnm rfl (by first | rfl | (cases x5 <;> rfl)) (by first | rfl | (cases x5 <;> rfl)) dX6_init_17 (fun H locs hD => ?_)
  refine hw_aload_n (r := (some a0)) hx hb dX6_init_20 rfl (lv_at hl 0 rfl) ?_
  refine lv_sipush (v := (1800)) hx hb dX6_init_21 (by decide) ?_
  obtain ⟨x8, s9, hv, hf⟩ := ob_p hf
  refine hw_nai S hKn hRm hD hv wd3 dX6_init_24 (fun H hD => ?_)
  generalize cells + 1 = cells, slots + Int32.toNatClampNeg (1800 : Int32) = slots at hD ⊢
  obtain ⟨s10, hv, hf⟩ := ob_s hf
  refine hw_prF (C := RX6) (T := TX6) (N := 23) (ref := "SolidGroupsModel") S hKn hD hv rfl (by decide) (by decide) rfl inX6 tyX6 tyX6_ok nmX6 wd6 (fun _ h9 => h9) rfl hnm rfl (by first | rfl | (cases x8 <;> rfl)) (by first | rfl | (cases x8 <;> rfl)) dX6_init_26 (fun H locs hD => ?_)
  refine hw_aload_n (r := (some a0)) hx hb dX6_init_29 rfl (lv_at hl 0 rfl) ?_
  refine lv_bipush (v := (30)) hx hb dX6_init_30 (by decide) ?_
  obtain ⟨x11, s12, hv, hf⟩ := ob_p hf
  refine hw_nai S hKn hRm hD hv wd3 dX6_init_32 (fun H hD => ?_)
  generalize cells + 1 = cells, slots + Int32.toNatClampNeg (30 : Int32) = slots at hD ⊢
  obtain ⟨s13, hv, hf⟩ := ob_s hf
  refine hw_prF (C := RX6) (T := TX6) (N := 23) (ref := "SolidGroupsModel") S hKn hD hv rfl (by decide) (by decide) rfl inX6 tyX6 tyX6_ok nmX6 wd7 (fun _ h9 => h9) rfl hnm rfl (by first | rfl | (cases x11 <;> rfl)) (by first | rfl | (cases x11 <;> rfl)) dX6_init_34 (fun H locs hD => ?_)
  refine hw_aload_n (r := (some a0)) hx hb dX6_init_37 rfl (lv_at hl 0 rfl) ?_
  refine lv_bipush (v := (30)) hx hb dX6_init_38 (by decide) ?_
  obtain ⟨x14, s15, hv, hf⟩ := ob_p hf
  refine hw_nai S hKn hRm hD hv wd3 dX6_init_40 (fun H hD => ?_)
  generalize cells + 1 = cells, slots + Int32.toNatClampNeg (30 : Int32) = slots at hD ⊢
  obtain ⟨s16, hv, hf⟩ := ob_s hf
  refine hw_prF (C := RX6) (T := TX6) (N := 23) (ref := "SolidGroupsModel") S hKn hD hv rfl (by decide) (by decide) rfl inX6 tyX6 tyX6_ok nmX6 wd8 (fun _ h9 => h9) rfl hnm rfl (by first | rfl | (cases x14 <;> rfl)) (by first | rfl | (cases x14 <;> rfl)) dX6_init_42 (fun H locs hD => ?_)
  refine hw_aload_n (r := (some a0)) hx hb dX6_init_45 rfl (lv_at hl 0 rfl) ?_
  refine lv_bipush (v := (30)) hx hb dX6_init_46 (by decide) ?_
  obtain ⟨x17, s18, hv, hf⟩ := ob_p hf
  refine hw_nai S hKn hRm hD hv wd3 dX6_init_48 (fun H hD => ?_)
  generalize cells + 1 = cells, slots + Int32.toNatClampNeg (30 : Int32) = slots at hD ⊢
  obtain ⟨s19, hv, hf⟩ := ob_s hf
  refine hw_prF (C := RX6) (T := TX6) (N := 23) (ref := "SolidGroupsModel") S hKn hD hv rfl (by decide) (by decide) rfl inX6 tyX6 tyX6_ok nmX6 wd9 (fun _ h9 => h9) rfl hnm rfl (by first | rfl | (cases x17 <;> rfl)) (by first | rfl | (cases x17 <;> rfl)) dX6_init_50 (fun H locs hD => ?_)
  refine hw_aload_n (r := (some a0)) hx hb dX6_init_53 rfl (lv_at hl 0 rfl) ?_
  refine lv_bipush (v := (30)) hx hb dX6_init_54 (by decide) ?_
  obtain ⟨x20, s21, hv, hf⟩ := ob_p hf
  refine hw_nai S hKn hRm hD hv wd3 dX6_init_56 (fun H hD => ?_)
  generalize cells + 1 = cells, slots + Int32.toNatClampNeg (30 : Int32) = slots at hD ⊢
  obtain ⟨s22, hv, hf⟩ := ob_s hf
  refine hw_prF (C := RX6) (T := TX6) (N := 23) (ref := "SolidGroupsModel") S hKn hD hv rfl (by decide) (by decide) rfl inX6 tyX6 tyX6_ok nmX6 wd10 (fun _ h9 => h9) rfl hnm rfl (by first | rfl | (cases x20 <;> rfl)) (by first | rfl | (cases x20 <;> rfl)) dX6_init_58 (fun H locs hD => ?_)
  refine hw_aload_n (r := (some a0)) hx hb dX6_init_61 rfl (lv_at hl 0 rfl) ?_
  refine lv_bipush (v := (30)) hx hb dX6_init_62 (by decide) ?_
  obtain ⟨x23, s24, hv, hf⟩ := ob_p hf
  refine hw_nai S hKn hRm hD hv wd3 dX6_init_64 (fun H hD => ?_)
  generalize cells + 1 = cells, slots + Int32.toNatClampNeg (30 : Int32) = slots at hD ⊢
  obtain ⟨s25, hv, hf⟩ := ob_s hf
  refine hw_prF (C := RX6) (T := TX6) (N := 23) (ref := "SolidGroupsModel") S hKn hD hv rfl (by decide) (by decide) rfl inX6 tyX6 tyX6_ok nmX6 wd11 (fun _ h9 => h9) rfl hnm rfl (by first | rfl | (cases x23 <;> rfl)) (by first | rfl | (cases x23 <;> rfl)) dX6_init_66 (fun H locs hD => ?_)
  refine hw_aload_n (r := (some a0)) hx hb dX6_init_69 rfl (lv_at hl 0 rfl) ?_
  refine lv_bipush (v := (30)) hx hb dX6_init_70 (by decide) ?_
  obtain ⟨x26, s27, hv, hf⟩ := ob_p hf
  refine hw_nai S hKn hRm hD hv wd3 dX6_init_72 (fun H hD => ?_)
  generalize cells + 1 = cells, slots + Int32.toNatClampNeg (30 : Int32) = slots at hD ⊢
  obtain ⟨s28, hv, hf⟩ := ob_s hf
  refine hw_prF (C := RX6) (T := TX6) (N := 23) (ref := "SolidGroupsModel") S hKn hD hv rfl (by decide) (by decide) rfl inX6 tyX6 tyX6_ok nmX6 wd12 (fun _ h9 => h9) rfl hnm rfl (by first | rfl | (cases x26 <;> rfl)) (by first | rfl | (cases x26 <;> rfl)) dX6_init_74 (fun H locs hD => ?_)
  refine hw_aload_n (r := (some a0)) hx hb dX6_init_77 rfl (lv_at hl 0 rfl) ?_
  refine lv_ldc (v := (162000)) hx hb S.2.2.2.1 wd13 dX6_init_78 ?_
  obtain ⟨x29, s30, hv, hf⟩ := ob_p hf
  refine hw_nai S hKn hRm hD hv wd3 dX6_init_80 (fun H hD => ?_)
  generalize cells + 1 = cells, slots + Int32.toNatClampNeg (162000 : Int32) = slots at hD ⊢
  obtain ⟨s31, hv, hf⟩ := ob_s hf
  refine hw_prF (C := RX6) (T := TX6) (N := 23) (ref := "SolidGroupsModel") S hKn hD hv rfl (by decide) (by decide) rfl inX6 tyX6 tyX6_ok nmX6 wd14 (fun _ h9 => h9) rfl hnm rfl (by first | rfl | (cases x29 <;> rfl)) (by first | rfl | (cases x29 <;> rfl)) dX6_init_82 (fun H locs hD => ?_)
  refine hw_aload_n (r := (some a0)) hx hb dX6_init_85 rfl (lv_at hl 0 rfl) ?_
  refine lv_bipush (v := (32)) hx hb dX6_init_86 (by decide) ?_
  obtain ⟨x32, s33, hv, hf⟩ := ob_p hf
  refine hw_nai S hKn hRm hD hv wd3 dX6_init_88 (fun H hD => ?_)
  generalize cells + 1 = cells, slots + Int32.toNatClampNeg (32 : Int32) = slots at hD ⊢
  obtain ⟨s34, hv, hf⟩ := ob_s hf
  refine hw_prF (C := RX6) (T := TX6) (N := 23) (ref := "SolidGroupsModel") S hKn hD hv rfl (by decide) (by decide) rfl inX6 tyX6 tyX6_ok nmX6 wd15 (fun _ h9 => h9) rfl hnm rfl (by first | rfl | (cases x32 <;> rfl)) (by first | rfl | (cases x32 <;> rfl)) dX6_init_90 (fun H locs hD => ?_)
  refine hw_aload_n (r := (some a0)) hx hb dX6_init_93 rfl (lv_at hl 0 rfl) ?_
  refine lv_bipush (v := (32)) hx hb dX6_init_94 (by decide) ?_
  obtain ⟨x35, s36, hv, hf⟩ := ob_p hf
  refine hw_nai S hKn hRm hD hv wd3 dX6_init_96 (fun H hD => ?_)
  generalize cells + 1 = cells, slots + Int32.toNatClampNeg (32 : Int32) = slots at hD ⊢
  obtain ⟨s37, hv, hf⟩ := ob_s hf
  refine hw_prF (C := RX6) (T := TX6) (N := 23) (ref := "SolidGroupsModel") S hKn hD hv rfl (by decide) (by decide) rfl inX6 tyX6 tyX6_ok nmX6 wd16 (fun _ h9 => h9) rfl hnm rfl (by first | rfl | (cases x35 <;> rfl)) (by first | rfl | (cases x35 <;> rfl)) dX6_init_98 (fun H locs hD => ?_)
  refine hw_aload_n (r := (some a0)) hx hb dX6_init_101 rfl (lv_at hl 0 rfl) ?_
  refine lv_bipush (v := (30)) hx hb dX6_init_102 (by decide) ?_
  obtain ⟨x38, s39, hv, hf⟩ := ob_p hf
  refine hw_nai S hKn hRm hD hv wd3 dX6_init_104 (fun H hD => ?_)
  generalize cells + 1 = cells, slots + Int32.toNatClampNeg (30 : Int32) = slots at hD ⊢
  obtain ⟨s40, hv, hf⟩ := ob_s hf
  refine hw_prF (C := RX6) (T := TX6) (N := 23) (ref := "SolidGroupsModel") S hKn hD hv rfl (by decide) (by decide) rfl inX6 tyX6 tyX6_ok nmX6 wd17 (fun _ h9 => h9) rfl hnm rfl (by first | rfl | (cases x38 <;> rfl)) (by first | rfl | (cases x38 <;> rfl)) dX6_init_106 (fun H locs hD => ?_)
  refine hw_aload_n (r := (some a0)) hx hb dX6_init_109 rfl (lv_at hl 0 rfl) ?_
  refine lv_bipush (v := (30)) hx hb dX6_init_110 (by decide) ?_
  obtain ⟨x41, s42, hv, hf⟩ := ob_p hf
  refine hw_nai S hKn hRm hD hv wd3 dX6_init_112 (fun H hD => ?_)
  generalize cells + 1 = cells, slots + Int32.toNatClampNeg (30 : Int32) = slots at hD ⊢
  obtain ⟨s43, hv, hf⟩ := ob_s hf
  refine hw_prF (C := RX6) (T := TX6) (N := 23) (ref := "SolidGroupsModel") S hKn hD hv rfl (by decide) (by decide) rfl inX6 tyX6 tyX6_ok nmX6 wd18 (fun _ h9 => h9) rfl hnm rfl (by first | rfl | (cases x41 <;> rfl)) (by first | rfl | (cases x41 <;> rfl)) dX6_init_114 (fun H locs hD => ?_)
  refine hw_aload_n (r := (some a0)) hx hb dX6_init_117 rfl (lv_at hl 0 rfl) ?_
  refine lv_sipush (v := (1800)) hx hb dX6_init_118 (by decide) ?_
  obtain ⟨x44, s45, hv, hf⟩ := ob_p hf
  refine hw_nai S hKn hRm hD hv wd3 dX6_init_121 (fun H hD => ?_)
  generalize cells + 1 = cells, slots + Int32.toNatClampNeg (1800 : Int32) = slots at hD ⊢
  obtain ⟨s46, hv, hf⟩ := ob_s hf
  refine hw_prF (C := RX6) (T := TX6) (N := 23) (ref := "SolidGroupsModel") S hKn hD hv rfl (by decide) (by decide) rfl inX6 tyX6 tyX6_ok nmX6 wd19 (fun _ h9 => h9) rfl hnm rfl (by first | rfl | (cases x44 <;> rfl)) (by first | rfl | (cases x44 <;> rfl)) dX6_init_123 (fun H locs hD => ?_)
  obtain ⟨-, e2⟩ := ret_eq hf
  rw [hQ, ← e2]
  exact hw_vret S hlk hret hD dX6_init_126
set_option maxHeartbeats 4000000 in
set_option maxRecDepth 100000 in
theorem c_X6_isIn (l : Launch) (D : va_G) (G : GC) (base : Nat) (E : PE) {p0 : Int32} {p1 : Int32} {p2 : Int32} {σ0 τ : PS} {rv : Int32} (hF : f_X6_isIn E p0 p1 p2 σ0 = some (rv, τ)) : Ct l D G base E yX6_isIn wsX6_isIn 0 0 ([.int (p0), .int (p1), .int (p2)] : List Value) σ0 (some (.int rv)) τ := by
  obtain ⟨hf, hmo⟩ := oM_of hF
  refine Ct.of (own := RX6) [1, 1, 1] (by decide) rfl rfl hmo (ct_I (ct_I (ct_I ct_0))) (by decide) ?_
  intro p e s m below meth c R Q ls H locs cells slots S hKn hRm hfr hlo hlk hret hnm hQ hD hl
  have hx := S.1
  have hb := S.2.1
  have hts := S.2.2.2.2
  have hB15 : ∀ (w0 : Int32) (σ : PS) (H : Heap) (locs : List Loc) (cells slots : Nat) (ls : Array Slot), Dy D G base E s.heap σ0 σ H locs cells slots → lv_has ls 3 [] → f_X6_isIn_B15 E w0 σ = some (rv, τ) → W p l e R s m ([.int (p0), .int (p1), .int (p2)] : List Value).toArray below meth c H locs cells slots Q (F0 m 15 ls [.int (w0)]) := by
    intro w0 σ H locs cells slots ls hD hl hf
    unfold f_X6_isIn_B15 at hf
    by_cases hz : w0 = 0 ∨ w0 = 1
    · rw [if_pos hz] at hf
      obtain ⟨e1, e2⟩ := ret_eq hf
      rw [hQ, ← e1, ← e2]
      exact hw_iret S hlk hret (nar_z hz) hD dX6_isIn_15
    · rw [if_neg hz] at hf
      cases hf
  have hB14 : ∀ (σ : PS) (H : Heap) (locs : List Loc) (cells slots : Nat) (ls : Array Slot), Dy D G base E s.heap σ0 σ H locs cells slots → lv_has ls 3 [] → f_X6_isIn_B14 E σ = some (rv, τ) → W p l e R s m ([.int (p0), .int (p1), .int (p2)] : List Value).toArray below meth c H locs cells slots Q (F0 m 14 ls []) := by
    intro σ H locs cells slots ls hD hl hf
    unfold f_X6_isIn_B14 at hf
    refine lv_iconst (v := (0)) hx hb dX6_isIn_14 (by decide) ?_
    exact hB15 (0 : Int32) _ _ _ _ _ _ hD (lv_sub hl [] rfl) hf
  have hl : lv_has ls 3 [(0, .int (p0)), (1, .int (p1)), (2, .int (p2))] := hl
  unfold g_X6_isIn at hf
  refine lv_iload_n hx hb dX6_isIn_0 rfl (lv_at hl 0 rfl) ?_
  refine lv_iload_n hx hb dX6_isIn_1 rfl (lv_at hl 1 rfl) ?_
  refine lv_icmp_lt (tgt := 14) hx hb dX6_isIn_2 (by decide) (fun hc => ?_) (fun hc => ?_)
  · rw [if_pos hc] at hf
    exact hB14 _ _ _ _ _ _ hD (lv_sub hl [] rfl) hf
  · rw [if_neg hc] at hf
    refine lv_iload_n hx hb dX6_isIn_5 rfl (lv_at hl 0 rfl) ?_
    refine lv_iload_n hx hb dX6_isIn_6 rfl (lv_at hl 2 rfl) ?_
    refine lv_icmp_gt (tgt := 14) hx hb dX6_isIn_7 (by decide) (fun hc => ?_) (fun hc => ?_)
    · rw [if_pos hc] at hf
      exact hB14 _ _ _ _ _ _ hD (lv_sub hl [] rfl) hf
    · rw [if_neg hc] at hf
      refine lv_iconst (v := (1)) hx hb dX6_isIn_10 (by decide) ?_
      refine lv_goto (tgt := 15) hx hb dX6_isIn_11 (by decide) ?_
      exact hB15 (1 : Int32) _ _ _ _ _ _ hD (lv_sub hl [] rfl) hf
set_option maxHeartbeats 4000000 in
set_option maxRecDepth 100000 in
theorem c_X6_size (l : Launch) (D : va_G) (G : GC) (base : Nat) (E : PE) {p0 : Int32} {σ0 τ : PS} {rv : Int32} (hF : f_X6_size E p0 σ0 = some (rv, τ)) : Ct l D G base E yX6_size wsX6_size 0 0 ([.int (p0)] : List Value) σ0 (some (.int rv)) τ := by
  obtain ⟨hf, hmo⟩ := oM_of hF
  refine Ct.of (own := RX6) [1] (by decide) rfl rfl hmo (ct_I ct_0) (by decide) ?_
  intro p e s m below meth c R Q ls H locs cells slots S hKn hRm hfr hlo hlk hret hnm hQ hD hl
  have hx := S.1
  have hb := S.2.1
  have hts := S.2.2.2.2
  have hB10 : ∀ (w0 : Int32) (σ : PS) (H : Heap) (locs : List Loc) (cells slots : Nat) (ls : Array Slot), Dy D G base E s.heap σ0 σ H locs cells slots → lv_has ls 1 [] → f_X6_size_B10 E w0 σ = some (rv, τ) → W p l e R s m ([.int (p0)] : List Value).toArray below meth c H locs cells slots Q (F0 m 10 ls [.int (w0)]) := by
    intro w0 σ H locs cells slots ls hD hl hf
    unfold f_X6_size_B10 at hf
    obtain ⟨e1, e2⟩ := ret_eq hf
    rw [hQ, ← e1, ← e2]
    exact hw_iret S hlk hret rfl hD dX6_size_10
  have hl : lv_has ls 1 [(0, .int (p0))] := hl
  unfold g_X6_size at hf
  refine lv_iload_n hx hb dX6_size_0 rfl (lv_at hl 0 rfl) ?_
  refine lv_if_ge (tgt := 9) hx hb dX6_size_1 (by decide) (fun hc => ?_) (fun hc => ?_)
  · rw [if_pos hc] at hf
    refine lv_iload_n hx hb dX6_size_9 rfl (lv_at hl 0 rfl) ?_
    exact hB10 p0 _ _ _ _ _ _ hD (lv_sub hl [] rfl) hf
  · rw [if_neg hc] at hf
    refine lv_iload_n hx hb dX6_size_4 rfl (lv_at hl 0 rfl) ?_
    refine lv_ineg hx hb dX6_size_5 ?_
    refine lv_goto (tgt := 10) hx hb dX6_size_6 (by decide) ?_
    exact hB10 (-p0) _ _ _ _ _ _ hD (lv_sub hl [] rfl) hf
set_option maxHeartbeats 4000000 in
set_option maxRecDepth 100000 in
theorem c_X6_isEntry (l : Launch) (D : va_G) (G : GC) (base : Nat) (E : PE) {a0 : Nat} {p1 : Int32} {σ0 τ : PS} {rv : Int32} (hF : f_X6_isEntry E (some a0) p1 σ0 = some (rv, τ)) : Ct l D G base E yX6_isEntry wsX6_isEntry 1 22 ([.ref a0, .int (p1)] : List Value) σ0 (some (.int rv)) τ := by
  obtain ⟨hf, hmo⟩ := oM_of hF
  refine Ct.of (own := RX6) [1, 1] (by decide) rfl rfl hmo (ct_R (ct_I ct_0)) (by decide) ?_
  intro p e s m below meth c R Q ls H locs cells slots S hKn hRm hfr hlo hlk hret hnm hQ hD hl
  have hx := S.1
  have hb := S.2.1
  have hts := S.2.2.2.2
  have inX6 : ∀ w ∈ u_ws RX6 TX6 23, w ∈ wsX6_isEntry := by decide +kernel
  have wd0 := hts (.fieldLink RX6 56 "SolidGroupsModel" "entries" "I") (by decide +kernel)
  have hl : lv_has ls 2 [(0, va_rf (some a0)), (1, .int (p1))] := hl
  unfold g_X6_isEntry at hf
  refine lv_iload_n hx hb dX6_isEntry_0 rfl (lv_at hl 1 rfl) ?_
  refine lv_iconst (v := (0)) hx hb dX6_isEntry_1 (by decide) ?_
  refine hw_aload_n (r := (some a0)) hx hb dX6_isEntry_2 rfl (lv_at hl 0 rfl) ?_
  obtain ⟨x1, hv, hf⟩ := ob_s hf
  refine hw_gi (C := RX6) (T := TX6) (N := 23) (ref := "SolidGroupsModel") S hKn hD hv rfl (by decide) (by decide) rfl inX6 wd0 (fun _ h9 => h9) dX6_isEntry_3 ?_
  refine lv_iconst (v := (1)) hx hb dX6_isEntry_6 (by decide) ?_
  refine lv_isub hx hb dX6_isEntry_7 ?_
  obtain ⟨r2, s3, hv, hf⟩ := ob_p hf
  refine hw_S (As := [.int (p1), .int ((0 : Int32)), .int (x1 - (1 : Int32))]) (rest := []) S hKn hRm hD (c_X6_isIn l D G base E hv) (mo_X6_isIn hv) gX6_isEntry_X6_isIn rfl 3 (by decide +kernel) ⟨by rw [hfr]; decide, by rw [hlo]; decide⟩ rfl hl.1 (Nat.le_trans cs_0 (by decide)) rfl dX6_isEntry_8 (fun H locs cells slots hD => ?_)
  refine W.eq (g2 := F0 m 11 ls [.int (r2)]) rfl ?_
  by_cases hz : r2 = 0 ∨ r2 = 1
  · rw [if_pos hz] at hf
    obtain ⟨e1, e2⟩ := ret_eq hf
    rw [hQ, ← e1, ← e2]
    exact hw_iret S hlk hret (nar_z hz) hD dX6_isEntry_11
  · rw [if_neg hz] at hf
    cases hf
set_option maxHeartbeats 4000000 in
set_option maxRecDepth 100000 in
theorem c_X6_entry (l : Launch) (D : va_G) (G : GC) (base : Nat) (E : PE) {a0 : Nat} {p1 : Int32} {σ0 τ : PS} {rv : Int32} (hF : f_X6_entry E (some a0) p1 σ0 = some (rv, τ)) : Ct l D G base E yX6_entry wsX6_entry 1 22 ([.ref a0, .int (p1)] : List Value) σ0 (some (.int rv)) τ := by
  obtain ⟨hf, hmo⟩ := oM_of hF
  refine Ct.of (own := RX6) [1, 1] (by decide) rfl rfl hmo (ct_R (ct_I ct_0)) (by decide) ?_
  intro p e s m below meth c R Q ls H locs cells slots S hKn hRm hfr hlo hlk hret hnm hQ hD hl
  have hx := S.1
  have hb := S.2.1
  have hts := S.2.2.2.2
  have inX6 : ∀ w ∈ u_ws RX6 TX6 23, w ∈ wsX6_entry := by decide +kernel
  have wd0 := hts (.fieldLink RX6 56 "SolidGroupsModel" "entries" "I") (by decide +kernel)
  have wd1 := hts (.fieldLink RX6 7 "SolidGroupsModel" "kinds" "[I") (by decide +kernel)
  have wd2 := hts (.fieldLink RX6 13 "SolidGroupsModel" "sizes" "[I") (by decide +kernel)
  have wd3 := hts (.fieldLink RX6 64 "SolidGroupsModel" "isPacked" "Z") (by decide +kernel)
  have hl : lv_has ls 2 [(0, va_rf (some a0)), (1, .int (p1))] := hl
  unfold g_X6_entry at hf
  refine lv_iload_n hx hb dX6_entry_0 rfl (lv_at hl 1 rfl) ?_
  refine lv_iconst (v := (0)) hx hb dX6_entry_1 (by decide) ?_
  refine lv_iconst (v := (5)) hx hb dX6_entry_2 (by decide) ?_
  obtain ⟨r1, s2, hv, hf⟩ := ob_p hf
  refine hw_S (As := [.int (p1), .int ((0 : Int32)), .int ((5 : Int32))]) (rest := []) S hKn hRm hD (c_X6_isIn l D G base E hv) (mo_X6_isIn hv) gX6_entry_X6_isIn rfl 3 (by decide +kernel) ⟨by rw [hfr]; decide, by rw [hlo]; decide⟩ rfl hl.1 (Nat.le_trans cs_0 (by decide)) rfl dX6_entry_3 (fun H locs cells slots hD => ?_)
  refine W.eq (g2 := F0 m 6 ls [.int (r1)]) rfl ?_
  refine lv_if_ne (tgt := 11) hx hb dX6_entry_6 (by decide) (fun hc => ?_) (fun hc => ?_)
  · rw [if_neg hc] at hf
    refine hw_aload_n (r := (some a0)) hx hb dX6_entry_11 rfl (lv_at hl 0 rfl) ?_
    obtain ⟨x3, hv, hf⟩ := ob_s hf
    refine hw_gi (C := RX6) (T := TX6) (N := 23) (ref := "SolidGroupsModel") S hKn hD hv rfl (by decide) (by decide) rfl inX6 wd0 (fun _ h9 => h9) dX6_entry_12 ?_
    refine lv_bipush (v := (30)) hx hb dX6_entry_15 (by decide) ?_
    refine lv_icmp_ne (tgt := 23) hx hb dX6_entry_17 (by decide) (fun hc => ?_) (fun hc => ?_)
    · rw [if_neg hc] at hf
      refine hw_aload_n (r := (some a0)) hx hb dX6_entry_23 rfl (lv_at hl 0 rfl) ?_
      obtain ⟨x4, hv, hf⟩ := ob_s hf
      refine hw_gr (C := RX6) (T := TX6) (N := 23) (ref := "SolidGroupsModel") S hKn hD hv rfl (by decide) (by decide) rfl inX6 wd1 (fun _ h9 => h9) dX6_entry_24 ?_
      refine hw_aload_n (r := (some a0)) hx hb dX6_entry_27 rfl (lv_at hl 0 rfl) ?_
      obtain ⟨x5, hv, hf⟩ := ob_s hf
      refine hw_gi (C := RX6) (T := TX6) (N := 23) (ref := "SolidGroupsModel") S hKn hD hv rfl (by decide) (by decide) rfl inX6 wd0 (fun _ h9 => h9) dX6_entry_28 ?_
      refine lv_iload_n hx hb dX6_entry_31 rfl (lv_at hl 1 rfl) ?_
      obtain ⟨s6, hv, hf⟩ := ob_s hf
      refine hw_as S hKn hD hv dX6_entry_32 (fun H locs hD => ?_)
      refine hw_aload_n (r := (some a0)) hx hb dX6_entry_33 rfl (lv_at hl 0 rfl) ?_
      obtain ⟨x7, hv, hf⟩ := ob_s hf
      refine hw_gr (C := RX6) (T := TX6) (N := 23) (ref := "SolidGroupsModel") S hKn hD hv rfl (by decide) (by decide) rfl inX6 wd2 (fun _ h9 => h9) dX6_entry_34 ?_
      refine hw_aload_n (r := (some a0)) hx hb dX6_entry_37 rfl (lv_at hl 0 rfl) ?_
      obtain ⟨x8, hv, hf⟩ := ob_s hf
      refine hw_gi (C := RX6) (T := TX6) (N := 23) (ref := "SolidGroupsModel") S hKn hD hv rfl (by decide) (by decide) rfl inX6 wd0 (fun _ h9 => h9) dX6_entry_38 ?_
      refine lv_iconst (v := (0)) hx hb dX6_entry_41 (by decide) ?_
      obtain ⟨s9, hv, hf⟩ := ob_s hf
      refine hw_as S hKn hD hv dX6_entry_42 (fun H locs hD => ?_)
      refine hw_aload_n (r := (some a0)) hx hb dX6_entry_43 rfl (lv_at hl 0 rfl) ?_
      refine lv_dup hx hb dX6_entry_44 (va_rf_cat _) ?_
      obtain ⟨x10, hv, hf⟩ := ob_s hf
      refine hw_gi (C := RX6) (T := TX6) (N := 23) (ref := "SolidGroupsModel") S hKn hD hv rfl (by decide) (by decide) rfl inX6 wd0 (fun _ h9 => h9) dX6_entry_45 ?_
      refine lv_iconst (v := (1)) hx hb dX6_entry_48 (by decide) ?_
      refine lv_iadd hx hb dX6_entry_49 ?_
      obtain ⟨s11, hv, hf⟩ := ob_s hf
      refine hw_pi (C := RX6) (T := TX6) (N := 23) (ref := "SolidGroupsModel") S hKn hD hv rfl (by decide) (by decide) rfl inX6 tyX6 tyX6_ok nmX6 wd0 (fun _ h9 => h9) rfl (by first | rfl | decide) (by first | rfl | decide) dX6_entry_50 (fun H locs hD => ?_)
      refine hw_aload_n (r := (some a0)) hx hb dX6_entry_53 rfl (lv_at hl 0 rfl) ?_
      refine lv_iconst (v := (0)) hx hb dX6_entry_54 (by decide) ?_
      obtain ⟨s12, hv, hf⟩ := ob_s hf
      refine hw_pi (C := RX6) (T := TX6) (N := 23) (ref := "SolidGroupsModel") S hKn hD hv rfl (by decide) (by decide) rfl inX6 tyX6 tyX6_ok nmX6 wd3 (fun _ h9 => h9) rfl (by first | rfl | decide) (by first | rfl | decide) dX6_entry_55 (fun H locs hD => ?_)
      refine hw_aload_n (r := (some a0)) hx hb dX6_entry_58 rfl (lv_at hl 0 rfl) ?_
      obtain ⟨x13, hv, hf⟩ := ob_s hf
      refine hw_gi (C := RX6) (T := TX6) (N := 23) (ref := "SolidGroupsModel") S hKn hD hv rfl (by decide) (by decide) rfl inX6 wd0 (fun _ h9 => h9) dX6_entry_59 ?_
      refine lv_iconst (v := (1)) hx hb dX6_entry_62 (by decide) ?_
      refine lv_isub hx hb dX6_entry_63 ?_
      obtain ⟨e1, e2⟩ := ret_eq hf
      rw [hQ, ← e1, ← e2]
      exact hw_iret S hlk hret rfl hD dX6_entry_64
    · rw [if_pos hc] at hf
      refine lv_bipush (v := (-3)) hx hb dX6_entry_20 (by decide) ?_
      obtain ⟨e1, e2⟩ := ret_eq hf
      rw [hQ, ← e1, ← e2]
      exact hw_iret S hlk hret rfl hD dX6_entry_22
  · rw [if_pos hc] at hf
    refine lv_iconst (v := (-1)) hx hb dX6_entry_9 (by decide) ?_
    obtain ⟨e1, e2⟩ := ret_eq hf
    rw [hQ, ← e1, ← e2]
    exact hw_iret S hlk hret rfl hD dX6_entry_10
set_option maxHeartbeats 4000000 in
set_option maxRecDepth 100000 in
theorem c_X6_octets (l : Launch) (D : va_G) (G : GC) (base : Nat) (E : PE) {a0 : Nat} {p1 : Int32} {p2 : Int32} {p3 : Int64} {σ0 τ : PS} {rv : Int32} (hF : f_X6_octets E (some a0) p1 p2 p3 σ0 = some (rv, τ)) : Ct l D G base E yX6_octets wsX6_octets 2 43 ([.ref a0, .int (p1), .int (p2), .long (p3)] : List Value) σ0 (some (.int rv)) τ := by
  obtain ⟨hf, hmo⟩ := oM_of hF
  refine Ct.of (own := RX6) [1, 1, 1, 2] (by decide) rfl rfl hmo (ct_R (ct_I (ct_I (ct_J ct_0)))) (by decide) ?_
  intro p e s m below meth c R Q ls H locs cells slots S hKn hRm hfr hlo hlk hret hnm hQ hD hl
  have hx := S.1
  have hb := S.2.1
  have hts := S.2.2.2.2
  have inX6 : ∀ w ∈ u_ws RX6 TX6 23, w ∈ wsX6_octets := by decide +kernel
  have wd0 := hts (.fieldLink RX6 13 "SolidGroupsModel" "sizes" "[I") (by decide +kernel)
  have wd1 := hts (.fieldLink RX6 64 "SolidGroupsModel" "isPacked" "Z") (by decide +kernel)
  have wd2 := hts (.fieldLink RX6 16 "SolidGroupsModel" "bytes" "[I") (by decide +kernel)
  have hB18 : ∀ (σ : PS) (H : Heap) (locs : List Loc) (cells slots : Nat) (ls : Array Slot), Dy D G base E s.heap σ0 σ H locs cells slots → lv_has ls 6 [] → f_X6_octets_B18 E σ = some (rv, τ) → W p l e R s m ([.ref a0, .int (p1), .int (p2), .long (p3)] : List Value).toArray below meth c H locs cells slots Q (F0 m 18 ls []) := by
    intro σ H locs cells slots ls hD hl hf
    unfold f_X6_octets_B18 at hf
    refine lv_iconst (v := (-1)) hx hb dX6_octets_18 (by decide) ?_
    obtain ⟨e1, e2⟩ := ret_eq hf
    rw [hQ, ← e1, ← e2]
    exact hw_iret S hlk hret rfl hD dX6_octets_19
  have hL39 : ∀ (n : Nat), ∀ (v0 : Option Nat) (v1 : Int32) (v2 : Int32) (v3 : Int64) (v5 : Int32) (σ : PS) (H : Heap) (locs : List Loc) (cells slots : Nat) (ls : Array Slot), Dy D G base E s.heap σ0 σ H locs cells slots → lv_has ls 6 [(0, va_rf (v0)), (1, .int (v1)), (2, .int (v2)), (3, .long (v3)), (5, .int (v5))] → f_X6_octets_L39 E n v0 v1 v2 v3 v5 σ = some (rv, τ) → W p l e R s m ([.ref a0, .int (p1), .int (p2), .long (p3)] : List Value).toArray below meth c H locs cells slots Q (F0 m 39 ls []) := by
    intro n
    induction n with
    | zero =>
      intro v0 v1 v2 v3 v5 σ H locs cells slots ls hD hl hf
      rw [f_X6_octets_L39] at hf
      cases hf
    | succ n ih =>
      intro v0 v1 v2 v3 v5 σ H locs cells slots ls hD hl hf
      rw [f_X6_octets_L39] at hf
      refine lv_iload hx hb dX6_octets_39 (lv_at hl 4 rfl) ?_
      refine lv_iload_n hx hb dX6_octets_41 rfl (lv_at hl 2 rfl) ?_
      refine lv_icmp_ge (tgt := 89) hx hb dX6_octets_42 (by decide) (fun hc => ?_) (fun hc => ?_)
      · rw [if_pos hc] at hf
        refine hw_aload_n (r := v0) hx hb dX6_octets_89 rfl (lv_at hl 0 rfl) ?_
        refine lv_iconst (v := (0)) hx hb dX6_octets_90 (by decide) ?_
        obtain ⟨s8, hv, hf⟩ := ob_s hf
        refine hw_pi (C := RX6) (T := TX6) (N := 23) (ref := "SolidGroupsModel") S hKn hD hv rfl (by decide) (by decide) rfl inX6 tyX6 tyX6_ok nmX6 wd1 (fun _ h9 => h9) rfl (by first | rfl | decide) (by first | rfl | decide) dX6_octets_91 (fun H locs hD => ?_)
        refine hw_aload_n (r := v0) hx hb dX6_octets_94 rfl (lv_at hl 0 rfl) ?_
        obtain ⟨x9, hv, hf⟩ := ob_s hf
        refine hw_gr (C := RX6) (T := TX6) (N := 23) (ref := "SolidGroupsModel") S hKn hD hv rfl (by decide) (by decide) rfl inX6 wd0 (fun _ h9 => h9) dX6_octets_95 ?_
        refine lv_iload_n hx hb dX6_octets_98 rfl (lv_at hl 1 rfl) ?_
        obtain ⟨x10, hv, hf⟩ := ob_s hf
        refine hw_al S hKn hD hv dX6_octets_99 ?_
        obtain ⟨e1, e2⟩ := ret_eq hf
        rw [hQ, ← e1, ← e2]
        exact hw_iret S hlk hret rfl hD dX6_octets_100
      · rw [if_neg hc] at hf
        refine hw_aload_n (r := v0) hx hb dX6_octets_45 rfl (lv_at hl 0 rfl) ?_
        obtain ⟨x11, hv, hf⟩ := ob_s hf
        refine hw_gr (C := RX6) (T := TX6) (N := 23) (ref := "SolidGroupsModel") S hKn hD hv rfl (by decide) (by decide) rfl inX6 wd2 (fun _ h9 => h9) dX6_octets_46 ?_
        refine lv_bipush (v := (60)) hx hb dX6_octets_49 (by decide) ?_
        refine lv_iload_n hx hb dX6_octets_51 rfl (lv_at hl 1 rfl) ?_
        refine lv_imul hx hb dX6_octets_52 ?_
        refine hw_aload_n (r := v0) hx hb dX6_octets_53 rfl (lv_at hl 0 rfl) ?_
        obtain ⟨x12, hv, hf⟩ := ob_s hf
        refine hw_gr (C := RX6) (T := TX6) (N := 23) (ref := "SolidGroupsModel") S hKn hD hv rfl (by decide) (by decide) rfl inX6 wd0 (fun _ h9 => h9) dX6_octets_54 ?_
        refine lv_iload_n hx hb dX6_octets_57 rfl (lv_at hl 1 rfl) ?_
        obtain ⟨x13, hv, hf⟩ := ob_s hf
        refine hw_al S hKn hD hv dX6_octets_58 ?_
        refine lv_iadd hx hb dX6_octets_59 ?_
        refine lv_lload_n hx hb dX6_octets_60 rfl (lv_at hl 3 rfl) ?_
        refine lv_bipush (v := (8)) hx hb dX6_octets_61 (by decide) ?_
        refine lv_iload hx hb dX6_octets_63 (lv_at hl 4 rfl) ?_
        refine lv_imul hx hb dX6_octets_65 ?_
        refine lv_lshr hx hb dX6_octets_66 rfl ?_
        refine lv_l2i hx hb dX6_octets_67 rfl ?_
        refine lv_sipush (v := (255)) hx hb dX6_octets_68 (by decide) ?_
        refine lv_iand hx hb dX6_octets_71 ?_
        obtain ⟨s14, hv, hf⟩ := ob_s hf
        refine hw_as S hKn hD hv dX6_octets_72 (fun H locs hD => ?_)
        refine hw_aload_n (r := v0) hx hb dX6_octets_73 rfl (lv_at hl 0 rfl) ?_
        obtain ⟨x15, hv, hf⟩ := ob_s hf
        refine hw_gr (C := RX6) (T := TX6) (N := 23) (ref := "SolidGroupsModel") S hKn hD hv rfl (by decide) (by decide) rfl inX6 wd0 (fun _ h9 => h9) dX6_octets_74 ?_
        refine lv_iload_n hx hb dX6_octets_77 rfl (lv_at hl 1 rfl) ?_
        refine lv_dup2_11 hx hb dX6_octets_78 rfl (va_rf_cat _) ?_
        obtain ⟨x16, hv, hf⟩ := ob_s hf
        refine hw_al S hKn hD hv dX6_octets_79 ?_
        refine lv_iconst (v := (1)) hx hb dX6_octets_80 (by decide) ?_
        refine lv_iadd hx hb dX6_octets_81 ?_
        obtain ⟨s17, hv, hf⟩ := ob_s hf
        refine hw_as S hKn hD hv dX6_octets_82 (fun H locs hD => ?_)
        refine hs_iinc (i := 5) (k := 4) (v := v5 + 1) (lv' := [(5, .int (v5 + 1)), (0, va_rf (v0)), (1, .int (v1)), (2, .int (v2)), (3, .long (v3))]) hx hb dX6_octets_83 hl rfl (congrArg (fun z => v5 + z) (by decide)) (by decide) (st_okR (st_okI (st_okI (st_okJ rfl (st_okI st_ok0))))) rfl (fun ls hl => ?_)
        refine lv_goto (tgt := 39) hx hb dX6_octets_86 (by decide) ?_
        exact ih v0 v1 v2 v3 (v5 + 1) _ _ _ _ _ _ hD (lv_sub hl [1, 2, 3, 4, 0] rfl) hf
  have hl : lv_has ls 6 [(0, va_rf (some a0)), (1, .int (p1)), (2, .int (p2)), (3, .long (p3))] := hl
  unfold g_X6_octets at hf
  refine hw_aload_n (r := (some a0)) hx hb dX6_octets_0 rfl (lv_at hl 0 rfl) ?_
  refine lv_iload_n hx hb dX6_octets_1 rfl (lv_at hl 1 rfl) ?_
  obtain ⟨b3, hv, hf⟩ := ob_s hf
  obtain ⟨e9, hk9⟩ := oK_of hv
  cases e9
  obtain ⟨r1, s2, hv, hf⟩ := ob_p hf
  refine hw_V (b := a0) (ci := 7) (T := TX6) (N := 23) (As := [.int (p1)]) (rest := []) S hKn hRm hD (c_X6_isEntry l D G base E hv) (mo_X6_isEntry hv) hk9 rfl (by decide) gX6_octets_X6_isEntry rfl 1 (by decide +kernel) ⟨by rw [hfr]; decide, by rw [hlo]; decide⟩ rfl hl.1 (Nat.le_trans cs_0 (by decide)) rfl dX6_octets_2 (fun H locs cells slots hD => ?_)
  refine W.eq (g2 := F0 m 5 ls [.int (r1)]) rfl ?_
  refine lv_if_eq (tgt := 18) hx hb dX6_octets_5 (by decide) (fun hc => ?_) (fun hc => ?_)
  · rw [if_pos hc] at hf
    exact hB18 _ _ _ _ _ _ hD (lv_sub hl [] rfl) hf
  · rw [if_neg hc] at hf
    refine lv_iload_n hx hb dX6_octets_8 rfl (lv_at hl 2 rfl) ?_
    refine lv_iconst (v := (1)) hx hb dX6_octets_9 (by decide) ?_
    refine lv_bipush (v := (8)) hx hb dX6_octets_10 (by decide) ?_
    obtain ⟨r4, s5, hv, hf⟩ := ob_p hf
    refine hw_S (As := [.int (p2), .int ((1 : Int32)), .int ((8 : Int32))]) (rest := []) S hKn hRm hD (c_X6_isIn l D G base E hv) (mo_X6_isIn hv) gX6_octets_X6_isIn rfl 3 (by decide +kernel) ⟨by rw [hfr]; decide, by rw [hlo]; decide⟩ rfl hl.1 (Nat.le_trans cs_0 (by decide)) rfl dX6_octets_12 (fun H locs cells slots hD => ?_)
    refine W.eq (g2 := F0 m 15 ls [.int (r4)]) rfl ?_
    refine lv_if_ne (tgt := 20) hx hb dX6_octets_15 (by decide) (fun hc => ?_) (fun hc => ?_)
    · rw [if_neg hc] at hf
      refine hw_aload_n (r := (some a0)) hx hb dX6_octets_20 rfl (lv_at hl 0 rfl) ?_
      obtain ⟨x6, hv, hf⟩ := ob_s hf
      refine hw_gr (C := RX6) (T := TX6) (N := 23) (ref := "SolidGroupsModel") S hKn hD hv rfl (by decide) (by decide) rfl inX6 wd0 (fun _ h9 => h9) dX6_octets_21 ?_
      refine lv_iload_n hx hb dX6_octets_24 rfl (lv_at hl 1 rfl) ?_
      obtain ⟨x7, hv, hf⟩ := ob_s hf
      refine hw_al S hKn hD hv dX6_octets_25 ?_
      refine lv_iload_n hx hb dX6_octets_26 rfl (lv_at hl 2 rfl) ?_
      refine lv_iadd hx hb dX6_octets_27 ?_
      refine lv_bipush (v := (60)) hx hb dX6_octets_28 (by decide) ?_
      refine lv_icmp_le (tgt := 36) hx hb dX6_octets_30 (by decide) (fun hc => ?_) (fun hc => ?_)
      · rw [if_pos hc] at hf
        refine lv_iconst (v := (0)) hx hb dX6_octets_36 (by decide) ?_
        refine hs_istore (i := 5) (lv' := [(5, .int ((0 : Int32))), (0, va_rf ((some a0))), (1, .int (p1)), (2, .int (p2)), (3, .long (p3))]) hx hb dX6_octets_37 hl (by decide) (st_okR (st_okI (st_okI (st_okJ rfl st_ok0)))) rfl (fun ls hl => ?_)
        exact hL39 _ (some a0) p1 p2 p3 (0 : Int32) _ _ _ _ _ _ hD (lv_sub hl [1, 2, 3, 4, 0] rfl) hf
      · rw [if_neg hc] at hf
        refine lv_bipush (v := (-3)) hx hb dX6_octets_33 (by decide) ?_
        obtain ⟨e1, e2⟩ := ret_eq hf
        rw [hQ, ← e1, ← e2]
        exact hw_iret S hlk hret rfl hD dX6_octets_35
    · rw [if_pos hc] at hf
      exact hB18 _ _ _ _ _ _ hD (lv_sub hl [] rfl) hf
set_option maxHeartbeats 4000000 in
set_option maxRecDepth 100000 in
theorem c_X6_marks (l : Launch) (D : va_G) (G : GC) (base : Nat) (E : PE) {a0 : Nat} {p1 : Int32} {p2 : Option Nat} {σ0 τ : PS} {rv : Unit} (hF : f_X6_marks E (some a0) p1 p2 σ0 = some (rv, τ)) : Ct l D G base E yX6_marks wsX6_marks 0 0 ([.ref a0, .int (p1), va_rf (p2)] : List Value) σ0 none τ := by
  obtain ⟨hf, hmo⟩ := oM_of hF
  refine Ct.of (own := RX6) [1, 1, 1] (by decide) rfl rfl hmo (ct_R (ct_I (ct_A ct_0))) (by decide) ?_
  intro p e s m below meth c R Q ls H locs cells slots S hKn hRm hfr hlo hlk hret hnm hQ hD hl
  have hx := S.1
  have hb := S.2.1
  have hts := S.2.2.2.2
  have inX6 : ∀ w ∈ u_ws RX6 TX6 23, w ∈ wsX6_marks := by decide +kernel
  have wd0 := hts (.fieldLink RX6 13 "SolidGroupsModel" "sizes" "[I") (by decide +kernel)
  have wd1 := hts (.fieldLink RX6 16 "SolidGroupsModel" "bytes" "[I") (by decide +kernel)
  have hL20 : ∀ (n : Nat), ∀ (v0 : Option Nat) (v1 : Int32) (v2 : Option Nat) (v3 : Int32) (σ : PS) (H : Heap) (locs : List Loc) (cells slots : Nat) (ls : Array Slot), Dy D G base E s.heap σ0 σ H locs cells slots → lv_has ls 5 [(0, va_rf (v0)), (1, .int (v1)), (2, va_rf (v2)), (3, .int (v3))] → f_X6_marks_L20 E n v0 v1 v2 v3 σ = some (rv, τ) → W p l e R s m ([.ref a0, .int (p1), va_rf (p2)] : List Value).toArray below meth c H locs cells slots Q (F0 m 20 ls []) := by
    intro n
    induction n with
    | zero =>
      intro v0 v1 v2 v3 σ H locs cells slots ls hD hl hf
      rw [f_X6_marks_L20] at hf
      cases hf
    | succ n ih =>
      intro v0 v1 v2 v3 σ H locs cells slots ls hD hl hf
      rw [f_X6_marks_L20] at hf
      refine lv_iload_n hx hb dX6_marks_20 rfl (lv_at hl 3 rfl) ?_
      refine lv_iconst (v := (2)) hx hb dX6_marks_21 (by decide) ?_
      refine lv_iadd hx hb dX6_marks_22 ?_
      refine hw_aload_n (r := v0) hx hb dX6_marks_23 rfl (lv_at hl 0 rfl) ?_
      obtain ⟨x2, hv, hf⟩ := ob_s hf
      refine hw_gr (C := RX6) (T := TX6) (N := 23) (ref := "SolidGroupsModel") S hKn hD hv rfl (by decide) (by decide) rfl inX6 wd0 (fun _ h9 => h9) dX6_marks_24 ?_
      refine lv_iload_n hx hb dX6_marks_27 rfl (lv_at hl 1 rfl) ?_
      obtain ⟨x3, hv, hf⟩ := ob_s hf
      refine hw_al S hKn hD hv dX6_marks_28 ?_
      refine lv_icmp_ge (tgt := 89) hx hb dX6_marks_29 (by decide) (fun hc => ?_) (fun hc => ?_)
      · rw [if_pos hc] at hf
        obtain ⟨-, e2⟩ := ret_eq hf
        rw [hQ, ← e2]
        exact hw_vret S hlk hret hD dX6_marks_89
      · rw [if_neg hc] at hf
        refine lv_bipush (v := (60)) hx hb dX6_marks_32 (by decide) ?_
        refine lv_iload_n hx hb dX6_marks_34 rfl (lv_at hl 1 rfl) ?_
        refine lv_imul hx hb dX6_marks_35 ?_
        refine lv_iload_n hx hb dX6_marks_36 rfl (lv_at hl 3 rfl) ?_
        refine lv_iadd hx hb dX6_marks_37 ?_
        refine hs_istore (i := 4) (lv' := [(4, .int (((60 : Int32) * v1) + v3)), (0, va_rf (v0)), (1, .int (v1)), (2, va_rf (v2)), (3, .int (v3))]) hx hb dX6_marks_38 hl (by decide) (st_okR (st_okI (st_okR (st_okI st_ok0)))) rfl (fun ls hl => ?_)
        refine hw_aload_n (r := v2) hx hb dX6_marks_40 rfl (lv_at hl 3 rfl) ?_
        refine lv_bipush (v := (7)) hx hb dX6_marks_41 (by decide) ?_
        refine hw_aload_n (r := v0) hx hb dX6_marks_43 rfl (lv_at hl 1 rfl) ?_
        obtain ⟨x4, hv, hf⟩ := ob_s hf
        refine hw_gr (C := RX6) (T := TX6) (N := 23) (ref := "SolidGroupsModel") S hKn hD hv rfl (by decide) (by decide) rfl inX6 wd1 (fun _ h9 => h9) dX6_marks_44 ?_
        refine lv_iload hx hb dX6_marks_47 (lv_at hl 0 rfl) ?_
        obtain ⟨x5, hv, hf⟩ := ob_s hf
        refine hw_al S hKn hD hv dX6_marks_49 ?_
        refine lv_imul hx hb dX6_marks_50 ?_
        refine lv_iconst (v := (5)) hx hb dX6_marks_51 (by decide) ?_
        refine hw_aload_n (r := v0) hx hb dX6_marks_52 rfl (lv_at hl 1 rfl) ?_
        obtain ⟨x6, hv, hf⟩ := ob_s hf
        refine hw_gr (C := RX6) (T := TX6) (N := 23) (ref := "SolidGroupsModel") S hKn hD hv rfl (by decide) (by decide) rfl inX6 wd1 (fun _ h9 => h9) dX6_marks_53 ?_
        refine lv_iload hx hb dX6_marks_56 (lv_at hl 0 rfl) ?_
        refine lv_iconst (v := (1)) hx hb dX6_marks_58 (by decide) ?_
        refine lv_iadd hx hb dX6_marks_59 ?_
        obtain ⟨x7, hv, hf⟩ := ob_s hf
        refine hw_al S hKn hD hv dX6_marks_60 ?_
        refine lv_imul hx hb dX6_marks_61 ?_
        refine lv_iadd hx hb dX6_marks_62 ?_
        refine lv_iconst (v := (3)) hx hb dX6_marks_63 (by decide) ?_
        refine hw_aload_n (r := v0) hx hb dX6_marks_64 rfl (lv_at hl 1 rfl) ?_
        obtain ⟨x8, hv, hf⟩ := ob_s hf
        refine hw_gr (C := RX6) (T := TX6) (N := 23) (ref := "SolidGroupsModel") S hKn hD hv rfl (by decide) (by decide) rfl inX6 wd1 (fun _ h9 => h9) dX6_marks_65 ?_
        refine lv_iload hx hb dX6_marks_68 (lv_at hl 0 rfl) ?_
        refine lv_iconst (v := (2)) hx hb dX6_marks_70 (by decide) ?_
        refine lv_iadd hx hb dX6_marks_71 ?_
        obtain ⟨x9, hv, hf⟩ := ob_s hf
        refine hw_al S hKn hD hv dX6_marks_72 ?_
        refine lv_imul hx hb dX6_marks_73 ?_
        refine lv_iadd hx hb dX6_marks_74 ?_
        refine lv_bipush (v := (32)) hx hb dX6_marks_75 (by decide) ?_
        obtain ⟨x10, hv, hf⟩ := ob_s hf
        refine hs_irem hx hb hv dX6_marks_77 ?_
        refine lv_dup2_11 hx hb dX6_marks_78 rfl (va_rf_cat _) ?_
        obtain ⟨x11, hv, hf⟩ := ob_s hf
        refine hw_al S hKn hD hv dX6_marks_79 ?_
        refine lv_iconst (v := (1)) hx hb dX6_marks_80 (by decide) ?_
        refine lv_iadd hx hb dX6_marks_81 ?_
        obtain ⟨s12, hv, hf⟩ := ob_s hf
        refine hw_as S hKn hD hv dX6_marks_82 (fun H locs hD => ?_)
        refine hs_iinc (i := 3) (k := 4) (v := v3 + 1) (lv' := [(3, .int (v3 + 1)), (4, .int (((60 : Int32) * v1) + v3)), (0, va_rf (v0)), (1, .int (v1)), (2, va_rf (v2))]) hx hb dX6_marks_83 hl rfl (congrArg (fun z => v3 + z) (by decide)) (by decide) (st_okI (st_okR (st_okI (st_okR (st_okI st_ok0))))) rfl (fun ls hl => ?_)
        refine lv_goto (tgt := 20) hx hb dX6_marks_86 (by decide) ?_
        exact ih v0 v1 v2 (v3 + 1) _ _ _ _ _ _ hD (lv_sub hl [2, 3, 4, 0] rfl) hf
  have hL2 : ∀ (n : Nat), ∀ (v0 : Option Nat) (v1 : Int32) (v2 : Option Nat) (v3 : Int32) (σ : PS) (H : Heap) (locs : List Loc) (cells slots : Nat) (ls : Array Slot), Dy D G base E s.heap σ0 σ H locs cells slots → lv_has ls 5 [(0, va_rf (v0)), (1, .int (v1)), (2, va_rf (v2)), (3, .int (v3))] → f_X6_marks_L2 E n v0 v1 v2 v3 σ = some (rv, τ) → W p l e R s m ([.ref a0, .int (p1), va_rf (p2)] : List Value).toArray below meth c H locs cells slots Q (F0 m 2 ls []) := by
    intro n
    induction n with
    | zero =>
      intro v0 v1 v2 v3 σ H locs cells slots ls hD hl hf
      rw [f_X6_marks_L2] at hf
      cases hf
    | succ n ih =>
      intro v0 v1 v2 v3 σ H locs cells slots ls hD hl hf
      rw [f_X6_marks_L2] at hf
      refine lv_iload_n hx hb dX6_marks_2 rfl (lv_at hl 3 rfl) ?_
      refine lv_bipush (v := (32)) hx hb dX6_marks_3 (by decide) ?_
      refine lv_icmp_ge (tgt := 18) hx hb dX6_marks_5 (by decide) (fun hc => ?_) (fun hc => ?_)
      · rw [if_pos hc] at hf
        refine lv_iconst (v := (0)) hx hb dX6_marks_18 (by decide) ?_
        refine hs_istore_n (i := 3) (lv' := [(3, .int ((0 : Int32))), (0, va_rf (v0)), (1, .int (v1)), (2, va_rf (v2))]) hx hb dX6_marks_19 rfl hl (by decide) (st_okR (st_okI (st_okR (st_okI st_ok0)))) rfl (fun ls hl => ?_)
        exact hL20 _ v0 v1 v2 (0 : Int32) _ _ _ _ _ _ hD (lv_sub hl [1, 2, 3, 0] rfl) hf
      · rw [if_neg hc] at hf
        refine hw_aload_n (r := v2) hx hb dX6_marks_8 rfl (lv_at hl 2 rfl) ?_
        refine lv_iload_n hx hb dX6_marks_9 rfl (lv_at hl 3 rfl) ?_
        refine lv_iconst (v := (0)) hx hb dX6_marks_10 (by decide) ?_
        obtain ⟨s1, hv, hf⟩ := ob_s hf
        refine hw_as S hKn hD hv dX6_marks_11 (fun H locs hD => ?_)
        refine hs_iinc (i := 3) (k := 3) (v := v3 + 1) (lv' := [(3, .int (v3 + 1)), (0, va_rf (v0)), (1, .int (v1)), (2, va_rf (v2))]) hx hb dX6_marks_12 hl rfl (congrArg (fun z => v3 + z) (by decide)) (by decide) (st_okR (st_okI (st_okR (st_okI st_ok0)))) rfl (fun ls hl => ?_)
        refine lv_goto (tgt := 2) hx hb dX6_marks_15 (by decide) ?_
        exact ih v0 v1 v2 (v3 + 1) _ _ _ _ _ _ hD (lv_sub hl [1, 2, 3, 0] rfl) hf
  have hl : lv_has ls 5 [(0, va_rf (some a0)), (1, .int (p1)), (2, va_rf (p2))] := hl
  unfold g_X6_marks at hf
  refine lv_iconst (v := (0)) hx hb dX6_marks_0 (by decide) ?_
  refine hs_istore_n (i := 3) (lv' := [(3, .int ((0 : Int32))), (0, va_rf ((some a0))), (1, .int (p1)), (2, va_rf (p2))]) hx hb dX6_marks_1 rfl hl (by decide) (st_okR (st_okI (st_okR st_ok0))) rfl (fun ls hl => ?_)
  exact hL2 _ (some a0) p1 p2 (0 : Int32) _ _ _ _ _ _ hD (lv_sub hl [1, 2, 3, 0] rfl) hf
set_option maxHeartbeats 4000000 in
set_option maxRecDepth 100000 in
theorem c_X6_commonOf (l : Launch) (D : va_G) (G : GC) (base : Nat) (E : PE) {a0 : Nat} {p1 : Int32} {p2 : Int32} {σ0 τ : PS} {rv : Int32} (hF : f_X6_commonOf E (some a0) p1 p2 σ0 = some (rv, τ)) : Ct l D G base E yX6_commonOf wsX6_commonOf 1 24 ([.ref a0, .int (p1), .int (p2)] : List Value) σ0 (some (.int rv)) τ := by
  obtain ⟨hf, hmo⟩ := oM_of hF
  refine Ct.of (own := RX6) [1, 1, 1] (by decide) rfl rfl hmo (ct_R (ct_I (ct_I ct_0))) (by decide) ?_
  intro p e s m below meth c R Q ls H locs cells slots S hKn hRm hfr hlo hlk hret hnm hQ hD hl
  have hx := S.1
  have hb := S.2.1
  have hts := S.2.2.2.2
  have inX6 : ∀ w ∈ u_ws RX6 TX6 23, w ∈ wsX6_commonOf := by decide +kernel
  have wd0 := hts (.fieldLink RX6 41 "SolidGroupsModel" "marksA" "[I") (by decide +kernel)
  have wd1 := hts (.fieldLink RX6 44 "SolidGroupsModel" "marksB" "[I") (by decide +kernel)
  have hB65 : ∀ (k23 : Option Nat → Int32 → Int32 → PS → Option (Int32 × PS)) (hk23 : ∀ (z0 : Option Nat) (z3 : Int32) (z4 : Int32) (σ : PS) (H : Heap) (locs : List Loc) (cells slots : Nat) (ls : Array Slot), Dy D G base E s.heap σ0 σ H locs cells slots → lv_has ls 5 [(0, va_rf (z0)), (3, .int (z3)), (4, .int (z4))] → k23 z0 z3 z4 σ = some (rv, τ) → W p l e R s m ([.ref a0, .int (p1), .int (p2)] : List Value).toArray below meth c H locs cells slots Q (F0 m 23 ls [])), ∀ (v0 : Option Nat) (v4 : Int32) (w0 : Int32) (w1 : Int32) (σ : PS) (H : Heap) (locs : List Loc) (cells slots : Nat) (ls : Array Slot), Dy D G base E s.heap σ0 σ H locs cells slots → lv_has ls 5 [(0, va_rf (v0)), (4, .int (v4))] → f_X6_commonOf_B65 E k23 v0 v4 w0 w1 σ = some (rv, τ) → W p l e R s m ([.ref a0, .int (p1), .int (p2)] : List Value).toArray below meth c H locs cells slots Q (F0 m 65 ls [.int (w1), .int (w0)]) := by
    intro k23 hk23 v0 v4 w0 w1 σ H locs cells slots ls hD hl hf
    unfold f_X6_commonOf_B65 at hf
    refine lv_iadd hx hb dX6_commonOf_65 ?_
    refine hs_istore_n (i := 3) (lv' := [(3, .int (w0 + w1)), (0, va_rf (v0)), (4, .int (v4))]) hx hb dX6_commonOf_66 rfl hl (by decide) (st_okR (st_okI st_ok0)) rfl (fun ls hl => ?_)
    refine hs_iinc (i := 4) (k := 2) (v := v4 + 1) (lv' := [(4, .int (v4 + 1)), (3, .int (w0 + w1)), (0, va_rf (v0))]) hx hb dX6_commonOf_67 hl rfl (congrArg (fun z => v4 + z) (by decide)) (by decide) (st_okI (st_okR (st_okI st_ok0))) rfl (fun ls hl => ?_)
    refine lv_goto (tgt := 23) hx hb dX6_commonOf_70 (by decide) ?_
    exact hk23 v0 (w0 + w1) (v4 + 1) _ _ _ _ _ _ hD (lv_sub hl [2, 1, 0] rfl) hf
  have hL23 : ∀ (n : Nat), ∀ (v0 : Option Nat) (v3 : Int32) (v4 : Int32) (σ : PS) (H : Heap) (locs : List Loc) (cells slots : Nat) (ls : Array Slot), Dy D G base E s.heap σ0 σ H locs cells slots → lv_has ls 5 [(0, va_rf (v0)), (3, .int (v3)), (4, .int (v4))] → f_X6_commonOf_L23 E n v0 v3 v4 σ = some (rv, τ) → W p l e R s m ([.ref a0, .int (p1), .int (p2)] : List Value).toArray below meth c H locs cells slots Q (F0 m 23 ls []) := by
    intro n
    induction n with
    | zero =>
      intro v0 v3 v4 σ H locs cells slots ls hD hl hf
      rw [f_X6_commonOf_L23] at hf
      cases hf
    | succ n ih =>
      intro v0 v3 v4 σ H locs cells slots ls hD hl hf
      rw [f_X6_commonOf_L23] at hf
      refine lv_iload hx hb dX6_commonOf_23 (lv_at hl 2 rfl) ?_
      refine lv_bipush (v := (32)) hx hb dX6_commonOf_25 (by decide) ?_
      refine lv_icmp_ge (tgt := 73) hx hb dX6_commonOf_27 (by decide) (fun hc => ?_) (fun hc => ?_)
      · rw [if_pos hc] at hf
        refine lv_iload_n hx hb dX6_commonOf_73 rfl (lv_at hl 1 rfl) ?_
        obtain ⟨e1, e2⟩ := ret_eq hf
        rw [hQ, ← e1, ← e2]
        exact hw_iret S hlk hret rfl hD dX6_commonOf_74
      · rw [if_neg hc] at hf
        refine lv_iload_n hx hb dX6_commonOf_30 rfl (lv_at hl 1 rfl) ?_
        refine hw_aload_n (r := v0) hx hb dX6_commonOf_31 rfl (lv_at hl 0 rfl) ?_
        obtain ⟨x9, hv, hf⟩ := ob_s hf
        refine hw_gr (C := RX6) (T := TX6) (N := 23) (ref := "SolidGroupsModel") S hKn hD hv rfl (by decide) (by decide) rfl inX6 wd0 (fun _ h9 => h9) dX6_commonOf_32 ?_
        refine lv_iload hx hb dX6_commonOf_35 (lv_at hl 2 rfl) ?_
        obtain ⟨x10, hv, hf⟩ := ob_s hf
        refine hw_al S hKn hD hv dX6_commonOf_37 ?_
        refine hw_aload_n (r := v0) hx hb dX6_commonOf_38 rfl (lv_at hl 0 rfl) ?_
        obtain ⟨x11, hv, hf⟩ := ob_s hf
        refine hw_gr (C := RX6) (T := TX6) (N := 23) (ref := "SolidGroupsModel") S hKn hD hv rfl (by decide) (by decide) rfl inX6 wd1 (fun _ h9 => h9) dX6_commonOf_39 ?_
        refine lv_iload hx hb dX6_commonOf_42 (lv_at hl 2 rfl) ?_
        obtain ⟨x12, hv, hf⟩ := ob_s hf
        refine hw_al S hKn hD hv dX6_commonOf_44 ?_
        refine lv_icmp_ge (tgt := 58) hx hb dX6_commonOf_45 (by decide) (fun hc => ?_) (fun hc => ?_)
        · rw [if_pos hc] at hf
          refine hw_aload_n (r := v0) hx hb dX6_commonOf_58 rfl (lv_at hl 0 rfl) ?_
          obtain ⟨x13, hv, hf⟩ := ob_s hf
          refine hw_gr (C := RX6) (T := TX6) (N := 23) (ref := "SolidGroupsModel") S hKn hD hv rfl (by decide) (by decide) rfl inX6 wd1 (fun _ h9 => h9) dX6_commonOf_59 ?_
          refine lv_iload hx hb dX6_commonOf_62 (lv_at hl 2 rfl) ?_
          obtain ⟨x14, hv, hf⟩ := ob_s hf
          refine hw_al S hKn hD hv dX6_commonOf_64 ?_
          exact hB65 _ ih v0 v4 v3 x14 _ _ _ _ _ _ hD (lv_sub hl [0, 2] rfl) hf
        · rw [if_neg hc] at hf
          refine hw_aload_n (r := v0) hx hb dX6_commonOf_48 rfl (lv_at hl 0 rfl) ?_
          obtain ⟨x15, hv, hf⟩ := ob_s hf
          refine hw_gr (C := RX6) (T := TX6) (N := 23) (ref := "SolidGroupsModel") S hKn hD hv rfl (by decide) (by decide) rfl inX6 wd0 (fun _ h9 => h9) dX6_commonOf_49 ?_
          refine lv_iload hx hb dX6_commonOf_52 (lv_at hl 2 rfl) ?_
          obtain ⟨x16, hv, hf⟩ := ob_s hf
          refine hw_al S hKn hD hv dX6_commonOf_54 ?_
          refine lv_goto (tgt := 65) hx hb dX6_commonOf_55 (by decide) ?_
          exact hB65 _ ih v0 v4 v3 x16 _ _ _ _ _ _ hD (lv_sub hl [0, 2] rfl) hf
  have hl : lv_has ls 5 [(0, va_rf (some a0)), (1, .int (p1)), (2, .int (p2))] := hl
  unfold g_X6_commonOf at hf
  refine hw_aload_n (r := (some a0)) hx hb dX6_commonOf_0 rfl (lv_at hl 0 rfl) ?_
  refine lv_iload_n hx hb dX6_commonOf_1 rfl (lv_at hl 1 rfl) ?_
  refine hw_aload_n (r := (some a0)) hx hb dX6_commonOf_2 rfl (lv_at hl 0 rfl) ?_
  obtain ⟨x1, hv, hf⟩ := ob_s hf
  refine hw_gr (C := RX6) (T := TX6) (N := 23) (ref := "SolidGroupsModel") S hKn hD hv rfl (by decide) (by decide) rfl inX6 wd0 (fun _ h9 => h9) dX6_commonOf_3 ?_
  obtain ⟨b4, hv, hf⟩ := ob_s hf
  obtain ⟨e9, hk9⟩ := oK_of hv
  cases e9
  obtain ⟨r2, s3, hv, hf⟩ := ob_p hf
  refine hw_V (b := a0) (ci := 7) (T := TX6) (N := 23) (As := [.int (p1), va_rf (x1)]) (rest := []) S hKn hRm hD (c_X6_marks l D G base E hv) (mo_X6_marks hv) hk9 rfl (by decide) gX6_commonOf_X6_marks rfl 2 (by decide +kernel) ⟨by rw [hfr]; decide, by rw [hlo]; decide⟩ rfl hl.1 (Nat.le_trans cs_0 (by decide)) rfl dX6_commonOf_6 (fun H locs cells slots hD => ?_)
  refine W.eq (g2 := F0 m 9 ls []) rfl ?_
  refine hw_aload_n (r := (some a0)) hx hb dX6_commonOf_9 rfl (lv_at hl 0 rfl) ?_
  refine lv_iload_n hx hb dX6_commonOf_10 rfl (lv_at hl 2 rfl) ?_
  refine hw_aload_n (r := (some a0)) hx hb dX6_commonOf_11 rfl (lv_at hl 0 rfl) ?_
  obtain ⟨x5, hv, hf⟩ := ob_s hf
  refine hw_gr (C := RX6) (T := TX6) (N := 23) (ref := "SolidGroupsModel") S hKn hD hv rfl (by decide) (by decide) rfl inX6 wd1 (fun _ h9 => h9) dX6_commonOf_12 ?_
  obtain ⟨b8, hv, hf⟩ := ob_s hf
  obtain ⟨e9, hk9⟩ := oK_of hv
  cases e9
  obtain ⟨r6, s7, hv, hf⟩ := ob_p hf
  refine hw_V (b := a0) (ci := 7) (T := TX6) (N := 23) (As := [.int (p2), va_rf (x5)]) (rest := []) S hKn hRm hD (c_X6_marks l D G base E hv) (mo_X6_marks hv) hk9 rfl (by decide) gX6_commonOf_X6_marks rfl 2 (by decide +kernel) ⟨by rw [hfr]; decide, by rw [hlo]; decide⟩ rfl hl.1 (Nat.le_trans cs_0 (by decide)) rfl dX6_commonOf_15 (fun H locs cells slots hD => ?_)
  refine W.eq (g2 := F0 m 18 ls []) rfl ?_
  refine lv_iconst (v := (0)) hx hb dX6_commonOf_18 (by decide) ?_
  refine hs_istore_n (i := 3) (lv' := [(3, .int ((0 : Int32))), (0, va_rf ((some a0))), (1, .int (p1)), (2, .int (p2))]) hx hb dX6_commonOf_19 rfl hl (by decide) (st_okR (st_okI (st_okI st_ok0))) rfl (fun ls hl => ?_)
  refine lv_iconst (v := (0)) hx hb dX6_commonOf_20 (by decide) ?_
  refine hs_istore (i := 4) (lv' := [(4, .int ((0 : Int32))), (3, .int ((0 : Int32))), (0, va_rf ((some a0))), (1, .int (p1)), (2, .int (p2))]) hx hb dX6_commonOf_21 hl (by decide) (st_okI (st_okR (st_okI (st_okI st_ok0)))) rfl (fun ls hl => ?_)
  exact hL23 _ (some a0) (0 : Int32) (0 : Int32) _ _ _ _ _ _ hD (lv_sub hl [2, 1, 0] rfl) hf
set_option maxHeartbeats 4000000 in
set_option maxRecDepth 100000 in
theorem c_X6_distanceOf (l : Launch) (D : va_G) (G : GC) (base : Nat) (E : PE) {a0 : Nat} {p1 : Int32} {p2 : Int32} {σ0 τ : PS} {rv : Int32} (hF : f_X6_distanceOf E (some a0) p1 p2 σ0 = some (rv, τ)) : Ct l D G base E yX6_distanceOf wsX6_distanceOf 1 24 ([.ref a0, .int (p1), .int (p2)] : List Value) σ0 (some (.int rv)) τ := by
  obtain ⟨hf, hmo⟩ := oM_of hF
  refine Ct.of (own := RX6) [1, 1, 1] (by decide) rfl rfl hmo (ct_R (ct_I (ct_I ct_0))) (by decide) ?_
  intro p e s m below meth c R Q ls H locs cells slots S hKn hRm hfr hlo hlk hret hnm hQ hD hl
  have hx := S.1
  have hb := S.2.1
  have hts := S.2.2.2.2
  have inX6 : ∀ w ∈ u_ws RX6 TX6 23, w ∈ wsX6_distanceOf := by decide +kernel
  have wd0 := hts (.fieldLink RX6 41 "SolidGroupsModel" "marksA" "[I") (by decide +kernel)
  have wd1 := hts (.fieldLink RX6 44 "SolidGroupsModel" "marksB" "[I") (by decide +kernel)
  have wd2 := hts (.fieldLink RX6 13 "SolidGroupsModel" "sizes" "[I") (by decide +kernel)
  have hL38 : ∀ (n : Nat), ∀ (v0 : Option Nat) (v3 : Int32) (v4 : Int32) (σ : PS) (H : Heap) (locs : List Loc) (cells slots : Nat) (ls : Array Slot), Dy D G base E s.heap σ0 σ H locs cells slots → lv_has ls 5 [(0, va_rf (v0)), (3, .int (v3)), (4, .int (v4))] → f_X6_distanceOf_L38 E n v0 v3 v4 σ = some (rv, τ) → W p l e R s m ([.ref a0, .int (p1), .int (p2)] : List Value).toArray below meth c H locs cells slots Q (F0 m 38 ls []) := by
    intro n
    induction n with
    | zero =>
      intro v0 v3 v4 σ H locs cells slots ls hD hl hf
      rw [f_X6_distanceOf_L38] at hf
      cases hf
    | succ n ih =>
      intro v0 v3 v4 σ H locs cells slots ls hD hl hf
      rw [f_X6_distanceOf_L38] at hf
      refine lv_iload hx hb dX6_distanceOf_38 (lv_at hl 2 rfl) ?_
      refine lv_bipush (v := (32)) hx hb dX6_distanceOf_40 (by decide) ?_
      refine lv_icmp_ge (tgt := 72) hx hb dX6_distanceOf_42 (by decide) (fun hc => ?_) (fun hc => ?_)
      · rw [if_pos hc] at hf
        refine lv_iload_n hx hb dX6_distanceOf_72 rfl (lv_at hl 1 rfl) ?_
        obtain ⟨e1, e2⟩ := ret_eq hf
        rw [hQ, ← e1, ← e2]
        exact hw_iret S hlk hret rfl hD dX6_distanceOf_73
      · rw [if_neg hc] at hf
        refine lv_iload_n hx hb dX6_distanceOf_45 rfl (lv_at hl 1 rfl) ?_
        refine hw_aload_n (r := v0) hx hb dX6_distanceOf_46 rfl (lv_at hl 0 rfl) ?_
        obtain ⟨x15, hv, hf⟩ := ob_s hf
        refine hw_gr (C := RX6) (T := TX6) (N := 23) (ref := "SolidGroupsModel") S hKn hD hv rfl (by decide) (by decide) rfl inX6 wd0 (fun _ h9 => h9) dX6_distanceOf_47 ?_
        refine lv_iload hx hb dX6_distanceOf_50 (lv_at hl 2 rfl) ?_
        obtain ⟨x16, hv, hf⟩ := ob_s hf
        refine hw_al S hKn hD hv dX6_distanceOf_52 ?_
        refine hw_aload_n (r := v0) hx hb dX6_distanceOf_53 rfl (lv_at hl 0 rfl) ?_
        obtain ⟨x17, hv, hf⟩ := ob_s hf
        refine hw_gr (C := RX6) (T := TX6) (N := 23) (ref := "SolidGroupsModel") S hKn hD hv rfl (by decide) (by decide) rfl inX6 wd1 (fun _ h9 => h9) dX6_distanceOf_54 ?_
        refine lv_iload hx hb dX6_distanceOf_57 (lv_at hl 2 rfl) ?_
        obtain ⟨x18, hv, hf⟩ := ob_s hf
        refine hw_al S hKn hD hv dX6_distanceOf_59 ?_
        refine lv_isub hx hb dX6_distanceOf_60 ?_
        obtain ⟨r19, s20, hv, hf⟩ := ob_p hf
        refine hw_S (As := [.int (x16 - x18)]) (rest := [.int (v3)]) S hKn hRm hD (c_X6_size l D G base E hv) (mo_X6_size hv) gX6_distanceOf_X6_size rfl 1 (by decide +kernel) ⟨by rw [hfr]; decide, by rw [hlo]; decide⟩ rfl hl.1 (Nat.le_trans (cs_I cs_0) (by decide)) rfl dX6_distanceOf_61 (fun H locs cells slots hD => ?_)
        refine W.eq (g2 := F0 m 64 ls [.int (r19), .int (v3)]) rfl ?_
        refine lv_iadd hx hb dX6_distanceOf_64 ?_
        refine hs_istore_n (i := 3) (lv' := [(3, .int (v3 + r19)), (0, va_rf (v0)), (4, .int (v4))]) hx hb dX6_distanceOf_65 rfl hl (by decide) (st_okR (st_okI (st_okI st_ok0))) rfl (fun ls hl => ?_)
        refine hs_iinc (i := 4) (k := 2) (v := v4 + 1) (lv' := [(4, .int (v4 + 1)), (3, .int (v3 + r19)), (0, va_rf (v0))]) hx hb dX6_distanceOf_66 hl rfl (congrArg (fun z => v4 + z) (by decide)) (by decide) (st_okI (st_okR (st_okI st_ok0))) rfl (fun ls hl => ?_)
        refine lv_goto (tgt := 38) hx hb dX6_distanceOf_69 (by decide) ?_
        exact ih v0 (v3 + r19) (v4 + 1) _ _ _ _ _ _ hD (lv_sub hl [2, 1, 0] rfl) hf
  have hl : lv_has ls 5 [(0, va_rf (some a0)), (1, .int (p1)), (2, .int (p2))] := hl
  unfold g_X6_distanceOf at hf
  refine hw_aload_n (r := (some a0)) hx hb dX6_distanceOf_0 rfl (lv_at hl 0 rfl) ?_
  refine lv_iload_n hx hb dX6_distanceOf_1 rfl (lv_at hl 1 rfl) ?_
  refine hw_aload_n (r := (some a0)) hx hb dX6_distanceOf_2 rfl (lv_at hl 0 rfl) ?_
  obtain ⟨x1, hv, hf⟩ := ob_s hf
  refine hw_gr (C := RX6) (T := TX6) (N := 23) (ref := "SolidGroupsModel") S hKn hD hv rfl (by decide) (by decide) rfl inX6 wd0 (fun _ h9 => h9) dX6_distanceOf_3 ?_
  obtain ⟨b4, hv, hf⟩ := ob_s hf
  obtain ⟨e9, hk9⟩ := oK_of hv
  cases e9
  obtain ⟨r2, s3, hv, hf⟩ := ob_p hf
  refine hw_V (b := a0) (ci := 7) (T := TX6) (N := 23) (As := [.int (p1), va_rf (x1)]) (rest := []) S hKn hRm hD (c_X6_marks l D G base E hv) (mo_X6_marks hv) hk9 rfl (by decide) gX6_distanceOf_X6_marks rfl 2 (by decide +kernel) ⟨by rw [hfr]; decide, by rw [hlo]; decide⟩ rfl hl.1 (Nat.le_trans cs_0 (by decide)) rfl dX6_distanceOf_6 (fun H locs cells slots hD => ?_)
  refine W.eq (g2 := F0 m 9 ls []) rfl ?_
  refine hw_aload_n (r := (some a0)) hx hb dX6_distanceOf_9 rfl (lv_at hl 0 rfl) ?_
  refine lv_iload_n hx hb dX6_distanceOf_10 rfl (lv_at hl 2 rfl) ?_
  refine hw_aload_n (r := (some a0)) hx hb dX6_distanceOf_11 rfl (lv_at hl 0 rfl) ?_
  obtain ⟨x5, hv, hf⟩ := ob_s hf
  refine hw_gr (C := RX6) (T := TX6) (N := 23) (ref := "SolidGroupsModel") S hKn hD hv rfl (by decide) (by decide) rfl inX6 wd1 (fun _ h9 => h9) dX6_distanceOf_12 ?_
  obtain ⟨b8, hv, hf⟩ := ob_s hf
  obtain ⟨e9, hk9⟩ := oK_of hv
  cases e9
  obtain ⟨r6, s7, hv, hf⟩ := ob_p hf
  refine hw_V (b := a0) (ci := 7) (T := TX6) (N := 23) (As := [.int (p2), va_rf (x5)]) (rest := []) S hKn hRm hD (c_X6_marks l D G base E hv) (mo_X6_marks hv) hk9 rfl (by decide) gX6_distanceOf_X6_marks rfl 2 (by decide +kernel) ⟨by rw [hfr]; decide, by rw [hlo]; decide⟩ rfl hl.1 (Nat.le_trans cs_0 (by decide)) rfl dX6_distanceOf_15 (fun H locs cells slots hD => ?_)
  refine W.eq (g2 := F0 m 18 ls []) rfl ?_
  refine hw_aload_n (r := (some a0)) hx hb dX6_distanceOf_18 rfl (lv_at hl 0 rfl) ?_
  obtain ⟨x9, hv, hf⟩ := ob_s hf
  refine hw_gr (C := RX6) (T := TX6) (N := 23) (ref := "SolidGroupsModel") S hKn hD hv rfl (by decide) (by decide) rfl inX6 wd2 (fun _ h9 => h9) dX6_distanceOf_19 ?_
  refine lv_iload_n hx hb dX6_distanceOf_22 rfl (lv_at hl 1 rfl) ?_
  obtain ⟨x10, hv, hf⟩ := ob_s hf
  refine hw_al S hKn hD hv dX6_distanceOf_23 ?_
  refine hw_aload_n (r := (some a0)) hx hb dX6_distanceOf_24 rfl (lv_at hl 0 rfl) ?_
  obtain ⟨x11, hv, hf⟩ := ob_s hf
  refine hw_gr (C := RX6) (T := TX6) (N := 23) (ref := "SolidGroupsModel") S hKn hD hv rfl (by decide) (by decide) rfl inX6 wd2 (fun _ h9 => h9) dX6_distanceOf_25 ?_
  refine lv_iload_n hx hb dX6_distanceOf_28 rfl (lv_at hl 2 rfl) ?_
  obtain ⟨x12, hv, hf⟩ := ob_s hf
  refine hw_al S hKn hD hv dX6_distanceOf_29 ?_
  refine lv_isub hx hb dX6_distanceOf_30 ?_
  obtain ⟨r13, s14, hv, hf⟩ := ob_p hf
  refine hw_S (As := [.int (x10 - x12)]) (rest := []) S hKn hRm hD (c_X6_size l D G base E hv) (mo_X6_size hv) gX6_distanceOf_X6_size rfl 1 (by decide +kernel) ⟨by rw [hfr]; decide, by rw [hlo]; decide⟩ rfl hl.1 (Nat.le_trans cs_0 (by decide)) rfl dX6_distanceOf_31 (fun H locs cells slots hD => ?_)
  refine W.eq (g2 := F0 m 34 ls [.int (r13)]) rfl ?_
  refine hs_istore_n (i := 3) (lv' := [(3, .int (r13)), (0, va_rf ((some a0))), (1, .int (p1)), (2, .int (p2))]) hx hb dX6_distanceOf_34 rfl hl (by decide) (st_okR (st_okI (st_okI st_ok0))) rfl (fun ls hl => ?_)
  refine lv_iconst (v := (0)) hx hb dX6_distanceOf_35 (by decide) ?_
  refine hs_istore (i := 4) (lv' := [(4, .int ((0 : Int32))), (3, .int (r13)), (0, va_rf ((some a0))), (1, .int (p1)), (2, .int (p2))]) hx hb dX6_distanceOf_36 hl (by decide) (st_okI (st_okR (st_okI (st_okI st_ok0)))) rfl (fun ls hl => ?_)
  exact hL38 _ (some a0) r13 (0 : Int32) _ _ _ _ _ _ hD (lv_sub hl [2, 1, 0] rfl) hf
