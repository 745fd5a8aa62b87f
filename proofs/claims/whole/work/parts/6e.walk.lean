set_option maxHeartbeats 4000000 in
set_option maxRecDepth 100000 in
theorem c_X0_measureSums (l : Launch) (D : va_G) (G : GC) (base : Nat) (E : PE) {a0 : Nat} {p1 : Int32} {σ0 τ : PS} {rv : Unit} (hF : f_X0_measureSums E (some a0) p1 σ0 = some (rv, τ)) : Ct l D G base E yX0_measureSums wsX0_measureSums 2 51 ([.ref a0, .int (p1)] : List Value) σ0 none τ := by
  obtain ⟨hf, hmo⟩ := oM_of hF
  refine Ct.of (own := RX0) [1, 1] (by decide) rfl rfl hmo (ct_R (ct_I ct_0)) (by decide) ?_
  intro p e s m below meth c R Q ls H locs cells slots S hKn hRm hfr hlo hlk hret hnm hQ hD hl
  have hx := S.1
  have hb := S.2.1
  have hts := S.2.2.2.2
  have inX0 : ∀ w ∈ u_ws RX0 TX0 3, w ∈ wsX0_measureSums := by decide +kernel
  have wd0 := hts (.fieldLink RX0 22 "SolidGroups$Arranger" "sums" "[I") (by decide +kernel)
  have hB61 : ∀ (k2 : Option Nat → Int32 → Int32 → PS → Option (Unit × PS)) (hk2 : ∀ (z0 : Option Nat) (z1 : Int32) (z2 : Int32) (σ : PS) (H : Heap) (locs : List Loc) (cells slots : Nat) (ls : Array Slot), Dy D G base E s.heap σ0 σ H locs cells slots → lv_has ls 5 [(0, va_rf (z0)), (1, .int (z1)), (2, .int (z2))] → k2 z0 z1 z2 σ = some (rv, τ) → W p l e R s m ([.ref a0, .int (p1)] : List Value).toArray below meth c H locs cells slots Q (F0 m 2 ls [])) (k11 : Option Nat → Int32 → Int32 → Int32 → PS → Option (Unit × PS)) (hk11 : ∀ (z0 : Option Nat) (z1 : Int32) (z2 : Int32) (z3 : Int32) (σ : PS) (H : Heap) (locs : List Loc) (cells slots : Nat) (ls : Array Slot), Dy D G base E s.heap σ0 σ H locs cells slots → lv_has ls 5 [(0, va_rf (z0)), (1, .int (z1)), (2, .int (z2)), (3, .int (z3))] → k11 z0 z1 z2 z3 σ = some (rv, τ) → W p l e R s m ([.ref a0, .int (p1)] : List Value).toArray below meth c H locs cells slots Q (F0 m 11 ls [])), ∀ (v0 : Option Nat) (v1 : Int32) (v2 : Int32) (v3 : Int32) (σ : PS) (H : Heap) (locs : List Loc) (cells slots : Nat) (ls : Array Slot), Dy D G base E s.heap σ0 σ H locs cells slots → lv_has ls 5 [(0, va_rf (v0)), (1, .int (v1)), (2, .int (v2)), (3, .int (v3))] → f_X0_measureSums_B61 E k2 k11 v0 v1 v2 v3 σ = some (rv, τ) → W p l e R s m ([.ref a0, .int (p1)] : List Value).toArray below meth c H locs cells slots Q (F0 m 61 ls []) := by
    intro k2 hk2 k11 hk11 v0 v1 v2 v3 σ H locs cells slots ls hD hl hf
    unfold f_X0_measureSums_B61 at hf
    refine hs_iinc (i := 3) (k := 3) (v := v3 + 1) (lv' := [(3, .int (v3 + 1)), (0, va_rf (v0)), (1, .int (v1)), (2, .int (v2))]) hx hb dX0_measureSums_61 hl rfl (congrArg (fun z => v3 + z) (by decide)) (by decide) (st_okR (st_okI (st_okI (st_okI st_ok0)))) rfl (fun ls hl => ?_)
    refine lv_goto (tgt := 11) hx hb dX0_measureSums_64 (by decide) ?_
    exact hk11 v0 v1 v2 (v3 + 1) _ _ _ _ _ _ hD (lv_sub hl [1, 2, 3, 0] rfl) hf
  have hB60 : ∀ (k2 : Option Nat → Int32 → Int32 → PS → Option (Unit × PS)) (hk2 : ∀ (z0 : Option Nat) (z1 : Int32) (z2 : Int32) (σ : PS) (H : Heap) (locs : List Loc) (cells slots : Nat) (ls : Array Slot), Dy D G base E s.heap σ0 σ H locs cells slots → lv_has ls 5 [(0, va_rf (z0)), (1, .int (z1)), (2, .int (z2))] → k2 z0 z1 z2 σ = some (rv, τ) → W p l e R s m ([.ref a0, .int (p1)] : List Value).toArray below meth c H locs cells slots Q (F0 m 2 ls [])) (k11 : Option Nat → Int32 → Int32 → Int32 → PS → Option (Unit × PS)) (hk11 : ∀ (z0 : Option Nat) (z1 : Int32) (z2 : Int32) (z3 : Int32) (σ : PS) (H : Heap) (locs : List Loc) (cells slots : Nat) (ls : Array Slot), Dy D G base E s.heap σ0 σ H locs cells slots → lv_has ls 5 [(0, va_rf (z0)), (1, .int (z1)), (2, .int (z2)), (3, .int (z3))] → k11 z0 z1 z2 z3 σ = some (rv, τ) → W p l e R s m ([.ref a0, .int (p1)] : List Value).toArray below meth c H locs cells slots Q (F0 m 11 ls [])), ∀ (v0 : Option Nat) (v1 : Int32) (v2 : Int32) (v3 : Int32) (w0 : Option Nat) (w1 : Int32) (w2 : Int32) (σ : PS) (H : Heap) (locs : List Loc) (cells slots : Nat) (ls : Array Slot), Dy D G base E s.heap σ0 σ H locs cells slots → lv_has ls 5 [(0, va_rf (v0)), (1, .int (v1)), (2, .int (v2)), (3, .int (v3))] → f_X0_measureSums_B60 E k2 k11 v0 v1 v2 v3 w0 w1 w2 σ = some (rv, τ) → W p l e R s m ([.ref a0, .int (p1)] : List Value).toArray below meth c H locs cells slots Q (F0 m 60 ls [.int (w2), .int (w1), va_rf (w0)]) := by
    intro k2 hk2 k11 hk11 v0 v1 v2 v3 w0 w1 w2 σ H locs cells slots ls hD hl hf
    unfold f_X0_measureSums_B60 at hf
    obtain ⟨s8, hv, hf⟩ := ob_s hf
    refine hw_as S hKn hD hv dX0_measureSums_60 (fun H locs hD => ?_)
    exact hB61 _ hk2 _ hk11 v0 v1 v2 v3 _ _ _ _ _ _ hD (lv_sub hl [0, 1, 2, 3] rfl) hf
  have hL11 : ∀ (k2 : Option Nat → Int32 → Int32 → PS → Option (Unit × PS)) (hk2 : ∀ (z0 : Option Nat) (z1 : Int32) (z2 : Int32) (σ : PS) (H : Heap) (locs : List Loc) (cells slots : Nat) (ls : Array Slot), Dy D G base E s.heap σ0 σ H locs cells slots → lv_has ls 5 [(0, va_rf (z0)), (1, .int (z1)), (2, .int (z2))] → k2 z0 z1 z2 σ = some (rv, τ) → W p l e R s m ([.ref a0, .int (p1)] : List Value).toArray below meth c H locs cells slots Q (F0 m 2 ls [])) (n : Nat), ∀ (v0 : Option Nat) (v1 : Int32) (v2 : Int32) (v3 : Int32) (σ : PS) (H : Heap) (locs : List Loc) (cells slots : Nat) (ls : Array Slot), Dy D G base E s.heap σ0 σ H locs cells slots → lv_has ls 5 [(0, va_rf (v0)), (1, .int (v1)), (2, .int (v2)), (3, .int (v3))] → f_X0_measureSums_L11 E k2 n v0 v1 v2 v3 σ = some (rv, τ) → W p l e R s m ([.ref a0, .int (p1)] : List Value).toArray below meth c H locs cells slots Q (F0 m 11 ls []) := by
    intro k2 hk2 n
    induction n with
    | zero =>
      intro v0 v1 v2 v3 σ H locs cells slots ls hD hl hf
      rw [f_X0_measureSums_L11] at hf
      cases hf
    | succ n ih =>
      intro v0 v1 v2 v3 σ H locs cells slots ls hD hl hf
      rw [f_X0_measureSums_L11] at hf
      refine lv_iload_n hx hb dX0_measureSums_11 rfl (lv_at hl 3 rfl) ?_
      refine lv_iload_n hx hb dX0_measureSums_12 rfl (lv_at hl 1 rfl) ?_
      refine lv_icmp_ge (tgt := 67) hx hb dX0_measureSums_13 (by decide) (fun hc => ?_) (fun hc => ?_)
      · rw [if_pos hc] at hf
        refine hs_iinc (i := 2) (k := 2) (v := v2 + 1) (lv' := [(2, .int (v2 + 1)), (0, va_rf (v0)), (1, .int (v1)), (3, .int (v3))]) hx hb dX0_measureSums_67 hl rfl (congrArg (fun z => v2 + z) (by decide)) (by decide) (st_okR (st_okI (st_okI (st_okI st_ok0)))) rfl (fun ls hl => ?_)
        refine lv_goto (tgt := 2) hx hb dX0_measureSums_70 (by decide) ?_
        exact hk2 v0 v1 (v2 + 1) _ _ _ _ _ _ hD (lv_sub hl [1, 2, 0] rfl) hf
      · rw [if_neg hc] at hf
        refine lv_iload_n hx hb dX0_measureSums_16 rfl (lv_at hl 2 rfl) ?_
        refine lv_iload_n hx hb dX0_measureSums_17 rfl (lv_at hl 3 rfl) ?_
        refine lv_ishr hx hb dX0_measureSums_18 ?_
        refine lv_iconst (v := (1)) hx hb dX0_measureSums_19 (by decide) ?_
        refine lv_iand hx hb dX0_measureSums_20 ?_
        refine lv_if_ne (tgt := 61) hx hb dX0_measureSums_21 (by decide) (fun hc => ?_) (fun hc => ?_)
        · rw [if_neg hc] at hf
          exact hB61 _ hk2 _ ih v0 v1 v2 v3 _ _ _ _ _ _ hD (lv_sub hl [0, 1, 2, 3] rfl) hf
        · rw [if_pos hc] at hf
          refine hw_aload_n (r := v0) hx hb dX0_measureSums_24 rfl (lv_at hl 0 rfl) ?_
          refine lv_iload_n hx hb dX0_measureSums_25 rfl (lv_at hl 3 rfl) ?_
          refine lv_iload_n hx hb dX0_measureSums_26 rfl (lv_at hl 2 rfl) ?_
          refine lv_iload_n hx hb dX0_measureSums_27 rfl (lv_at hl 1 rfl) ?_
          obtain ⟨b3, hv, hf⟩ := ob_s hf
          obtain ⟨e9, hk9⟩ := oK_of hv
          cases e9
          obtain ⟨r1, s2, hv, hf⟩ := ob_p hf
          refine hw_V (b := b3) (ci := 1) (T := TX0) (N := 3) (As := [.int (v3), .int (v2), .int (v1)]) (rest := []) S hKn hRm hD (c_X0_bestNext l D G base E hv) (mo_X0_bestNext hv) hk9 rfl (by decide) gX0_measureSums_X0_bestNext rfl 3 (by decide +kernel) ⟨by rw [hfr]; decide, by rw [hlo]; decide⟩ rfl hl.1 (Nat.le_trans cs_0 (by decide)) rfl dX0_measureSums_28 (fun H locs cells slots hD => ?_)
          refine W.eq (g2 := F0 m 31 ls [.int (r1)]) rfl ?_
          refine hs_istore (i := 4) (lv' := [(4, .int (r1)), (0, va_rf ((some b3))), (1, .int (v1)), (2, .int (v2)), (3, .int (v3))]) hx hb dX0_measureSums_31 hl (by decide) (st_okR (st_okI (st_okI (st_okI st_ok0)))) rfl (fun ls hl => ?_)
          refine hw_aload_n (r := (some b3)) hx hb dX0_measureSums_33 rfl (lv_at hl 1 rfl) ?_
          obtain ⟨x4, hv, hf⟩ := ob_s hf
          refine hw_gr (C := RX0) (T := TX0) (N := 3) (ref := "SolidGroups$Arranger") S hKn hD hv rfl (by decide) (by decide) rfl inX0 wd0 (fun _ h9 => h9) dX0_measureSums_34 ?_
          refine lv_iload_n hx hb dX0_measureSums_37 rfl (lv_at hl 3 rfl) ?_
          refine lv_bipush (v := (7)) hx hb dX0_measureSums_38 (by decide) ?_
          refine lv_imul hx hb dX0_measureSums_40 ?_
          refine lv_iload_n hx hb dX0_measureSums_41 rfl (lv_at hl 4 rfl) ?_
          refine lv_iadd hx hb dX0_measureSums_42 ?_
          refine lv_iload hx hb dX0_measureSums_43 (lv_at hl 0 rfl) ?_
          refine lv_if_ge (tgt := 52) hx hb dX0_measureSums_45 (by decide) (fun hc => ?_) (fun hc => ?_)
          · rw [if_pos hc] at hf
            refine hw_aload_n (r := (some b3)) hx hb dX0_measureSums_52 rfl (lv_at hl 1 rfl) ?_
            refine lv_iload_n hx hb dX0_measureSums_53 rfl (lv_at hl 4 rfl) ?_
            refine lv_iload hx hb dX0_measureSums_54 (lv_at hl 0 rfl) ?_
            refine lv_iload_n hx hb dX0_measureSums_56 rfl (lv_at hl 3 rfl) ?_
            obtain ⟨b7, hv, hf⟩ := ob_s hf
            obtain ⟨e9, hk9⟩ := oK_of hv
            cases e9
            obtain ⟨r5, s6, hv, hf⟩ := ob_p hf
            refine hw_V (b := b3) (ci := 1) (T := TX0) (N := 3) (As := [.int (v3), .int (r1), .int (v2)]) (rest := [.int ((v2 * (7 : Int32)) + v3), va_rf (x4)]) S hKn hRm hD (c_X0_sumBy l D G base E hv) (mo_X0_sumBy hv) hk9 rfl (by decide) gX0_measureSums_X0_sumBy rfl 3 (by decide +kernel) ⟨by rw [hfr]; decide, by rw [hlo]; decide⟩ rfl hl.1 (Nat.le_trans (cs_I (cs_A cs_0)) (by decide)) rfl dX0_measureSums_57 (fun H locs cells slots hD => ?_)
            refine W.eq (g2 := F0 m 60 ls [.int (r5), .int ((v2 * (7 : Int32)) + v3), va_rf (x4)]) rfl ?_
            exact hB60 _ hk2 _ ih (some b3) v1 v2 v3 x4 ((v2 * (7 : Int32)) + v3) r5 _ _ _ _ _ _ hD (lv_sub hl [1, 2, 3, 4] rfl) hf
          · rw [if_neg hc] at hf
            refine lv_iconst (v := (0)) hx hb dX0_measureSums_48 (by decide) ?_
            refine lv_goto (tgt := 60) hx hb dX0_measureSums_49 (by decide) ?_
            exact hB60 _ hk2 _ ih (some b3) v1 v2 v3 x4 ((v2 * (7 : Int32)) + v3) (0 : Int32) _ _ _ _ _ _ hD (lv_sub hl [1, 2, 3, 4] rfl) hf
  have hL2 : ∀ (n : Nat), ∀ (v0 : Option Nat) (v1 : Int32) (v2 : Int32) (σ : PS) (H : Heap) (locs : List Loc) (cells slots : Nat) (ls : Array Slot), Dy D G base E s.heap σ0 σ H locs cells slots → lv_has ls 5 [(0, va_rf (v0)), (1, .int (v1)), (2, .int (v2))] → f_X0_measureSums_L2 E n v0 v1 v2 σ = some (rv, τ) → W p l e R s m ([.ref a0, .int (p1)] : List Value).toArray below meth c H locs cells slots Q (F0 m 2 ls []) := by
    intro n
    induction n with
    | zero =>
      intro v0 v1 v2 σ H locs cells slots ls hD hl hf
      rw [f_X0_measureSums_L2] at hf
      cases hf
    | succ n ih =>
      intro v0 v1 v2 σ H locs cells slots ls hD hl hf
      rw [f_X0_measureSums_L2] at hf
      refine lv_iload_n hx hb dX0_measureSums_2 rfl (lv_at hl 2 rfl) ?_
      refine lv_iconst (v := (1)) hx hb dX0_measureSums_3 (by decide) ?_
      refine lv_iload_n hx hb dX0_measureSums_4 rfl (lv_at hl 1 rfl) ?_
      refine lv_ishl hx hb dX0_measureSums_5 ?_
      refine lv_icmp_ge (tgt := 73) hx hb dX0_measureSums_6 (by decide) (fun hc => ?_) (fun hc => ?_)
      · rw [if_pos hc] at hf
        obtain ⟨-, e2⟩ := ret_eq hf
        rw [hQ, ← e2]
        exact hw_vret S hlk hret hD dX0_measureSums_73
      · rw [if_neg hc] at hf
        refine lv_iconst (v := (0)) hx hb dX0_measureSums_9 (by decide) ?_
        refine hs_istore_n (i := 3) (lv' := [(3, .int ((0 : Int32))), (0, va_rf (v0)), (1, .int (v1)), (2, .int (v2))]) hx hb dX0_measureSums_10 rfl hl (by decide) (st_okR (st_okI (st_okI st_ok0))) rfl (fun ls hl => ?_)
        exact hL11 _ ih _ v0 v1 v2 (0 : Int32) _ _ _ _ _ _ hD (lv_sub hl [1, 2, 3, 0] rfl) hf
  have hl : lv_has ls 5 [(0, va_rf (some a0)), (1, .int (p1))] := hl
  unfold g_X0_measureSums at hf
  refine lv_iconst (v := (0)) hx hb dX0_measureSums_0 (by decide) ?_
  refine hs_istore_n (i := 2) (lv' := [(2, .int ((0 : Int32))), (0, va_rf ((some a0))), (1, .int (p1))]) hx hb dX0_measureSums_1 rfl hl (by decide) (st_okR (st_okI st_ok0)) rfl (fun ls hl => ?_)
  exact hL2 _ (some a0) p1 (0 : Int32) _ _ _ _ _ _ hD (lv_sub hl [1, 2, 0] rfl) hf
set_option maxHeartbeats 4000000 in
set_option maxRecDepth 100000 in
theorem c_X0_arrangeBest (l : Launch) (D : va_G) (G : GC) (base : Nat) (E : PE) {a0 : Nat} {p1 : Option Nat} {σ0 τ : PS} {rv : Unit} (hF : f_X0_arrangeBest E (some a0) p1 σ0 = some (rv, τ)) : Ct l D G base E yX0_arrangeBest wsX0_arrangeBest 7 191 ([.ref a0, va_rf (p1)] : List Value) σ0 none τ := by
  obtain ⟨hf, hmo⟩ := oM_of hF
  refine Ct.of (own := RX0) [1, 1] (by decide) rfl rfl hmo (ct_R (ct_A ct_0)) (by decide) ?_
  intro p e s m below meth c R Q ls H locs cells slots S hKn hRm hfr hlo hlk hret hnm hQ hD hl
  have hx := S.1
  have hb := S.2.1
  have hts := S.2.2.2.2
  have inX0 : ∀ w ∈ u_ws RX0 TX0 3, w ∈ wsX0_arrangeBest := by decide +kernel
  have wd0 := hts (.fieldLink RX0 12 "SolidGroups$Arranger" "byNumbers" "Ljava/util/ArrayList;") (by decide +kernel)
  have wd1 := hts (.classLink RX0 40 "SolidGroups$Entry") (by decide +kernel)
  have hB122 : ∀ (k63 : Option Nat → Option Nat → Int32 → Int32 → Int32 → Int32 → PS → Option (Unit × PS)) (hk63 : ∀ (z0 : Option Nat) (z1 : Option Nat) (z2 : Int32) (z3 : Int32) (z4 : Int32) (z5 : Int32) (σ : PS) (H : Heap) (locs : List Loc) (cells slots : Nat) (ls : Array Slot), Dy D G base E s.heap σ0 σ H locs cells slots → lv_has ls 7 [(0, va_rf (z0)), (1, va_rf (z1)), (2, .int (z2)), (3, .int (z3)), (4, .int (z4)), (5, .int (z5))] → k63 z0 z1 z2 z3 z4 z5 σ = some (rv, τ) → W p l e R s m ([.ref a0, va_rf (p1)] : List Value).toArray below meth c H locs cells slots Q (F0 m 63 ls [])), ∀ (v0 : Option Nat) (v1 : Option Nat) (v2 : Int32) (v3 : Int32) (v4 : Int32) (v5 : Int32) (σ : PS) (H : Heap) (locs : List Loc) (cells slots : Nat) (ls : Array Slot), Dy D G base E s.heap σ0 σ H locs cells slots → lv_has ls 7 [(0, va_rf (v0)), (1, va_rf (v1)), (2, .int (v2)), (3, .int (v3)), (4, .int (v4)), (5, .int (v5))] → f_X0_arrangeBest_B122 E k63 v0 v1 v2 v3 v4 v5 σ = some (rv, τ) → W p l e R s m ([.ref a0, va_rf (p1)] : List Value).toArray below meth c H locs cells slots Q (F0 m 122 ls []) := by
    intro k63 hk63 v0 v1 v2 v3 v4 v5 σ H locs cells slots ls hD hl hf
    unfold f_X0_arrangeBest_B122 at hf
    refine hs_iinc (i := 5) (k := 5) (v := v5 + 1) (lv' := [(5, .int (v5 + 1)), (0, va_rf (v0)), (1, va_rf (v1)), (2, .int (v2)), (3, .int (v3)), (4, .int (v4))]) hx hb dX0_arrangeBest_122 hl rfl (congrArg (fun z => v5 + z) (by decide)) (by decide) (st_okR (st_okR (st_okI (st_okI (st_okI (st_okI st_ok0)))))) rfl (fun ls hl => ?_)
    refine lv_goto (tgt := 63) hx hb dX0_arrangeBest_125 (by decide) ?_
    exact hk63 v0 v1 v2 v3 v4 (v5 + 1) _ _ _ _ _ _ hD (lv_sub hl [1, 2, 3, 4, 5, 0] rfl) hf
  have hL63 : ∀ (n : Nat), ∀ (v0 : Option Nat) (v1 : Option Nat) (v2 : Int32) (v3 : Int32) (v4 : Int32) (v5 : Int32) (σ : PS) (H : Heap) (locs : List Loc) (cells slots : Nat) (ls : Array Slot), Dy D G base E s.heap σ0 σ H locs cells slots → lv_has ls 7 [(0, va_rf (v0)), (1, va_rf (v1)), (2, .int (v2)), (3, .int (v3)), (4, .int (v4)), (5, .int (v5))] → f_X0_arrangeBest_L63 E n v0 v1 v2 v3 v4 v5 σ = some (rv, τ) → W p l e R s m ([.ref a0, va_rf (p1)] : List Value).toArray below meth c H locs cells slots Q (F0 m 63 ls []) := by
    intro n
    induction n with
    | zero =>
      intro v0 v1 v2 v3 v4 v5 σ H locs cells slots ls hD hl hf
      rw [f_X0_arrangeBest_L63] at hf
      cases hf
    | succ n ih =>
      intro v0 v1 v2 v3 v4 v5 σ H locs cells slots ls hD hl hf
      rw [f_X0_arrangeBest_L63] at hf
      refine lv_iload hx hb dX0_arrangeBest_63 (lv_at hl 5 rfl) ?_
      refine lv_iload_n hx hb dX0_arrangeBest_65 rfl (lv_at hl 2 rfl) ?_
      refine lv_icmp_ge (tgt := 128) hx hb dX0_arrangeBest_66 (by decide) (fun hc => ?_) (fun hc => ?_)
      · rw [if_pos hc] at hf
        obtain ⟨-, e2⟩ := ret_eq hf
        rw [hQ, ← e2]
        exact hw_vret S hlk hret hD dX0_arrangeBest_128
      · rw [if_neg hc] at hf
        refine hw_aload_n (r := v0) hx hb dX0_arrangeBest_69 rfl (lv_at hl 0 rfl) ?_
        refine lv_iload hx hb dX0_arrangeBest_70 (lv_at hl 4 rfl) ?_
        refine lv_iload_n hx hb dX0_arrangeBest_72 rfl (lv_at hl 3 rfl) ?_
        refine lv_iload_n hx hb dX0_arrangeBest_73 rfl (lv_at hl 2 rfl) ?_
        obtain ⟨b24, hv, hf⟩ := ob_s hf
        obtain ⟨e9, hk9⟩ := oK_of hv
        cases e9
        obtain ⟨r22, s23, hv, hf⟩ := ob_p hf
        refine hw_V (b := b24) (ci := 1) (T := TX0) (N := 3) (As := [.int (v4), .int (v3), .int (v2)]) (rest := []) S hKn hRm hD (c_X0_bestNext l D G base E hv) (mo_X0_bestNext hv) hk9 rfl (by decide) gX0_arrangeBest_X0_bestNext rfl 3 (by decide +kernel) ⟨by rw [hfr]; decide, by rw [hlo]; decide⟩ rfl hl.1 (Nat.le_trans cs_0 (by decide)) rfl dX0_arrangeBest_74 (fun H locs cells slots hD => ?_)
        refine W.eq (g2 := F0 m 77 ls [.int (r22)]) rfl ?_
        refine hs_istore (i := 6) (lv' := [(6, .int (r22)), (0, va_rf ((some b24))), (1, va_rf (v1)), (2, .int (v2)), (3, .int (v3)), (4, .int (v4)), (5, .int (v5))]) hx hb dX0_arrangeBest_77 hl (by decide) (st_okR (st_okR (st_okI (st_okI (st_okI (st_okI st_ok0)))))) rfl (fun ls hl => ?_)
        refine lv_iload hx hb dX0_arrangeBest_79 (lv_at hl 0 rfl) ?_
        refine lv_if_lt (tgt := 122) hx hb dX0_arrangeBest_81 (by decide) (fun hc => ?_) (fun hc => ?_)
        · rw [if_pos hc] at hf
          exact hB122 _ ih (some b24) v1 v2 v3 v4 v5 _ _ _ _ _ _ hD (lv_sub hl [1, 2, 3, 4, 5, 6] rfl) hf
        · rw [if_neg hc] at hf
          refine lv_iload hx hb dX0_arrangeBest_84 (lv_at hl 0 rfl) ?_
          refine lv_iload_n hx hb dX0_arrangeBest_86 rfl (lv_at hl 3 rfl) ?_
          refine lv_icmp_ge (tgt := 122) hx hb dX0_arrangeBest_87 (by decide) (fun hc => ?_) (fun hc => ?_)
          · rw [if_pos hc] at hf
            exact hB122 _ ih (some b24) v1 v2 v3 v4 v5 _ _ _ _ _ _ hD (lv_sub hl [1, 2, 3, 4, 5, 6] rfl) hf
          · rw [if_neg hc] at hf
            refine hw_aload_n (r := v1) hx hb dX0_arrangeBest_90 rfl (lv_at hl 2 rfl) ?_
            refine lv_iload hx hb dX0_arrangeBest_91 (lv_at hl 6 rfl) ?_
            refine hw_aload_n (r := (some b24)) hx hb dX0_arrangeBest_93 rfl (lv_at hl 1 rfl) ?_
            obtain ⟨x25, hv, hf⟩ := ob_s hf
            refine hw_gr (C := RX0) (T := TX0) (N := 3) (ref := "SolidGroups$Arranger") S hKn hD hv rfl (by decide) (by decide) rfl inX0 wd0 (fun _ h9 => h9) dX0_arrangeBest_94 ?_
            refine lv_iload hx hb dX0_arrangeBest_97 (lv_at hl 0 rfl) ?_
            obtain ⟨b28, hv, hf⟩ := ob_s hf
            obtain ⟨e9, hk9⟩ := oK_of hv
            cases e9
            obtain ⟨r26, s27, hv, hf⟩ := ob_p hf
            refine hw_V (b := b28) (ci := 0) (T := TJx4a65c) (N := 3) (As := [.int (r22)]) (rest := [.int (v5), va_rf (v1)]) S hKn hRm hD (c_Jx4a65c_get_915e3 l D G base E hv) (mo_Jx4a65c_get_915e3 hv) hk9 rfl (by decide) gX0_arrangeBest_Jx4a65c_get_915e3 rfl 1 (by decide +kernel) ⟨by rw [hfr]; decide, by rw [hlo]; decide⟩ rfl hl.1 (Nat.le_trans (cs_I (cs_A cs_0)) (by decide)) rfl dX0_arrangeBest_99 (fun H locs cells slots hD => ?_)
            refine W.eq (g2 := F0 m 102 ls [va_rf (r26), .int (v5), va_rf (v1)]) rfl ?_
            obtain ⟨u29, hv, hf⟩ := ob_s hf
            refine hw_ca (C := RX1) (T := TX1) (N := 6) S hKn hD hv rfl (by decide) wd1 dX0_arrangeBest_102 ?_
            obtain ⟨b32, hv, hf⟩ := ob_s hf
            obtain ⟨e9, hk9⟩ := oK_of hv
            cases e9
            obtain ⟨r30, s31, hv, hf⟩ := ob_p hf
            refine hw_V (b := b32) (ci := 0) (T := TJx4a65c) (N := 3) (As := [.int (v5), va_rf (r26)]) (rest := []) S hKn hRm hD (c_Jx4a65c_set_bcc79 l D G base E hv) (mo_Jx4a65c_set_bcc79 hv) hk9 rfl (by decide) gX0_arrangeBest_Jx4a65c_set_bcc79 rfl 2 (by decide +kernel) ⟨by rw [hfr]; decide, by rw [hlo]; decide⟩ rfl hl.1 (Nat.le_trans cs_0 (by decide)) rfl dX0_arrangeBest_105 (fun H locs cells slots hD => ?_)
            refine W.eq (g2 := F0 m 108 ls [va_rf (r30)]) rfl ?_
            refine lv_pop hx hb dX0_arrangeBest_108 (va_rf_cat _) ?_
            refine lv_iload_n hx hb dX0_arrangeBest_109 rfl (lv_at hl 4 rfl) ?_
            refine lv_iconst (v := (1)) hx hb dX0_arrangeBest_110 (by decide) ?_
            refine lv_iload hx hb dX0_arrangeBest_111 (lv_at hl 0 rfl) ?_
            refine lv_ishl hx hb dX0_arrangeBest_113 ?_
            refine lv_iconst (v := (-1)) hx hb dX0_arrangeBest_114 (by decide) ?_
            refine lv_ixor hx hb dX0_arrangeBest_115 ?_
            refine lv_iand hx hb dX0_arrangeBest_116 ?_
            refine hs_istore_n (i := 3) (lv' := [(3, .int (v3 &&& (((1 : Int32) <<< (r22 &&& 31)) ^^^ (-1 : Int32)))), (6, .int (r22)), (0, va_rf ((some b24))), (1, va_rf ((some b32))), (2, .int (v2)), (4, .int (v4)), (5, .int (v5))]) hx hb dX0_arrangeBest_117 rfl hl (by decide) (st_okI (st_okR (st_okR (st_okI (st_okI (st_okI (st_okI st_ok0))))))) rfl (fun ls hl => ?_)
            refine lv_iload hx hb dX0_arrangeBest_118 (lv_at hl 1 rfl) ?_
            refine hs_istore (i := 4) (lv' := [(4, .int (r22)), (3, .int (v3 &&& (((1 : Int32) <<< (r22 &&& 31)) ^^^ (-1 : Int32)))), (6, .int (r22)), (0, va_rf ((some b24))), (1, va_rf ((some b32))), (2, .int (v2)), (5, .int (v5))]) hx hb dX0_arrangeBest_120 hl (by decide) (st_okI (st_okI (st_okR (st_okR (st_okI (st_okI (st_okI st_ok0))))))) rfl (fun ls hl => ?_)
            exact hB122 _ ih (some b24) (some b32) v2 (v3 &&& (((1 : Int32) <<< (r22 &&& 31)) ^^^ (-1 : Int32))) r22 v5 _ _ _ _ _ _ hD (lv_sub hl [3, 4, 5, 1, 0, 6] rfl) hf
  have hL14 : ∀ (n : Nat), ∀ (v0 : Option Nat) (v1 : Option Nat) (v2 : Int32) (v3 : Int32) (σ : PS) (H : Heap) (locs : List Loc) (cells slots : Nat) (ls : Array Slot), Dy D G base E s.heap σ0 σ H locs cells slots → lv_has ls 7 [(0, va_rf (v0)), (1, va_rf (v1)), (2, .int (v2)), (3, .int (v3))] → f_X0_arrangeBest_L14 E n v0 v1 v2 v3 σ = some (rv, τ) → W p l e R s m ([.ref a0, va_rf (p1)] : List Value).toArray below meth c H locs cells slots Q (F0 m 14 ls []) := by
    intro n
    induction n with
    | zero =>
      intro v0 v1 v2 v3 σ H locs cells slots ls hD hl hf
      rw [f_X0_arrangeBest_L14] at hf
      cases hf
    | succ n ih =>
      intro v0 v1 v2 v3 σ H locs cells slots ls hD hl hf
      rw [f_X0_arrangeBest_L14] at hf
      refine lv_iload_n hx hb dX0_arrangeBest_14 rfl (lv_at hl 3 rfl) ?_
      refine lv_iload_n hx hb dX0_arrangeBest_15 rfl (lv_at hl 2 rfl) ?_
      refine lv_icmp_ge (tgt := 41) hx hb dX0_arrangeBest_16 (by decide) (fun hc => ?_) (fun hc => ?_)
      · rw [if_pos hc] at hf
        refine hw_aload_n (r := v0) hx hb dX0_arrangeBest_41 rfl (lv_at hl 0 rfl) ?_
        refine lv_iload_n hx hb dX0_arrangeBest_42 rfl (lv_at hl 2 rfl) ?_
        obtain ⟨b10, hv, hf⟩ := ob_s hf
        obtain ⟨e9, hk9⟩ := oK_of hv
        cases e9
        obtain ⟨r8, s9, hv, hf⟩ := ob_p hf
        refine hw_V (b := b10) (ci := 1) (T := TX0) (N := 3) (As := [.int (v2)]) (rest := []) S hKn hRm hD (c_X0_measureSteps l D G base E hv) (mo_X0_measureSteps hv) hk9 rfl (by decide) gX0_arrangeBest_X0_measureSteps rfl 1 (by decide +kernel) ⟨by rw [hfr]; decide, by rw [hlo]; decide⟩ rfl hl.1 (Nat.le_trans cs_0 (by decide)) rfl dX0_arrangeBest_43 (fun H locs cells slots hD => ?_)
        refine W.eq (g2 := F0 m 46 ls []) rfl ?_
        refine hw_aload_n (r := (some b10)) hx hb dX0_arrangeBest_46 rfl (lv_at hl 0 rfl) ?_
        refine lv_iload_n hx hb dX0_arrangeBest_47 rfl (lv_at hl 2 rfl) ?_
        obtain ⟨b13, hv, hf⟩ := ob_s hf
        obtain ⟨e9, hk9⟩ := oK_of hv
        cases e9
        obtain ⟨r11, s12, hv, hf⟩ := ob_p hf
        refine hw_V (b := b10) (ci := 1) (T := TX0) (N := 3) (As := [.int (v2)]) (rest := []) S hKn hRm hD (c_X0_measureSums l D G base E hv) (mo_X0_measureSums hv) hk9 rfl (by decide) gX0_arrangeBest_X0_measureSums rfl 1 (by decide +kernel) ⟨by rw [hfr]; decide, by rw [hlo]; decide⟩ rfl hl.1 (Nat.le_trans cs_0 (by decide)) rfl dX0_arrangeBest_48 (fun H locs cells slots hD => ?_)
        refine W.eq (g2 := F0 m 51 ls []) rfl ?_
        refine lv_iconst (v := (1)) hx hb dX0_arrangeBest_51 (by decide) ?_
        refine lv_iload_n hx hb dX0_arrangeBest_52 rfl (lv_at hl 2 rfl) ?_
        refine lv_ishl hx hb dX0_arrangeBest_53 ?_
        refine lv_iconst (v := (1)) hx hb dX0_arrangeBest_54 (by decide) ?_
        refine lv_isub hx hb dX0_arrangeBest_55 ?_
        refine hs_istore_n (i := 3) (lv' := [(3, .int (((1 : Int32) <<< (v2 &&& 31)) - (1 : Int32))), (0, va_rf ((some b10))), (1, va_rf (v1)), (2, .int (v2))]) hx hb dX0_arrangeBest_56 rfl hl (by decide) (st_okR (st_okR (st_okI (st_okI st_ok0)))) rfl (fun ls hl => ?_)
        refine lv_iconst (v := (-1)) hx hb dX0_arrangeBest_57 (by decide) ?_
        refine hs_istore (i := 4) (lv' := [(4, .int ((-1 : Int32))), (3, .int (((1 : Int32) <<< (v2 &&& 31)) - (1 : Int32))), (0, va_rf ((some b10))), (1, va_rf (v1)), (2, .int (v2))]) hx hb dX0_arrangeBest_58 hl (by decide) (st_okI (st_okR (st_okR (st_okI st_ok0)))) rfl (fun ls hl => ?_)
        refine lv_iconst (v := (0)) hx hb dX0_arrangeBest_60 (by decide) ?_
        refine hs_istore (i := 5) (lv' := [(5, .int ((0 : Int32))), (4, .int ((-1 : Int32))), (3, .int (((1 : Int32) <<< (v2 &&& 31)) - (1 : Int32))), (0, va_rf ((some b10))), (1, va_rf (v1)), (2, .int (v2))]) hx hb dX0_arrangeBest_61 hl (by decide) (st_okI (st_okI (st_okR (st_okR (st_okI st_ok0))))) rfl (fun ls hl => ?_)
        exact hL63 _ (some b10) v1 v2 (((1 : Int32) <<< (v2 &&& 31)) - (1 : Int32)) (-1 : Int32) (0 : Int32) _ _ _ _ _ _ hD (lv_sub hl [3, 4, 5, 2, 1, 0] rfl) hf
      · rw [if_neg hc] at hf
        refine hw_aload_n (r := v0) hx hb dX0_arrangeBest_19 rfl (lv_at hl 0 rfl) ?_
        obtain ⟨x14, hv, hf⟩ := ob_s hf
        refine hw_gr (C := RX0) (T := TX0) (N := 3) (ref := "SolidGroups$Arranger") S hKn hD hv rfl (by decide) (by decide) rfl inX0 wd0 (fun _ h9 => h9) dX0_arrangeBest_20 ?_
        refine hw_aload_n (r := v1) hx hb dX0_arrangeBest_23 rfl (lv_at hl 1 rfl) ?_
        refine lv_iload_n hx hb dX0_arrangeBest_24 rfl (lv_at hl 3 rfl) ?_
        obtain ⟨b17, hv, hf⟩ := ob_s hf
        obtain ⟨e9, hk9⟩ := oK_of hv
        cases e9
        obtain ⟨r15, s16, hv, hf⟩ := ob_p hf
        refine hw_V (b := b17) (ci := 0) (T := TJx4a65c) (N := 3) (As := [.int (v3)]) (rest := [va_rf (x14)]) S hKn hRm hD (c_Jx4a65c_get_915e3 l D G base E hv) (mo_Jx4a65c_get_915e3 hv) hk9 rfl (by decide) gX0_arrangeBest_Jx4a65c_get_915e3 rfl 1 (by decide +kernel) ⟨by rw [hfr]; decide, by rw [hlo]; decide⟩ rfl hl.1 (Nat.le_trans (cs_A cs_0) (by decide)) rfl dX0_arrangeBest_25 (fun H locs cells slots hD => ?_)
        refine W.eq (g2 := F0 m 28 ls [va_rf (r15), va_rf (x14)]) rfl ?_
        obtain ⟨u18, hv, hf⟩ := ob_s hf
        refine hw_ca (C := RX1) (T := TX1) (N := 6) S hKn hD hv rfl (by decide) wd1 dX0_arrangeBest_28 ?_
        obtain ⟨b21, hv, hf⟩ := ob_s hf
        obtain ⟨e9, hk9⟩ := oK_of hv
        cases e9
        obtain ⟨r19, s20, hv, hf⟩ := ob_p hf
        refine hw_V (b := b21) (ci := 0) (T := TJx4a65c) (N := 3) (As := [va_rf (r15)]) (rest := []) S hKn hRm hD (c_Jx4a65c_add_9ea2d l D G base E hv) (mo_Jx4a65c_add_9ea2d hv) hk9 rfl (by decide) gX0_arrangeBest_Jx4a65c_add_9ea2d rfl 1 (by decide +kernel) ⟨by rw [hfr]; decide, by rw [hlo]; decide⟩ rfl hl.1 (Nat.le_trans cs_0 (by decide)) rfl dX0_arrangeBest_31 (fun H locs cells slots hD => ?_)
        refine W.eq (g2 := F0 m 34 ls [.int (r19)]) rfl ?_
        refine lv_pop hx hb dX0_arrangeBest_34 rfl ?_
        refine hs_iinc (i := 3) (k := 3) (v := v3 + 1) (lv' := [(3, .int (v3 + 1)), (0, va_rf (v0)), (1, va_rf ((some b17))), (2, .int (v2))]) hx hb dX0_arrangeBest_35 hl rfl (congrArg (fun z => v3 + z) (by decide)) (by decide) (st_okR (st_okR (st_okI (st_okI st_ok0)))) rfl (fun ls hl => ?_)
        refine lv_goto (tgt := 14) hx hb dX0_arrangeBest_38 (by decide) ?_
        exact ih v0 (some b17) v2 (v3 + 1) _ _ _ _ _ _ hD (lv_sub hl [1, 2, 3, 0] rfl) hf
  have hl : lv_has ls 7 [(0, va_rf (some a0)), (1, va_rf (p1))] := hl
  unfold g_X0_arrangeBest at hf
  refine hw_aload_n (r := p1) hx hb dX0_arrangeBest_0 rfl (lv_at hl 1 rfl) ?_
  obtain ⟨b3, hv, hf⟩ := ob_s hf
  obtain ⟨e9, hk9⟩ := oK_of hv
  cases e9
  obtain ⟨r1, s2, hv, hf⟩ := ob_p hf
  refine hw_V (b := b3) (ci := 0) (T := TJx4a65c) (N := 3) (As := []) (rest := []) S hKn hRm hD (c_Jx4a65c_size_8abf5 l D G base E hv) (mo_Jx4a65c_size_8abf5 hv) hk9 rfl (by decide) gX0_arrangeBest_Jx4a65c_size_8abf5 rfl 0 (by decide +kernel) ⟨by rw [hfr]; decide, by rw [hlo]; decide⟩ rfl hl.1 (Nat.le_trans cs_0 (by decide)) rfl dX0_arrangeBest_1 (fun H locs cells slots hD => ?_)
  refine W.eq (g2 := F0 m 4 ls [.int (r1)]) rfl ?_
  refine hs_istore_n (i := 2) (lv' := [(2, .int (r1)), (0, va_rf ((some a0))), (1, va_rf ((some b3)))]) hx hb dX0_arrangeBest_4 rfl hl (by decide) (st_okR (st_okR st_ok0)) rfl (fun ls hl => ?_)
  refine hw_aload_n (r := (some a0)) hx hb dX0_arrangeBest_5 rfl (lv_at hl 1 rfl) ?_
  obtain ⟨x4, hv, hf⟩ := ob_s hf
  refine hw_gr (C := RX0) (T := TX0) (N := 3) (ref := "SolidGroups$Arranger") S hKn hD hv rfl (by decide) (by decide) rfl inX0 wd0 (fun _ h9 => h9) dX0_arrangeBest_6 ?_
  obtain ⟨b7, hv, hf⟩ := ob_s hf
  obtain ⟨e9, hk9⟩ := oK_of hv
  cases e9
  obtain ⟨r5, s6, hv, hf⟩ := ob_p hf
  refine hw_V (b := b7) (ci := 0) (T := TJx4a65c) (N := 3) (As := []) (rest := []) S hKn hRm hD (c_Jx4a65c_clear_da8c8 l D G base E hv) (mo_Jx4a65c_clear_da8c8 hv) hk9 rfl (by decide) gX0_arrangeBest_Jx4a65c_clear_da8c8 rfl 0 (by decide +kernel) ⟨by rw [hfr]; decide, by rw [hlo]; decide⟩ rfl hl.1 (Nat.le_trans cs_0 (by decide)) rfl dX0_arrangeBest_9 (fun H locs cells slots hD => ?_)
  refine W.eq (g2 := F0 m 12 ls []) rfl ?_
  refine lv_iconst (v := (0)) hx hb dX0_arrangeBest_12 (by decide) ?_
  refine hs_istore_n (i := 3) (lv' := [(3, .int ((0 : Int32))), (2, .int (r1)), (0, va_rf ((some a0))), (1, va_rf ((some b3)))]) hx hb dX0_arrangeBest_13 rfl hl (by decide) (st_okI (st_okR (st_okR st_ok0))) rfl (fun ls hl => ?_)
  exact hL14 _ (some a0) (some b3) r1 (0 : Int32) _ _ _ _ _ _ hD (lv_sub hl [2, 3, 1, 0] rfl) hf
set_option maxHeartbeats 4000000 in
set_option maxRecDepth 100000 in
theorem c_X0_arrangeChain (l : Launch) (D : va_G) (G : GC) (base : Nat) (E : PE) {a0 : Nat} {p1 : Option Nat} {σ0 τ : PS} {rv : Unit} (hF : f_X0_arrangeChain E (some a0) p1 σ0 = some (rv, τ)) : Ct l D G base E yX0_arrangeChain wsX0_arrangeChain 6 171 ([.ref a0, va_rf (p1)] : List Value) σ0 none τ := by
  obtain ⟨hf, hmo⟩ := oM_of hF
  refine Ct.of (own := RX0) [1, 1] (by decide) rfl rfl hmo (ct_R (ct_A ct_0)) (by decide) ?_
  intro p e s m below meth c R Q ls H locs cells slots S hKn hRm hfr hlo hlk hret hnm hQ hD hl
  have hx := S.1
  have hb := S.2.1
  have hts := S.2.2.2.2
  have wd0 := hts (.classLink RX0 40 "SolidGroups$Entry") (by decide +kernel)
  have wd1 := hts (.initialized RX5) (by decide +kernel)
  have wd2 := hts (.static yX5_apart) (by decide +kernel)
  have hB82 : ∀ (k2 : Option Nat → Int32 → PS → Option (Unit × PS)) (hk2 : ∀ (z1 : Option Nat) (z2 : Int32) (σ : PS) (H : Heap) (locs : List Loc) (cells slots : Nat) (ls : Array Slot), Dy D G base E s.heap σ0 σ H locs cells slots → lv_has ls 8 [(1, va_rf (z1)), (2, .int (z2))] → k2 z1 z2 σ = some (rv, τ) → W p l e R s m ([.ref a0, va_rf (p1)] : List Value).toArray below meth c H locs cells slots Q (F0 m 2 ls [])) (k43 : Option Nat → Int32 → Option Nat → Int32 → Int32 → Int32 → PS → Option (Unit × PS)) (hk43 : ∀ (z1 : Option Nat) (z2 : Int32) (z3 : Option Nat) (z4 : Int32) (z5 : Int32) (z6 : Int32) (σ : PS) (H : Heap) (locs : List Loc) (cells slots : Nat) (ls : Array Slot), Dy D G base E s.heap σ0 σ H locs cells slots → lv_has ls 8 [(1, va_rf (z1)), (2, .int (z2)), (3, va_rf (z3)), (4, .int (z4)), (5, .int (z5)), (6, .int (z6))] → k43 z1 z2 z3 z4 z5 z6 σ = some (rv, τ) → W p l e R s m ([.ref a0, va_rf (p1)] : List Value).toArray below meth c H locs cells slots Q (F0 m 43 ls [])), ∀ (v1 : Option Nat) (v2 : Int32) (v3 : Option Nat) (v4 : Int32) (v5 : Int32) (v6 : Int32) (σ : PS) (H : Heap) (locs : List Loc) (cells slots : Nat) (ls : Array Slot), Dy D G base E s.heap σ0 σ H locs cells slots → lv_has ls 8 [(1, va_rf (v1)), (2, .int (v2)), (3, va_rf (v3)), (4, .int (v4)), (5, .int (v5)), (6, .int (v6))] → f_X0_arrangeChain_B82 E k2 k43 v1 v2 v3 v4 v5 v6 σ = some (rv, τ) → W p l e R s m ([.ref a0, va_rf (p1)] : List Value).toArray below meth c H locs cells slots Q (F0 m 82 ls []) := by
    intro k2 hk2 k43 hk43 v1 v2 v3 v4 v5 v6 σ H locs cells slots ls hD hl hf
    unfold f_X0_arrangeChain_B82 at hf
    refine hs_iinc (i := 6) (k := 5) (v := v6 + 1) (lv' := [(6, .int (v6 + 1)), (1, va_rf (v1)), (2, .int (v2)), (3, va_rf (v3)), (4, .int (v4)), (5, .int (v5))]) hx hb dX0_arrangeChain_82 hl rfl (congrArg (fun z => v6 + z) (by decide)) (by decide) (st_okR (st_okI (st_okR (st_okI (st_okI (st_okI st_ok0)))))) rfl (fun ls hl => ?_)
    refine lv_goto (tgt := 43) hx hb dX0_arrangeChain_85 (by decide) ?_
    exact hk43 v1 v2 v3 v4 v5 (v6 + 1) _ _ _ _ _ _ hD (lv_sub hl [1, 2, 3, 4, 5, 0] rfl) hf
  have hL43 : ∀ (k2 : Option Nat → Int32 → PS → Option (Unit × PS)) (hk2 : ∀ (z1 : Option Nat) (z2 : Int32) (σ : PS) (H : Heap) (locs : List Loc) (cells slots : Nat) (ls : Array Slot), Dy D G base E s.heap σ0 σ H locs cells slots → lv_has ls 8 [(1, va_rf (z1)), (2, .int (z2))] → k2 z1 z2 σ = some (rv, τ) → W p l e R s m ([.ref a0, va_rf (p1)] : List Value).toArray below meth c H locs cells slots Q (F0 m 2 ls [])) (n : Nat), ∀ (v1 : Option Nat) (v2 : Int32) (v3 : Option Nat) (v4 : Int32) (v5 : Int32) (v6 : Int32) (σ : PS) (H : Heap) (locs : List Loc) (cells slots : Nat) (ls : Array Slot), Dy D G base E s.heap σ0 σ H locs cells slots → lv_has ls 8 [(1, va_rf (v1)), (2, .int (v2)), (3, va_rf (v3)), (4, .int (v4)), (5, .int (v5)), (6, .int (v6))] → f_X0_arrangeChain_L43 E k2 n v1 v2 v3 v4 v5 v6 σ = some (rv, τ) → W p l e R s m ([.ref a0, va_rf (p1)] : List Value).toArray below meth c H locs cells slots Q (F0 m 43 ls []) := by
    intro k2 hk2 n
    induction n with
    | zero =>
      intro v1 v2 v3 v4 v5 v6 σ H locs cells slots ls hD hl hf
      rw [f_X0_arrangeChain_L43] at hf
      cases hf
    | succ n ih =>
      intro v1 v2 v3 v4 v5 v6 σ H locs cells slots ls hD hl hf
      rw [f_X0_arrangeChain_L43] at hf
      refine lv_iload hx hb dX0_arrangeChain_43 (lv_at hl 5 rfl) ?_
      refine hw_aload_n (r := v1) hx hb dX0_arrangeChain_45 rfl (lv_at hl 0 rfl) ?_
      obtain ⟨b16, hv, hf⟩ := ob_s hf
      obtain ⟨e9, hk9⟩ := oK_of hv
      cases e9
      obtain ⟨r14, s15, hv, hf⟩ := ob_p hf
      refine hw_V (b := b16) (ci := 0) (T := TJx4a65c) (N := 3) (As := []) (rest := [.int (v6)]) S hKn hRm hD (c_Jx4a65c_size_8abf5 l D G base E hv) (mo_Jx4a65c_size_8abf5 hv) hk9 rfl (by decide) gX0_arrangeChain_Jx4a65c_size_8abf5 rfl 0 (by decide +kernel) ⟨by rw [hfr]; decide, by rw [hlo]; decide⟩ rfl hl.1 (Nat.le_trans (cs_I cs_0) (by decide)) rfl dX0_arrangeChain_46 (fun H locs cells slots hD => ?_)
      refine W.eq (g2 := F0 m 49 ls [.int (r14), .int (v6)]) rfl ?_
      refine lv_icmp_ge (tgt := 88) hx hb dX0_arrangeChain_49 (by decide) (fun hc => ?_) (fun hc => ?_)
      · rw [if_pos hc] at hf
        refine hw_aload_n (r := (some b16)) hx hb dX0_arrangeChain_88 rfl (lv_at hl 0 rfl) ?_
        refine lv_iload_n hx hb dX0_arrangeChain_89 rfl (lv_at hl 1 rfl) ?_
        refine hw_aload_n (r := (some b16)) hx hb dX0_arrangeChain_90 rfl (lv_at hl 0 rfl) ?_
        refine lv_iload hx hb dX0_arrangeChain_91 (lv_at hl 3 rfl) ?_
        obtain ⟨b19, hv, hf⟩ := ob_s hf
        obtain ⟨e9, hk9⟩ := oK_of hv
        cases e9
        obtain ⟨r17, s18, hv, hf⟩ := ob_p hf
        refine hw_V (b := b16) (ci := 0) (T := TJx4a65c) (N := 3) (As := [.int (v4)]) (rest := [.int (v2), va_rf ((some b16))]) S hKn hRm hD (c_Jx4a65c_remove_915e3 l D G base E hv) (mo_Jx4a65c_remove_915e3 hv) hk9 rfl (by decide) gX0_arrangeChain_Jx4a65c_remove_915e3 rfl 1 (by decide +kernel) ⟨by rw [hfr]; decide, by rw [hlo]; decide⟩ rfl hl.1 (Nat.le_trans (cs_I (cs_A cs_0)) (by decide)) rfl dX0_arrangeChain_93 (fun H locs cells slots hD => ?_)
        refine W.eq (g2 := F0 m 96 ls [va_rf (r17), .int (v2), va_rf ((some b16))]) rfl ?_
        obtain ⟨u20, hv, hf⟩ := ob_s hf
        refine hw_ca (C := RX1) (T := TX1) (N := 6) S hKn hD hv rfl (by decide) wd0 dX0_arrangeChain_96 ?_
        obtain ⟨b23, hv, hf⟩ := ob_s hf
        obtain ⟨e9, hk9⟩ := oK_of hv
        cases e9
        obtain ⟨r21, s22, hv, hf⟩ := ob_p hf
        refine hw_V (b := b16) (ci := 0) (T := TJx4a65c) (N := 3) (As := [.int (v2), va_rf (r17)]) (rest := []) S hKn hRm hD (c_Jx4a65c_add_7a177 l D G base E hv) (mo_Jx4a65c_add_7a177 hv) hk9 rfl (by decide) gX0_arrangeChain_Jx4a65c_add_7a177 rfl 2 (by decide +kernel) ⟨by rw [hfr]; decide, by rw [hlo]; decide⟩ rfl hl.1 (Nat.le_trans cs_0 (by decide)) rfl dX0_arrangeChain_99 (fun H locs cells slots hD => ?_)
        refine W.eq (g2 := F0 m 102 ls []) rfl ?_
        refine hs_iinc (i := 2) (k := 1) (v := v2 + 1) (lv' := [(2, .int (v2 + 1)), (1, va_rf ((some b16))), (3, va_rf (v3)), (4, .int (v4)), (5, .int (v5)), (6, .int (v6))]) hx hb dX0_arrangeChain_102 hl rfl (congrArg (fun z => v2 + z) (by decide)) (by decide) (st_okR (st_okI (st_okR (st_okI (st_okI (st_okI st_ok0)))))) rfl (fun ls hl => ?_)
        refine lv_goto (tgt := 2) hx hb dX0_arrangeChain_105 (by decide) ?_
        exact hk2 (some b16) (v2 + 1) _ _ _ _ _ _ hD (lv_sub hl [1, 0] rfl) hf
      · rw [if_neg hc] at hf
        refine hw_aload_n (r := v3) hx hb dX0_arrangeChain_52 rfl (lv_at hl 2 rfl) ?_
        refine hw_aload_n (r := (some b16)) hx hb dX0_arrangeChain_53 rfl (lv_at hl 0 rfl) ?_
        refine lv_iload hx hb dX0_arrangeChain_54 (lv_at hl 5 rfl) ?_
        obtain ⟨b26, hv, hf⟩ := ob_s hf
        obtain ⟨e9, hk9⟩ := oK_of hv
        cases e9
        obtain ⟨r24, s25, hv, hf⟩ := ob_p hf
        refine hw_V (b := b16) (ci := 0) (T := TJx4a65c) (N := 3) (As := [.int (v6)]) (rest := [va_rf (v3)]) S hKn hRm hD (c_Jx4a65c_get_915e3 l D G base E hv) (mo_Jx4a65c_get_915e3 hv) hk9 rfl (by decide) gX0_arrangeChain_Jx4a65c_get_915e3 rfl 1 (by decide +kernel) ⟨by rw [hfr]; decide, by rw [hlo]; decide⟩ rfl hl.1 (Nat.le_trans (cs_A cs_0) (by decide)) rfl dX0_arrangeChain_56 (fun H locs cells slots hD => ?_)
        refine W.eq (g2 := F0 m 59 ls [va_rf (r24), va_rf (v3)]) rfl ?_
        obtain ⟨u27, hv, hf⟩ := ob_s hf
        refine hw_ca (C := RX1) (T := TX1) (N := 6) S hKn hD hv rfl (by decide) wd0 dX0_arrangeChain_59 ?_
        obtain ⟨r28, s29, hv, hf⟩ := ob_p hf
        refine hw_SN (As := [va_rf (v3), va_rf (r24)]) (rest := []) S hKn hRm hD (c_X5_apart l D G base E hv) (mo_X5_apart hv) hKn.2.2.2.2.2.1.2.2.2.1 ggX0_arrangeChain_X5_apart rfl 2 wd1 wd2 (by decide +kernel) ⟨by rw [hfr]; decide, by rw [hlo]; decide⟩ rfl hl.1 (Nat.le_trans cs_0 (by decide)) rfl dX0_arrangeChain_62 (fun H locs cells slots hD => ?_)
        refine W.eq (g2 := F0 m 65 ls [.int (r28)]) rfl ?_
        refine hs_istore (i := 7) (lv' := [(7, .int (r28)), (1, va_rf ((some b16))), (2, .int (v2)), (3, va_rf (v3)), (4, .int (v4)), (5, .int (v5)), (6, .int (v6))]) hx hb dX0_arrangeChain_65 hl (by decide) (st_okR (st_okI (st_okR (st_okI (st_okI (st_okI st_ok0)))))) rfl (fun ls hl => ?_)
        refine lv_iload hx hb dX0_arrangeChain_67 (lv_at hl 0 rfl) ?_
        refine lv_iload hx hb dX0_arrangeChain_69 (lv_at hl 5 rfl) ?_
        refine lv_icmp_ge (tgt := 82) hx hb dX0_arrangeChain_71 (by decide) (fun hc => ?_) (fun hc => ?_)
        · rw [if_pos hc] at hf
          exact hB82 _ hk2 _ ih (some b16) v2 v3 v4 v5 v6 _ _ _ _ _ _ hD (lv_sub hl [1, 2, 3, 4, 5, 6] rfl) hf
        · rw [if_neg hc] at hf
          refine lv_iload hx hb dX0_arrangeChain_74 (lv_at hl 0 rfl) ?_
          refine hs_istore (i := 5) (lv' := [(5, .int (r28)), (7, .int (r28)), (1, va_rf ((some b16))), (2, .int (v2)), (3, va_rf (v3)), (4, .int (v4)), (6, .int (v6))]) hx hb dX0_arrangeChain_76 hl (by decide) (st_okI (st_okR (st_okI (st_okR (st_okI (st_okI (st_okI st_ok0))))))) rfl (fun ls hl => ?_)
          refine lv_iload hx hb dX0_arrangeChain_78 (lv_at hl 6 rfl) ?_
          refine hs_istore (i := 4) (lv' := [(4, .int (v6)), (5, .int (r28)), (7, .int (r28)), (1, va_rf ((some b16))), (2, .int (v2)), (3, va_rf (v3)), (6, .int (v6))]) hx hb dX0_arrangeChain_80 hl (by decide) (st_okI (st_okI (st_okR (st_okI (st_okR (st_okI (st_okI st_ok0))))))) rfl (fun ls hl => ?_)
          exact hB82 _ hk2 _ ih (some b16) v2 v3 v6 r28 v6 _ _ _ _ _ _ hD (lv_sub hl [3, 4, 5, 0, 1, 6] rfl) hf
  have hL2 : ∀ (n : Nat), ∀ (v1 : Option Nat) (v2 : Int32) (σ : PS) (H : Heap) (locs : List Loc) (cells slots : Nat) (ls : Array Slot), Dy D G base E s.heap σ0 σ H locs cells slots → lv_has ls 8 [(1, va_rf (v1)), (2, .int (v2))] → f_X0_arrangeChain_L2 E n v1 v2 σ = some (rv, τ) → W p l e R s m ([.ref a0, va_rf (p1)] : List Value).toArray below meth c H locs cells slots Q (F0 m 2 ls []) := by
    intro n
    induction n with
    | zero =>
      intro v1 v2 σ H locs cells slots ls hD hl hf
      rw [f_X0_arrangeChain_L2] at hf
      cases hf
    | succ n ih =>
      intro v1 v2 σ H locs cells slots ls hD hl hf
      rw [f_X0_arrangeChain_L2] at hf
      refine lv_iload_n hx hb dX0_arrangeChain_2 rfl (lv_at hl 1 rfl) ?_
      refine hw_aload_n (r := v1) hx hb dX0_arrangeChain_3 rfl (lv_at hl 0 rfl) ?_
      obtain ⟨b3, hv, hf⟩ := ob_s hf
      obtain ⟨e9, hk9⟩ := oK_of hv
      cases e9
      obtain ⟨r1, s2, hv, hf⟩ := ob_p hf
      refine hw_V (b := b3) (ci := 0) (T := TJx4a65c) (N := 3) (As := []) (rest := [.int (v2)]) S hKn hRm hD (c_Jx4a65c_size_8abf5 l D G base E hv) (mo_Jx4a65c_size_8abf5 hv) hk9 rfl (by decide) gX0_arrangeChain_Jx4a65c_size_8abf5 rfl 0 (by decide +kernel) ⟨by rw [hfr]; decide, by rw [hlo]; decide⟩ rfl hl.1 (Nat.le_trans (cs_I cs_0) (by decide)) rfl dX0_arrangeChain_4 (fun H locs cells slots hD => ?_)
      refine W.eq (g2 := F0 m 7 ls [.int (r1), .int (v2)]) rfl ?_
      refine lv_icmp_ge (tgt := 108) hx hb dX0_arrangeChain_7 (by decide) (fun hc => ?_) (fun hc => ?_)
      · rw [if_pos hc] at hf
        obtain ⟨-, e2⟩ := ret_eq hf
        rw [hQ, ← e2]
        exact hw_vret S hlk hret hD dX0_arrangeChain_108
      · rw [if_neg hc] at hf
        refine hw_aload_n (r := (some b3)) hx hb dX0_arrangeChain_10 rfl (lv_at hl 0 rfl) ?_
        refine lv_iload_n hx hb dX0_arrangeChain_11 rfl (lv_at hl 1 rfl) ?_
        refine lv_iconst (v := (1)) hx hb dX0_arrangeChain_12 (by decide) ?_
        refine lv_isub hx hb dX0_arrangeChain_13 ?_
        obtain ⟨b6, hv, hf⟩ := ob_s hf
        obtain ⟨e9, hk9⟩ := oK_of hv
        cases e9
        obtain ⟨r4, s5, hv, hf⟩ := ob_p hf
        refine hw_V (b := b3) (ci := 0) (T := TJx4a65c) (N := 3) (As := [.int (v2 - (1 : Int32))]) (rest := []) S hKn hRm hD (c_Jx4a65c_get_915e3 l D G base E hv) (mo_Jx4a65c_get_915e3 hv) hk9 rfl (by decide) gX0_arrangeChain_Jx4a65c_get_915e3 rfl 1 (by decide +kernel) ⟨by rw [hfr]; decide, by rw [hlo]; decide⟩ rfl hl.1 (Nat.le_trans cs_0 (by decide)) rfl dX0_arrangeChain_14 (fun H locs cells slots hD => ?_)
        refine W.eq (g2 := F0 m 17 ls [va_rf (r4)]) rfl ?_
        obtain ⟨u7, hv, hf⟩ := ob_s hf
        refine hw_ca (C := RX1) (T := TX1) (N := 6) S hKn hD hv rfl (by decide) wd0 dX0_arrangeChain_17 ?_
        refine hs_astore_n (i := 3) (lv' := [(3, va_rf (r4)), (1, va_rf ((some b3))), (2, .int (v2))]) hx hb dX0_arrangeChain_20 rfl hl (by decide) (st_okR (st_okI st_ok0)) rfl (fun ls hl => ?_)
        refine lv_iload_n hx hb dX0_arrangeChain_21 rfl (lv_at hl 2 rfl) ?_
        refine hs_istore (i := 4) (lv' := [(4, .int (v2)), (3, va_rf (r4)), (1, va_rf ((some b3))), (2, .int (v2))]) hx hb dX0_arrangeChain_22 hl (by decide) (st_okR (st_okR (st_okI st_ok0))) rfl (fun ls hl => ?_)
        refine hw_aload_n (r := r4) hx hb dX0_arrangeChain_24 rfl (lv_at hl 1 rfl) ?_
        refine hw_aload_n (r := (some b3)) hx hb dX0_arrangeChain_25 rfl (lv_at hl 2 rfl) ?_
        refine lv_iload_n hx hb dX0_arrangeChain_26 rfl (lv_at hl 3 rfl) ?_
        obtain ⟨b10, hv, hf⟩ := ob_s hf
        obtain ⟨e9, hk9⟩ := oK_of hv
        cases e9
        obtain ⟨r8, s9, hv, hf⟩ := ob_p hf
        refine hw_V (b := b3) (ci := 0) (T := TJx4a65c) (N := 3) (As := [.int (v2)]) (rest := [va_rf (r4)]) S hKn hRm hD (c_Jx4a65c_get_915e3 l D G base E hv) (mo_Jx4a65c_get_915e3 hv) hk9 rfl (by decide) gX0_arrangeChain_Jx4a65c_get_915e3 rfl 1 (by decide +kernel) ⟨by rw [hfr]; decide, by rw [hlo]; decide⟩ rfl hl.1 (Nat.le_trans (cs_A cs_0) (by decide)) rfl dX0_arrangeChain_27 (fun H locs cells slots hD => ?_)
        refine W.eq (g2 := F0 m 30 ls [va_rf (r8), va_rf (r4)]) rfl ?_
        obtain ⟨u11, hv, hf⟩ := ob_s hf
        refine hw_ca (C := RX1) (T := TX1) (N := 6) S hKn hD hv rfl (by decide) wd0 dX0_arrangeChain_30 ?_
        obtain ⟨r12, s13, hv, hf⟩ := ob_p hf
        refine hw_SN (As := [va_rf (r4), va_rf (r8)]) (rest := []) S hKn hRm hD (c_X5_apart l D G base E hv) (mo_X5_apart hv) hKn.2.2.2.2.2.1.2.2.2.1 ggX0_arrangeChain_X5_apart rfl 2 wd1 wd2 (by decide +kernel) ⟨by rw [hfr]; decide, by rw [hlo]; decide⟩ rfl hl.1 (Nat.le_trans cs_0 (by decide)) rfl dX0_arrangeChain_33 (fun H locs cells slots hD => ?_)
        refine W.eq (g2 := F0 m 36 ls [.int (r12)]) rfl ?_
        refine hs_istore (i := 5) (lv' := [(5, .int (r12)), (4, .int (v2)), (3, va_rf (r4)), (1, va_rf ((some b3))), (2, .int (v2))]) hx hb dX0_arrangeChain_36 hl (by decide) (st_okI (st_okR (st_okR (st_okI st_ok0)))) rfl (fun ls hl => ?_)
        refine lv_iload_n hx hb dX0_arrangeChain_38 rfl (lv_at hl 4 rfl) ?_
        refine lv_iconst (v := (1)) hx hb dX0_arrangeChain_39 (by decide) ?_
        refine lv_iadd hx hb dX0_arrangeChain_40 ?_
        refine hs_istore (i := 6) (lv' := [(6, .int (v2 + (1 : Int32))), (5, .int (r12)), (4, .int (v2)), (3, va_rf (r4)), (1, va_rf ((some b3))), (2, .int (v2))]) hx hb dX0_arrangeChain_41 hl (by decide) (st_okI (st_okI (st_okR (st_okR (st_okI st_ok0))))) rfl (fun ls hl => ?_)
        exact hL43 _ ih _ (some b3) v2 r4 v2 r12 (v2 + (1 : Int32)) _ _ _ _ _ _ hD (lv_sub hl [4, 5, 3, 2, 1, 0] rfl) hf
  have hl : lv_has ls 8 [(0, va_rf (some a0)), (1, va_rf (p1))] := hl
  unfold g_X0_arrangeChain at hf
  refine lv_iconst (v := (1)) hx hb dX0_arrangeChain_0 (by decide) ?_
  refine hs_istore_n (i := 2) (lv' := [(2, .int ((1 : Int32))), (0, va_rf ((some a0))), (1, va_rf (p1))]) hx hb dX0_arrangeChain_1 rfl hl (by decide) (st_okR (st_okR st_ok0)) rfl (fun ls hl => ?_)
  exact hL2 _ p1 (1 : Int32) _ _ _ _ _ _ hD (lv_sub hl [2, 0] rfl) hf
set_option maxHeartbeats 4000000 in
set_option maxRecDepth 100000 in
theorem c_X0_arrange (l : Launch) (D : va_G) (G : GC) (base : Nat) (E : PE) {a0 : Nat} {p1 : Option Nat} {p2 : Int32} {σ0 τ : PS} {rv : Unit} (hF : f_X0_arrange E (some a0) p1 p2 σ0 = some (rv, τ)) : Ct l D G base E yX0_arrange wsX0_arrange 8 217 ([.ref a0, va_rf (p1), .int (p2)] : List Value) σ0 none τ := by
  obtain ⟨hf, hmo⟩ := oM_of hF
  refine Ct.of (own := RX0) [1, 1, 1] (by decide) rfl rfl hmo (ct_R (ct_A (ct_I ct_0))) (by decide) ?_
  intro p e s m below meth c R Q ls H locs cells slots S hKn hRm hfr hlo hlk hret hnm hQ hD hl
  have hx := S.1
  have hb := S.2.1
  have hts := S.2.2.2.2
  have hB31 : ∀ (σ : PS) (H : Heap) (locs : List Loc) (cells slots : Nat) (ls : Array Slot), Dy D G base E s.heap σ0 σ H locs cells slots → lv_has ls 3 [] → f_X0_arrange_B31 E σ = some (rv, τ) → W p l e R s m ([.ref a0, va_rf (p1), .int (p2)] : List Value).toArray below meth c H locs cells slots Q (F0 m 31 ls []) := by
    intro σ H locs cells slots ls hD hl hf
    unfold f_X0_arrange_B31 at hf
    obtain ⟨-, e2⟩ := ret_eq hf
    rw [hQ, ← e2]
    exact hw_vret S hlk hret hD dX0_arrange_31
  have hB22 : ∀ (v0 : Option Nat) (v1 : Option Nat) (v2 : Int32) (σ : PS) (H : Heap) (locs : List Loc) (cells slots : Nat) (ls : Array Slot), Dy D G base E s.heap σ0 σ H locs cells slots → lv_has ls 3 [(0, va_rf (v0)), (1, va_rf (v1)), (2, .int (v2))] → f_X0_arrange_B22 E v0 v1 v2 σ = some (rv, τ) → W p l e R s m ([.ref a0, va_rf (p1), .int (p2)] : List Value).toArray below meth c H locs cells slots Q (F0 m 22 ls []) := by
    intro v0 v1 v2 σ H locs cells slots ls hD hl hf
    unfold f_X0_arrange_B22 at hf
    refine lv_iload_n hx hb dX0_arrange_22 rfl (lv_at hl 2 rfl) ?_
    refine lv_if_eq (tgt := 31) hx hb dX0_arrange_23 (by decide) (fun hc => ?_) (fun hc => ?_)
    · rw [if_pos hc] at hf
      exact hB31 _ _ _ _ _ _ hD (lv_sub hl [] rfl) hf
    · rw [if_neg hc] at hf
      refine hw_aload_n (r := v0) hx hb dX0_arrange_26 rfl (lv_at hl 0 rfl) ?_
      refine hw_aload_n (r := v1) hx hb dX0_arrange_27 rfl (lv_at hl 1 rfl) ?_
      obtain ⟨b9, hv, hf⟩ := ob_s hf
      obtain ⟨e9, hk9⟩ := oK_of hv
      cases e9
      obtain ⟨r7, s8, hv, hf⟩ := ob_p hf
      refine hw_V (b := b9) (ci := 1) (T := TX0) (N := 3) (As := [va_rf (v1)]) (rest := []) S hKn hRm hD (c_X0_arrangeChain l D G base E hv) (mo_X0_arrangeChain hv) hk9 rfl (by decide) gX0_arrange_X0_arrangeChain rfl 1 (by decide +kernel) ⟨by rw [hfr]; decide, by rw [hlo]; decide⟩ rfl hl.1 (Nat.le_trans cs_0 (by decide)) rfl dX0_arrange_28 (fun H locs cells slots hD => ?_)
      refine W.eq (g2 := F0 m 31 ls []) rfl ?_
      exact hB31 _ _ _ _ _ _ hD (lv_sub hl [] rfl) hf
  have hl : lv_has ls 3 [(0, va_rf (some a0)), (1, va_rf (p1)), (2, .int (p2))] := hl
  unfold g_X0_arrange at hf
  refine lv_iload_n hx hb dX0_arrange_0 rfl (lv_at hl 2 rfl) ?_
  refine lv_iconst (v := (2)) hx hb dX0_arrange_1 (by decide) ?_
  refine lv_icmp_ne (tgt := 22) hx hb dX0_arrange_2 (by decide) (fun hc => ?_) (fun hc => ?_)
  · rw [if_neg hc] at hf
    exact hB22 (some a0) p1 p2 _ _ _ _ _ _ hD (lv_sub hl [0, 1, 2] rfl) hf
  · rw [if_pos hc] at hf
    refine hw_aload_n (r := p1) hx hb dX0_arrange_5 rfl (lv_at hl 1 rfl) ?_
    obtain ⟨b3, hv, hf⟩ := ob_s hf
    obtain ⟨e9, hk9⟩ := oK_of hv
    cases e9
    obtain ⟨r1, s2, hv, hf⟩ := ob_p hf
    refine hw_V (b := b3) (ci := 0) (T := TJx4a65c) (N := 3) (As := []) (rest := []) S hKn hRm hD (c_Jx4a65c_size_8abf5 l D G base E hv) (mo_Jx4a65c_size_8abf5 hv) hk9 rfl (by decide) gX0_arrange_Jx4a65c_size_8abf5 rfl 0 (by decide +kernel) ⟨by rw [hfr]; decide, by rw [hlo]; decide⟩ rfl hl.1 (Nat.le_trans cs_0 (by decide)) rfl dX0_arrange_6 (fun H locs cells slots hD => ?_)
    refine W.eq (g2 := F0 m 9 ls [.int (r1)]) rfl ?_
    refine lv_bipush (v := (7)) hx hb dX0_arrange_9 (by decide) ?_
    refine lv_icmp_gt (tgt := 22) hx hb dX0_arrange_11 (by decide) (fun hc => ?_) (fun hc => ?_)
    · rw [if_pos hc] at hf
      exact hB22 (some a0) (some b3) p2 _ _ _ _ _ _ hD (lv_sub hl [0, 1, 2] rfl) hf
    · rw [if_neg hc] at hf
      refine hw_aload_n (r := (some a0)) hx hb dX0_arrange_14 rfl (lv_at hl 0 rfl) ?_
      refine hw_aload_n (r := (some b3)) hx hb dX0_arrange_15 rfl (lv_at hl 1 rfl) ?_
      obtain ⟨b6, hv, hf⟩ := ob_s hf
      obtain ⟨e9, hk9⟩ := oK_of hv
      cases e9
      obtain ⟨r4, s5, hv, hf⟩ := ob_p hf
      refine hw_V (b := a0) (ci := 1) (T := TX0) (N := 3) (As := [va_rf ((some b3))]) (rest := []) S hKn hRm hD (c_X0_arrangeBest l D G base E hv) (mo_X0_arrangeBest hv) hk9 rfl (by decide) gX0_arrange_X0_arrangeBest rfl 1 (by decide +kernel) ⟨by rw [hfr]; decide, by rw [hlo]; decide⟩ rfl hl.1 (Nat.le_trans cs_0 (by decide)) rfl dX0_arrange_16 (fun H locs cells slots hD => ?_)
      refine W.eq (g2 := F0 m 19 ls []) rfl ?_
      refine lv_goto (tgt := 31) hx hb dX0_arrange_19 (by decide) ?_
      exact hB31 _ _ _ _ _ _ hD (lv_sub hl [] rfl) hf
set_option maxHeartbeats 4000000 in
set_option maxRecDepth 100000 in
theorem c_X5_groupLine (l : Launch) (D : va_G) (G : GC) (base : Nat) (E : PE) {a0 : Nat} {p1 : Int32} {σ0 τ : PS} {rv : Unit} (hF : f_X5_groupLine E (some a0) p1 σ0 = some (rv, τ)) : Ct l D G base E yX5_groupLine wsX5_groupLine 8 215 ([.ref a0, .int (p1)] : List Value) σ0 none τ := by
  obtain ⟨hf, hmo⟩ := oM_of hF
  refine Ct.of (own := RX5) [1, 1] (by decide) rfl rfl hmo (ct_R (ct_I ct_0)) (by decide) ?_
  intro p e s m below meth c R Q ls H locs cells slots S hKn hRm hfr hlo hlk hret hnm hQ hD hl
  have hx := S.1
  have hb := S.2.1
  have hts := S.2.2.2.2
  have inX5 : ∀ w ∈ u_ws RX5 TX5 8, w ∈ wsX5_groupLine := by decide +kernel
  have wd0 := hts (.fieldLink RX5 22 "SolidGroups" "line" "Ljava/util/ArrayList;") (by decide +kernel)
  have wd1 := hts (.classLink RX5 55 "SolidGroups$Entry") (by decide +kernel)
  have hL2 : ∀ (n : Nat), ∀ (v0 : Option Nat) (v1 : Int32) (v2 : Int32) (σ : PS) (H : Heap) (locs : List Loc) (cells slots : Nat) (ls : Array Slot), Dy D G base E s.heap σ0 σ H locs cells slots → lv_has ls 3 [(0, va_rf (v0)), (1, .int (v1)), (2, .int (v2))] → f_X5_groupLine_L2 E n v0 v1 v2 σ = some (rv, τ) → W p l e R s m ([.ref a0, .int (p1)] : List Value).toArray below meth c H locs cells slots Q (F0 m 2 ls []) := by
    intro n
    induction n with
    | zero =>
      intro v0 v1 v2 σ H locs cells slots ls hD hl hf
      rw [f_X5_groupLine_L2] at hf
      cases hf
    | succ n ih =>
      intro v0 v1 v2 σ H locs cells slots ls hD hl hf
      rw [f_X5_groupLine_L2] at hf
      refine lv_iload_n hx hb dX5_groupLine_2 rfl (lv_at hl 2 rfl) ?_
      refine hw_aload_n (r := v0) hx hb dX5_groupLine_3 rfl (lv_at hl 0 rfl) ?_
      obtain ⟨x1, hv, hf⟩ := ob_s hf
      refine hw_gr (C := RX5) (T := TX5) (N := 8) (ref := "SolidGroups") S hKn hD hv rfl (by decide) (by decide) rfl inX5 wd0 (fun _ h9 => h9) dX5_groupLine_4 ?_
      obtain ⟨b4, hv, hf⟩ := ob_s hf
      obtain ⟨e9, hk9⟩ := oK_of hv
      cases e9
      obtain ⟨r2, s3, hv, hf⟩ := ob_p hf
      refine hw_V (b := b4) (ci := 0) (T := TJx4a65c) (N := 3) (As := []) (rest := [.int (v2)]) S hKn hRm hD (c_Jx4a65c_size_8abf5 l D G base E hv) (mo_Jx4a65c_size_8abf5 hv) hk9 rfl (by decide) gX5_groupLine_Jx4a65c_size_8abf5 rfl 0 (by decide +kernel) ⟨by rw [hfr]; decide, by rw [hlo]; decide⟩ rfl hl.1 (Nat.le_trans (cs_I cs_0) (by decide)) rfl dX5_groupLine_7 (fun H locs cells slots hD => ?_)
      refine W.eq (g2 := F0 m 10 ls [.int (r2), .int (v2)]) rfl ?_
      refine lv_icmp_ge (tgt := 36) hx hb dX5_groupLine_10 (by decide) (fun hc => ?_) (fun hc => ?_)
      · rw [if_pos hc] at hf
        obtain ⟨-, e2⟩ := ret_eq hf
        rw [hQ, ← e2]
        exact hw_vret S hlk hret hD dX5_groupLine_36
      · rw [if_neg hc] at hf
        refine hw_aload_n (r := v0) hx hb dX5_groupLine_13 rfl (lv_at hl 0 rfl) ?_
        refine lv_iload_n hx hb dX5_groupLine_14 rfl (lv_at hl 1 rfl) ?_
        refine hw_aload_n (r := v0) hx hb dX5_groupLine_15 rfl (lv_at hl 0 rfl) ?_
        obtain ⟨x5, hv, hf⟩ := ob_s hf
        refine hw_gr (C := RX5) (T := TX5) (N := 8) (ref := "SolidGroups") S hKn hD hv rfl (by decide) (by decide) rfl inX5 wd0 (fun _ h9 => h9) dX5_groupLine_16 ?_
        refine lv_iload_n hx hb dX5_groupLine_19 rfl (lv_at hl 2 rfl) ?_
        obtain ⟨b8, hv, hf⟩ := ob_s hf
        obtain ⟨e9, hk9⟩ := oK_of hv
        cases e9
        obtain ⟨r6, s7, hv, hf⟩ := ob_p hf
        refine hw_V (b := b8) (ci := 0) (T := TJx4a65c) (N := 3) (As := [.int (v2)]) (rest := [.int (v1), va_rf (v0)]) S hKn hRm hD (c_Jx4a65c_get_915e3 l D G base E hv) (mo_Jx4a65c_get_915e3 hv) hk9 rfl (by decide) gX5_groupLine_Jx4a65c_get_915e3 rfl 1 (by decide +kernel) ⟨by rw [hfr]; decide, by rw [hlo]; decide⟩ rfl hl.1 (Nat.le_trans (cs_I (cs_A cs_0)) (by decide)) rfl dX5_groupLine_20 (fun H locs cells slots hD => ?_)
        refine W.eq (g2 := F0 m 23 ls [va_rf (r6), .int (v1), va_rf (v0)]) rfl ?_
        obtain ⟨u9, hv, hf⟩ := ob_s hf
        refine hw_ca (C := RX1) (T := TX1) (N := 6) S hKn hD hv rfl (by decide) wd1 dX5_groupLine_23 ?_
        obtain ⟨b12, hv, hf⟩ := ob_s hf
        obtain ⟨e9, hk9⟩ := oK_of hv
        cases e9
        obtain ⟨r10, s11, hv, hf⟩ := ob_p hf
        refine hw_V (b := b12) (ci := 6) (T := TX5) (N := 8) (As := [.int (v1), va_rf (r6)]) (rest := []) S hKn hRm hD (c_X5_putAtEndOf l D G base E hv) (mo_X5_putAtEndOf hv) hk9 rfl (by decide) gX5_groupLine_X5_putAtEndOf rfl 2 (by decide +kernel) ⟨by rw [hfr]; decide, by rw [hlo]; decide⟩ rfl hl.1 (Nat.le_trans cs_0 (by decide)) rfl dX5_groupLine_26 (fun H locs cells slots hD => ?_)
        refine W.eq (g2 := F0 m 29 ls [va_rf (r10)]) rfl ?_
        refine lv_pop hx hb dX5_groupLine_29 (va_rf_cat _) ?_
        refine hs_iinc (i := 2) (k := 2) (v := v2 + 1) (lv' := [(2, .int (v2 + 1)), (0, va_rf ((some b12))), (1, .int (v1))]) hx hb dX5_groupLine_30 hl rfl (congrArg (fun z => v2 + z) (by decide)) (by decide) (st_okR (st_okI (st_okI st_ok0))) rfl (fun ls hl => ?_)
        refine lv_goto (tgt := 2) hx hb dX5_groupLine_33 (by decide) ?_
        exact ih (some b12) v1 (v2 + 1) _ _ _ _ _ _ hD (lv_sub hl [1, 2, 0] rfl) hf
  have hl : lv_has ls 3 [(0, va_rf (some a0)), (1, .int (p1))] := hl
  unfold g_X5_groupLine at hf
  refine lv_iconst (v := (0)) hx hb dX5_groupLine_0 (by decide) ?_
  refine hs_istore_n (i := 2) (lv' := [(2, .int ((0 : Int32))), (0, va_rf ((some a0))), (1, .int (p1))]) hx hb dX5_groupLine_1 rfl hl (by decide) (st_okR (st_okI st_ok0)) rfl (fun ls hl => ?_)
  exact hL2 _ (some a0) p1 (0 : Int32) _ _ _ _ _ _ hD (lv_sub hl [1, 2, 0] rfl) hf
set_option maxHeartbeats 4000000 in
set_option maxRecDepth 100000 in
theorem c_X5_pack (l : Launch) (D : va_G) (G : GC) (base : Nat) (E : PE) {a0 : Nat} {p1 : Int32} {p2 : Int32} {σ0 τ : PS} {rv : Int32} (hF : f_X5_pack E (some a0) p1 p2 σ0 = some (rv, τ)) : Ct l D G base E yX5_pack wsX5_pack 9 239 ([.ref a0, .int (p1), .int (p2)] : List Value) σ0 (some (.int rv)) τ := by
  obtain ⟨hf, hmo⟩ := oM_of hF
  refine Ct.of (own := RX5) [1, 1, 1] (by decide) rfl rfl hmo (ct_R (ct_I (ct_I ct_0))) (by decide) ?_
  intro p e s m below meth c R Q ls H locs cells slots S hKn hRm hfr hlo hlk hret hnm hQ hD hl
  have hx := S.1
  have hb := S.2.1
  have hts := S.2.2.2.2
  have inX5 : ∀ w ∈ u_ws RX5 TX5 8, w ∈ wsX5_pack := by decide +kernel
  have wd0 := hts (.fieldLink RX5 39 "SolidGroups" "packed" "Z") (by decide +kernel)
  have wd1 := hts (.fieldLink RX5 43 "SolidGroups" "packedBound" "I") (by decide +kernel)
  have wd2 := hts (.fieldLink RX5 28 "SolidGroups" "arranger" "LSolidGroups$Arranger;") (by decide +kernel)
  have wd3 := hts (.fieldLink RX5 22 "SolidGroups" "line" "Ljava/util/ArrayList;") (by decide +kernel)
  have wd4 := hts (.fieldLink RX5 16 "SolidGroups" "groups" "Ljava/util/ArrayList;") (by decide +kernel)
  have wd5 := hts (.fieldLink RX5 35 "SolidGroups" "rowMaker" "LSolidGroups$RowMaker;") (by decide +kernel)
  have wd6 := hts (.classLink RX5 110 RX2) (by decide +kernel)
  have hB21 : ∀ (σ : PS) (H : Heap) (locs : List Loc) (cells slots : Nat) (ls : Array Slot), Dy D G base E s.heap σ0 σ H locs cells slots → lv_has ls 4 [] → f_X5_pack_B21 E σ = some (rv, τ) → W p l e R s m ([.ref a0, .int (p1), .int (p2)] : List Value).toArray below meth c H locs cells slots Q (F0 m 21 ls []) := by
    intro σ H locs cells slots ls hD hl hf
    unfold f_X5_pack_B21 at hf
    refine lv_iconst (v := (-1)) hx hb dX5_pack_21 (by decide) ?_
    obtain ⟨e1, e2⟩ := ret_eq hf
    rw [hQ, ← e1, ← e2]
    exact hw_iret S hlk hret rfl hD dX5_pack_22
  have hL79 : ∀ (n : Nat), ∀ (v0 : Option Nat) (v3 : Int32) (σ : PS) (H : Heap) (locs : List Loc) (cells slots : Nat) (ls : Array Slot), Dy D G base E s.heap σ0 σ H locs cells slots → lv_has ls 4 [(0, va_rf (v0)), (3, .int (v3))] → f_X5_pack_L79 E n v0 v3 σ = some (rv, τ) → W p l e R s m ([.ref a0, .int (p1), .int (p2)] : List Value).toArray below meth c H locs cells slots Q (F0 m 79 ls []) := by
    intro n
    induction n with
    | zero =>
      intro v0 v3 σ H locs cells slots ls hD hl hf
      rw [f_X5_pack_L79] at hf
      cases hf
    | succ n ih =>
      intro v0 v3 σ H locs cells slots ls hD hl hf
      rw [f_X5_pack_L79] at hf
      refine lv_iload_n hx hb dX5_pack_79 rfl (lv_at hl 1 rfl) ?_
      refine hw_aload_n (r := v0) hx hb dX5_pack_80 rfl (lv_at hl 0 rfl) ?_
      obtain ⟨x20, hv, hf⟩ := ob_s hf
      refine hw_gr (C := RX5) (T := TX5) (N := 8) (ref := "SolidGroups") S hKn hD hv rfl (by decide) (by decide) rfl inX5 wd4 (fun _ h9 => h9) dX5_pack_81 ?_
      obtain ⟨b23, hv, hf⟩ := ob_s hf
      obtain ⟨e9, hk9⟩ := oK_of hv
      cases e9
      obtain ⟨r21, s22, hv, hf⟩ := ob_p hf
      refine hw_V (b := b23) (ci := 0) (T := TJx4a65c) (N := 3) (As := []) (rest := [.int (v3)]) S hKn hRm hD (c_Jx4a65c_size_8abf5 l D G base E hv) (mo_Jx4a65c_size_8abf5 hv) hk9 rfl (by decide) gX5_pack_Jx4a65c_size_8abf5 rfl 0 (by decide +kernel) ⟨by rw [hfr]; decide, by rw [hlo]; decide⟩ rfl hl.1 (Nat.le_trans (cs_I cs_0) (by decide)) rfl dX5_pack_84 (fun H locs cells slots hD => ?_)
      refine W.eq (g2 := F0 m 87 ls [.int (r21), .int (v3)]) rfl ?_
      refine lv_icmp_ge (tgt := 114) hx hb dX5_pack_87 (by decide) (fun hc => ?_) (fun hc => ?_)
      · rw [if_pos hc] at hf
        refine hw_aload_n (r := v0) hx hb dX5_pack_114 rfl (lv_at hl 0 rfl) ?_
        obtain ⟨x24, hv, hf⟩ := ob_s hf
        refine hw_gr (C := RX5) (T := TX5) (N := 8) (ref := "SolidGroups") S hKn hD hv rfl (by decide) (by decide) rfl inX5 wd4 (fun _ h9 => h9) dX5_pack_115 ?_
        obtain ⟨b27, hv, hf⟩ := ob_s hf
        obtain ⟨e9, hk9⟩ := oK_of hv
        cases e9
        obtain ⟨r25, s26, hv, hf⟩ := ob_p hf
        refine hw_V (b := b27) (ci := 0) (T := TJx4a65c) (N := 3) (As := []) (rest := []) S hKn hRm hD (c_Jx4a65c_size_8abf5 l D G base E hv) (mo_Jx4a65c_size_8abf5 hv) hk9 rfl (by decide) gX5_pack_Jx4a65c_size_8abf5 rfl 0 (by decide +kernel) ⟨by rw [hfr]; decide, by rw [hlo]; decide⟩ rfl hl.1 (Nat.le_trans cs_0 (by decide)) rfl dX5_pack_118 (fun H locs cells slots hD => ?_)
        refine W.eq (g2 := F0 m 121 ls [.int (r25)]) rfl ?_
        obtain ⟨e1, e2⟩ := ret_eq hf
        rw [hQ, ← e1, ← e2]
        exact hw_iret S hlk hret rfl hD dX5_pack_121
      · rw [if_neg hc] at hf
        refine hw_aload_n (r := v0) hx hb dX5_pack_90 rfl (lv_at hl 0 rfl) ?_
        obtain ⟨x28, hv, hf⟩ := ob_s hf
        refine hw_gr (C := RX5) (T := TX5) (N := 8) (ref := "SolidGroups") S hKn hD hv rfl (by decide) (by decide) rfl inX5 wd5 (fun _ h9 => h9) dX5_pack_91 ?_
        refine hw_aload_n (r := v0) hx hb dX5_pack_94 rfl (lv_at hl 0 rfl) ?_
        obtain ⟨x29, hv, hf⟩ := ob_s hf
        refine hw_gr (C := RX5) (T := TX5) (N := 8) (ref := "SolidGroups") S hKn hD hv rfl (by decide) (by decide) rfl inX5 wd4 (fun _ h9 => h9) dX5_pack_95 ?_
        refine lv_iload_n hx hb dX5_pack_98 rfl (lv_at hl 1 rfl) ?_
        obtain ⟨b32, hv, hf⟩ := ob_s hf
        obtain ⟨e9, hk9⟩ := oK_of hv
        cases e9
        obtain ⟨r30, s31, hv, hf⟩ := ob_p hf
        refine hw_V (b := b32) (ci := 0) (T := TJx4a65c) (N := 3) (As := [.int (v3)]) (rest := [va_rf (x28)]) S hKn hRm hD (c_Jx4a65c_get_915e3 l D G base E hv) (mo_Jx4a65c_get_915e3 hv) hk9 rfl (by decide) gX5_pack_Jx4a65c_get_915e3 rfl 1 (by decide +kernel) ⟨by rw [hfr]; decide, by rw [hlo]; decide⟩ rfl hl.1 (Nat.le_trans (cs_A cs_0) (by decide)) rfl dX5_pack_99 (fun H locs cells slots hD => ?_)
        refine W.eq (g2 := F0 m 102 ls [va_rf (r30), va_rf (x28)]) rfl ?_
        obtain ⟨u33, hv, hf⟩ := ob_s hf
        refine hw_ca (C := RX2) (T := TX2) (N := 4) S hKn hD hv rfl (by decide) wd6 dX5_pack_102 ?_
        obtain ⟨b36, hv, hf⟩ := ob_s hf
        obtain ⟨e9, hk9⟩ := oK_of hv
        cases e9
        obtain ⟨r34, s35, hv, hf⟩ := ob_p hf
        refine hw_V (b := b36) (ci := 4) (T := TX3) (N := 4) (As := [va_rf (r30)]) (rest := []) S hKn hRm hD (c_X3_makeRow l D G base E hv) (mo_X3_makeRow hv) hk9 rfl (by decide) gX5_pack_X3_makeRow rfl 1 (by decide +kernel) ⟨by rw [hfr]; decide, by rw [hlo]; decide⟩ rfl hl.1 (Nat.le_trans cs_0 (by decide)) rfl dX5_pack_105 (fun H locs cells slots hD => ?_)
        refine W.eq (g2 := F0 m 108 ls []) rfl ?_
        refine hs_iinc (i := 3) (k := 1) (v := v3 + 1) (lv' := [(3, .int (v3 + 1)), (0, va_rf (v0))]) hx hb dX5_pack_108 hl rfl (congrArg (fun z => v3 + z) (by decide)) (by decide) (st_okR (st_okI st_ok0)) rfl (fun ls hl => ?_)
        refine lv_goto (tgt := 79) hx hb dX5_pack_111 (by decide) ?_
        exact ih v0 (v3 + 1) _ _ _ _ _ _ hD (lv_sub hl [1, 0] rfl) hf
  have hL43 : ∀ (n : Nat), ∀ (v0 : Option Nat) (v2 : Int32) (v3 : Int32) (σ : PS) (H : Heap) (locs : List Loc) (cells slots : Nat) (ls : Array Slot), Dy D G base E s.heap σ0 σ H locs cells slots → lv_has ls 4 [(0, va_rf (v0)), (2, .int (v2)), (3, .int (v3))] → f_X5_pack_L43 E n v0 v2 v3 σ = some (rv, τ) → W p l e R s m ([.ref a0, .int (p1), .int (p2)] : List Value).toArray below meth c H locs cells slots Q (F0 m 43 ls []) := by
    intro n
    induction n with
    | zero =>
      intro v0 v2 v3 σ H locs cells slots ls hD hl hf
      rw [f_X5_pack_L43] at hf
      cases hf
    | succ n ih =>
      intro v0 v2 v3 σ H locs cells slots ls hD hl hf
      rw [f_X5_pack_L43] at hf
      refine lv_iload_n hx hb dX5_pack_43 rfl (lv_at hl 2 rfl) ?_
      refine lv_bipush (v := (6)) hx hb dX5_pack_44 (by decide) ?_
      refine lv_icmp_ge (tgt := 77) hx hb dX5_pack_46 (by decide) (fun hc => ?_) (fun hc => ?_)
      · rw [if_pos hc] at hf
        refine lv_iconst (v := (0)) hx hb dX5_pack_77 (by decide) ?_
        refine hs_istore_n (i := 3) (lv' := [(3, .int ((0 : Int32))), (0, va_rf (v0)), (2, .int (v2))]) hx hb dX5_pack_78 rfl hl (by decide) (st_okR (st_okI (st_okI st_ok0))) rfl (fun ls hl => ?_)
        exact hL79 _ v0 (0 : Int32) _ _ _ _ _ _ hD (lv_sub hl [1, 0] rfl) hf
      · rw [if_neg hc] at hf
        refine hw_aload_n (r := v0) hx hb dX5_pack_49 rfl (lv_at hl 0 rfl) ?_
        refine lv_iload_n hx hb dX5_pack_50 rfl (lv_at hl 2 rfl) ?_
        obtain ⟨b11, hv, hf⟩ := ob_s hf
        obtain ⟨e9, hk9⟩ := oK_of hv
        cases e9
        obtain ⟨r9, s10, hv, hf⟩ := ob_p hf
        refine hw_V (b := b11) (ci := 6) (T := TX5) (N := 8) (As := [.int (v3)]) (rest := []) S hKn hRm hD (c_X5_lineUpKept l D G base E hv) (mo_X5_lineUpKept hv) hk9 rfl (by decide) gX5_pack_X5_lineUpKept rfl 1 (by decide +kernel) ⟨by rw [hfr]; decide, by rw [hlo]; decide⟩ rfl hl.1 (Nat.le_trans cs_0 (by decide)) rfl dX5_pack_51 (fun H locs cells slots hD => ?_)
        refine W.eq (g2 := F0 m 54 ls []) rfl ?_
        refine hw_aload_n (r := (some b11)) hx hb dX5_pack_54 rfl (lv_at hl 0 rfl) ?_
        obtain ⟨x12, hv, hf⟩ := ob_s hf
        refine hw_gr (C := RX5) (T := TX5) (N := 8) (ref := "SolidGroups") S hKn hD hv rfl (by decide) (by decide) rfl inX5 wd2 (fun _ h9 => h9) dX5_pack_55 ?_
        refine hw_aload_n (r := (some b11)) hx hb dX5_pack_58 rfl (lv_at hl 0 rfl) ?_
        obtain ⟨x13, hv, hf⟩ := ob_s hf
        refine hw_gr (C := RX5) (T := TX5) (N := 8) (ref := "SolidGroups") S hKn hD hv rfl (by decide) (by decide) rfl inX5 wd3 (fun _ h9 => h9) dX5_pack_59 ?_
        refine lv_iload_n hx hb dX5_pack_62 rfl (lv_at hl 1 rfl) ?_
        obtain ⟨b16, hv, hf⟩ := ob_s hf
        obtain ⟨e9, hk9⟩ := oK_of hv
        cases e9
        obtain ⟨r14, s15, hv, hf⟩ := ob_p hf
        refine hw_V (b := b16) (ci := 1) (T := TX0) (N := 3) (As := [va_rf (x13), .int (v2)]) (rest := []) S hKn hRm hD (c_X0_arrange l D G base E hv) (mo_X0_arrange hv) hk9 rfl (by decide) gX5_pack_X0_arrange rfl 2 (by decide +kernel) ⟨by rw [hfr]; decide, by rw [hlo]; decide⟩ rfl hl.1 (Nat.le_trans cs_0 (by decide)) rfl dX5_pack_63 (fun H locs cells slots hD => ?_)
        refine W.eq (g2 := F0 m 66 ls []) rfl ?_
        refine hw_aload_n (r := (some b11)) hx hb dX5_pack_66 rfl (lv_at hl 0 rfl) ?_
        refine lv_iload_n hx hb dX5_pack_67 rfl (lv_at hl 2 rfl) ?_
        obtain ⟨b19, hv, hf⟩ := ob_s hf
        obtain ⟨e9, hk9⟩ := oK_of hv
        cases e9
        obtain ⟨r17, s18, hv, hf⟩ := ob_p hf
        refine hw_V (b := b11) (ci := 6) (T := TX5) (N := 8) (As := [.int (v3)]) (rest := []) S hKn hRm hD (c_X5_groupLine l D G base E hv) (mo_X5_groupLine hv) hk9 rfl (by decide) gX5_pack_X5_groupLine rfl 1 (by decide +kernel) ⟨by rw [hfr]; decide, by rw [hlo]; decide⟩ rfl hl.1 (Nat.le_trans cs_0 (by decide)) rfl dX5_pack_68 (fun H locs cells slots hD => ?_)
        refine W.eq (g2 := F0 m 71 ls []) rfl ?_
        refine hs_iinc (i := 3) (k := 2) (v := v3 + 1) (lv' := [(3, .int (v3 + 1)), (0, va_rf ((some b11))), (2, .int (v2))]) hx hb dX5_pack_71 hl rfl (congrArg (fun z => v3 + z) (by decide)) (by decide) (st_okR (st_okI (st_okI st_ok0))) rfl (fun ls hl => ?_)
        refine lv_goto (tgt := 43) hx hb dX5_pack_74 (by decide) ?_
        exact ih (some b11) v2 (v3 + 1) _ _ _ _ _ _ hD (lv_sub hl [1, 2, 0] rfl) hf
  have hl : lv_has ls 4 [(0, va_rf (some a0)), (1, .int (p1)), (2, .int (p2))] := hl
  unfold g_X5_pack at hf
  refine lv_iload_n hx hb dX5_pack_0 rfl (lv_at hl 1 rfl) ?_
  refine lv_iconst (v := (1)) hx hb dX5_pack_1 (by decide) ?_
  refine lv_icmp_lt (tgt := 21) hx hb dX5_pack_2 (by decide) (fun hc => ?_) (fun hc => ?_)
  · rw [if_pos hc] at hf
    exact hB21 _ _ _ _ _ _ hD (lv_sub hl [] rfl) hf
  · rw [if_neg hc] at hf
    refine lv_iload_n hx hb dX5_pack_5 rfl (lv_at hl 1 rfl) ?_
    refine lv_sipush (v := (400)) hx hb dX5_pack_6 (by decide) ?_
    refine lv_icmp_gt (tgt := 21) hx hb dX5_pack_9 (by decide) (fun hc => ?_) (fun hc => ?_)
    · rw [if_pos hc] at hf
      exact hB21 _ _ _ _ _ _ hD (lv_sub hl [] rfl) hf
    · rw [if_neg hc] at hf
      refine lv_iload_n hx hb dX5_pack_12 rfl (lv_at hl 2 rfl) ?_
      refine lv_if_lt (tgt := 21) hx hb dX5_pack_13 (by decide) (fun hc => ?_) (fun hc => ?_)
      · rw [if_pos hc] at hf
        exact hB21 _ _ _ _ _ _ hD (lv_sub hl [] rfl) hf
      · rw [if_neg hc] at hf
        refine lv_iload_n hx hb dX5_pack_16 rfl (lv_at hl 2 rfl) ?_
        refine lv_iconst (v := (2)) hx hb dX5_pack_17 (by decide) ?_
        refine lv_icmp_le (tgt := 23) hx hb dX5_pack_18 (by decide) (fun hc => ?_) (fun hc => ?_)
        · rw [if_pos hc] at hf
          refine hw_aload_n (r := (some a0)) hx hb dX5_pack_23 rfl (lv_at hl 0 rfl) ?_
          refine lv_iconst (v := (1)) hx hb dX5_pack_24 (by decide) ?_
          obtain ⟨s1, hv, hf⟩ := ob_s hf
          refine hw_pi (C := RX5) (T := TX5) (N := 8) (ref := "SolidGroups") S hKn hD hv rfl (by decide) (by decide) rfl inX5 tyX5 tyX5_ok nmX5 wd0 (fun _ h9 => h9) rfl (by first | rfl | decide) (by first | rfl | decide) dX5_pack_25 (fun H locs hD => ?_)
          refine hw_aload_n (r := (some a0)) hx hb dX5_pack_28 rfl (lv_at hl 0 rfl) ?_
          refine lv_iload_n hx hb dX5_pack_29 rfl (lv_at hl 1 rfl) ?_
          obtain ⟨s2, hv, hf⟩ := ob_s hf
          refine hw_pi (C := RX5) (T := TX5) (N := 8) (ref := "SolidGroups") S hKn hD hv rfl (by decide) (by decide) rfl inX5 tyX5 tyX5_ok nmX5 wd1 (fun _ h9 => h9) rfl (by first | rfl | decide) (by first | rfl | decide) dX5_pack_30 (fun H locs hD => ?_)
          refine hw_aload_n (r := (some a0)) hx hb dX5_pack_33 rfl (lv_at hl 0 rfl) ?_
          obtain ⟨b5, hv, hf⟩ := ob_s hf
          obtain ⟨e9, hk9⟩ := oK_of hv
          cases e9
          obtain ⟨r3, s4, hv, hf⟩ := ob_p hf
          refine hw_V (b := a0) (ci := 6) (T := TX5) (N := 8) (As := []) (rest := []) S hKn hRm hD (c_X5_findTwins l D G base E hv) (mo_X5_findTwins hv) hk9 rfl (by decide) gX5_pack_X5_findTwins rfl 0 (by decide +kernel) ⟨by rw [hfr]; decide, by rw [hlo]; decide⟩ rfl hl.1 (Nat.le_trans cs_0 (by decide)) rfl dX5_pack_34 (fun H locs cells slots hD => ?_)
          refine W.eq (g2 := F0 m 37 ls []) rfl ?_
          refine hw_aload_n (r := (some a0)) hx hb dX5_pack_37 rfl (lv_at hl 0 rfl) ?_
          obtain ⟨b8, hv, hf⟩ := ob_s hf
          obtain ⟨e9, hk9⟩ := oK_of hv
          cases e9
          obtain ⟨r6, s7, hv, hf⟩ := ob_p hf
          refine hw_V (b := a0) (ci := 6) (T := TX5) (N := 8) (As := []) (rest := []) S hKn hRm hD (c_X5_dropGroups l D G base E hv) (mo_X5_dropGroups hv) hk9 rfl (by decide) gX5_pack_X5_dropGroups rfl 0 (by decide +kernel) ⟨by rw [hfr]; decide, by rw [hlo]; decide⟩ rfl hl.1 (Nat.le_trans cs_0 (by decide)) rfl dX5_pack_38 (fun H locs cells slots hD => ?_)
          refine W.eq (g2 := F0 m 41 ls []) rfl ?_
          refine lv_iconst (v := (0)) hx hb dX5_pack_41 (by decide) ?_
          refine hs_istore_n (i := 3) (lv' := [(3, .int ((0 : Int32))), (0, va_rf ((some a0))), (1, .int (p1)), (2, .int (p2))]) hx hb dX5_pack_42 rfl hl (by decide) (st_okR (st_okI (st_okI st_ok0))) rfl (fun ls hl => ?_)
          exact hL43 _ (some a0) p2 (0 : Int32) _ _ _ _ _ _ hD (lv_sub hl [1, 3, 0] rfl) hf
        · rw [if_neg hc] at hf
          exact hB21 _ _ _ _ _ _ hD (lv_sub hl [] rfl) hf
set_option maxHeartbeats 4000000 in
set_option maxRecDepth 100000 in
theorem c_X5_commonMarks (l : Launch) (D : va_G) (G : GC) (base : Nat) (E : PE) {p0 : Option Nat} {p1 : Option Nat} {σ0 τ : PS} {rv : Int32} (hF : f_X5_commonMarks E p0 p1 σ0 = some (rv, τ)) : Ct l D G base E yX5_commonMarks wsX5_commonMarks 1 60 ([va_rf (p0), va_rf (p1)] : List Value) σ0 (some (.int rv)) τ := by
  obtain ⟨hf, hmo⟩ := oM_of hF
  refine Ct.of (own := RX5) [1, 1] (by decide) rfl rfl hmo (ct_A (ct_A ct_0)) (by decide) ?_
  intro p e s m below meth c R Q ls H locs cells slots S hKn hRm hfr hlo hlk hret hnm hQ hD hl
  have hx := S.1
  have hb := S.2.1
  have hts := S.2.2.2.2
  have inX1 : ∀ w ∈ u_ws RX1 TX1 6, w ∈ wsX5_commonMarks := by decide +kernel
  have wd0 := hts (.fieldLink RX5 195 "SolidGroups$Entry" "marks" "[I") (by decide +kernel)
  have wd1 := hts (.methodLink RX5 198 Lib.Math.min.name) (by decide +kernel)
  have wd2 := hts (.static Lib.Math.min.name) (by decide +kernel)
  have wd3 := hts (.initialized "java/lang/Math") (by decide +kernel)
  have wd4 := hts (.code Lib.Math.min.name Lib.Math.min.code 2 (some .int)) (by decide +kernel)
  have hL4 : ∀ (n : Nat), ∀ (v0 : Option Nat) (v1 : Option Nat) (v2 : Int32) (v3 : Int32) (σ : PS) (H : Heap) (locs : List Loc) (cells slots : Nat) (ls : Array Slot), Dy D G base E s.heap σ0 σ H locs cells slots → lv_has ls 4 [(0, va_rf (v0)), (1, va_rf (v1)), (2, .int (v2)), (3, .int (v3))] → f_X5_commonMarks_L4 E n v0 v1 v2 v3 σ = some (rv, τ) → W p l e R s m ([va_rf (p0), va_rf (p1)] : List Value).toArray below meth c H locs cells slots Q (F0 m 4 ls []) := by
    intro n
    induction n with
    | zero =>
      intro v0 v1 v2 v3 σ H locs cells slots ls hD hl hf
      rw [f_X5_commonMarks_L4] at hf
      cases hf
    | succ n ih =>
      intro v0 v1 v2 v3 σ H locs cells slots ls hD hl hf
      rw [f_X5_commonMarks_L4] at hf
      refine lv_iload_n hx hb dX5_commonMarks_4 rfl (lv_at hl 3 rfl) ?_
      refine lv_bipush (v := (32)) hx hb dX5_commonMarks_5 (by decide) ?_
      refine lv_icmp_ge (tgt := 34) hx hb dX5_commonMarks_7 (by decide) (fun hc => ?_) (fun hc => ?_)
      · rw [if_pos hc] at hf
        refine lv_iload_n hx hb dX5_commonMarks_34 rfl (lv_at hl 2 rfl) ?_
        obtain ⟨e1, e2⟩ := ret_eq hf
        rw [hQ, ← e1, ← e2]
        exact hw_iret S hlk hret rfl hD dX5_commonMarks_35
      · rw [if_neg hc] at hf
        refine lv_iload_n hx hb dX5_commonMarks_10 rfl (lv_at hl 2 rfl) ?_
        refine hw_aload_n (r := v0) hx hb dX5_commonMarks_11 rfl (lv_at hl 0 rfl) ?_
        obtain ⟨x1, hv, hf⟩ := ob_s hf
        refine hw_gr (C := RX1) (T := TX1) (N := 6) (ref := "SolidGroups$Entry") S hKn hD hv rfl (by decide) (by decide) rfl inX1 wd0 (fun _ h9 => h9) dX5_commonMarks_12 ?_
        refine lv_iload_n hx hb dX5_commonMarks_15 rfl (lv_at hl 3 rfl) ?_
        obtain ⟨x2, hv, hf⟩ := ob_s hf
        refine hw_al S hKn hD hv dX5_commonMarks_16 ?_
        refine hw_aload_n (r := v1) hx hb dX5_commonMarks_17 rfl (lv_at hl 1 rfl) ?_
        obtain ⟨x3, hv, hf⟩ := ob_s hf
        refine hw_gr (C := RX1) (T := TX1) (N := 6) (ref := "SolidGroups$Entry") S hKn hD hv rfl (by decide) (by decide) rfl inX1 wd0 (fun _ h9 => h9) dX5_commonMarks_18 ?_
        refine lv_iload_n hx hb dX5_commonMarks_21 rfl (lv_at hl 3 rfl) ?_
        obtain ⟨x4, hv, hf⟩ := ob_s hf
        refine hw_al S hKn hD hv dX5_commonMarks_22 ?_
        refine va_mmin hx hb (S.2.2.1.trans hl.1.symm) S.2.2.2.1 wd1 wd2 wd3 wd4 (by rw [hfr]; decide) (by rw [hlo]; exact Nat.le_trans (Nat.add_le_add_right (cs_I cs_0) 13) (by decide)) (by have := hw_room hRm hD; omega) (by have := hw_room hRm hD; omega) dX5_commonMarks_23 ?_
        refine lv_iadd hx hb dX5_commonMarks_26 ?_
        refine hs_istore_n (i := 2) (lv' := [(2, .int (v2 + (if x4 < x2 then x4 else x2))), (0, va_rf (v0)), (1, va_rf (v1)), (3, .int (v3))]) hx hb dX5_commonMarks_27 rfl hl (by decide) (st_okR (st_okR (st_okI (st_okI st_ok0)))) rfl (fun ls hl => ?_)
        refine hs_iinc (i := 3) (k := 3) (v := v3 + 1) (lv' := [(3, .int (v3 + 1)), (2, .int (v2 + (if x4 < x2 then x4 else x2))), (0, va_rf (v0)), (1, va_rf (v1))]) hx hb dX5_commonMarks_28 hl rfl (congrArg (fun z => v3 + z) (by decide)) (by decide) (st_okI (st_okR (st_okR (st_okI st_ok0)))) rfl (fun ls hl => ?_)
        refine lv_goto (tgt := 4) hx hb dX5_commonMarks_31 (by decide) ?_
        exact ih v0 v1 (v2 + (if x4 < x2 then x4 else x2)) (v3 + 1) _ _ _ _ _ _ hD (lv_sub hl [2, 3, 1, 0] rfl) hf
  have hl : lv_has ls 4 [(0, va_rf (p0)), (1, va_rf (p1))] := hl
  unfold g_X5_commonMarks at hf
  refine lv_iconst (v := (0)) hx hb dX5_commonMarks_0 (by decide) ?_
  refine hs_istore_n (i := 2) (lv' := [(2, .int ((0 : Int32))), (0, va_rf (p0)), (1, va_rf (p1))]) hx hb dX5_commonMarks_1 rfl hl (by decide) (st_okR (st_okR st_ok0)) rfl (fun ls hl => ?_)
  refine lv_iconst (v := (0)) hx hb dX5_commonMarks_2 (by decide) ?_
  refine hs_istore_n (i := 3) (lv' := [(3, .int ((0 : Int32))), (2, .int ((0 : Int32))), (0, va_rf (p0)), (1, va_rf (p1))]) hx hb dX5_commonMarks_3 rfl hl (by decide) (st_okI (st_okR (st_okR st_ok0))) rfl (fun ls hl => ?_)
  exact hL4 _ p0 p1 (0 : Int32) (0 : Int32) _ _ _ _ _ _ hD (lv_sub hl [2, 3, 1, 0] rfl) hf
set_option maxHeartbeats 4000000 in
set_option maxRecDepth 100000 in
theorem c_X5_common (l : Launch) (D : va_G) (G : GC) (base : Nat) (E : PE) {a0 : Nat} {p1 : Int32} {p2 : Int32} {σ0 τ : PS} {rv : Int32} (hF : f_X5_common E (some a0) p1 p2 σ0 = some (rv, τ)) : Ct l D G base E yX5_common wsX5_common 3 83 ([.ref a0, .int (p1), .int (p2)] : List Value) σ0 (some (.int rv)) τ := by
  obtain ⟨hf, hmo⟩ := oM_of hF
  refine Ct.of (own := RX5) [1, 1, 1] (by decide) rfl rfl hmo (ct_R (ct_I (ct_I ct_0))) (by decide) ?_
  intro p e s m below meth c R Q ls H locs cells slots S hKn hRm hfr hlo hlk hret hnm hQ hD hl
  have hx := S.1
  have hb := S.2.1
  have hts := S.2.2.2.2
  have inX5 : ∀ w ∈ u_ws RX5 TX5 8, w ∈ wsX5_common := by decide +kernel
  have wd0 := hts (.fieldLink RX5 10 "SolidGroups" "entries" "Ljava/util/ArrayList;") (by decide +kernel)
  have wd1 := hts (.classLink RX5 55 "SolidGroups$Entry") (by decide +kernel)
  have hB16 : ∀ (σ : PS) (H : Heap) (locs : List Loc) (cells slots : Nat) (ls : Array Slot), Dy D G base E s.heap σ0 σ H locs cells slots → lv_has ls 3 [] → f_X5_common_B16 E σ = some (rv, τ) → W p l e R s m ([.ref a0, .int (p1), .int (p2)] : List Value).toArray below meth c H locs cells slots Q (F0 m 16 ls []) := by
    intro σ H locs cells slots ls hD hl hf
    unfold f_X5_common_B16 at hf
    refine lv_iconst (v := (-1)) hx hb dX5_common_16 (by decide) ?_
    obtain ⟨e1, e2⟩ := ret_eq hf
    rw [hQ, ← e1, ← e2]
    exact hw_iret S hlk hret rfl hD dX5_common_17
  have hl : lv_has ls 3 [(0, va_rf (some a0)), (1, .int (p1)), (2, .int (p2))] := hl
  unfold g_X5_common at hf
  refine hw_aload_n (r := (some a0)) hx hb dX5_common_0 rfl (lv_at hl 0 rfl) ?_
  refine lv_iload_n hx hb dX5_common_1 rfl (lv_at hl 1 rfl) ?_
  obtain ⟨b3, hv, hf⟩ := ob_s hf
  obtain ⟨e9, hk9⟩ := oK_of hv
  cases e9
  obtain ⟨r1, s2, hv, hf⟩ := ob_p hf
  refine hw_V (b := a0) (ci := 6) (T := TX5) (N := 8) (As := [.int (p1)]) (rest := []) S hKn hRm hD (c_X5_isEntry l D G base E hv) (mo_X5_isEntry hv) hk9 rfl (by decide) gX5_common_X5_isEntry rfl 1 (by decide +kernel) ⟨by rw [hfr]; decide, by rw [hlo]; decide⟩ rfl hl.1 (Nat.le_trans cs_0 (by decide)) rfl dX5_common_2 (fun H locs cells slots hD => ?_)
  refine W.eq (g2 := F0 m 5 ls [.int (r1)]) rfl ?_
  refine lv_if_eq (tgt := 16) hx hb dX5_common_5 (by decide) (fun hc => ?_) (fun hc => ?_)
  · rw [if_pos hc] at hf
    exact hB16 _ _ _ _ _ _ hD (lv_sub hl [] rfl) hf
  · rw [if_neg hc] at hf
    refine hw_aload_n (r := (some a0)) hx hb dX5_common_8 rfl (lv_at hl 0 rfl) ?_
    refine lv_iload_n hx hb dX5_common_9 rfl (lv_at hl 2 rfl) ?_
    obtain ⟨b6, hv, hf⟩ := ob_s hf
    obtain ⟨e9, hk9⟩ := oK_of hv
    cases e9
    obtain ⟨r4, s5, hv, hf⟩ := ob_p hf
    refine hw_V (b := a0) (ci := 6) (T := TX5) (N := 8) (As := [.int (p2)]) (rest := []) S hKn hRm hD (c_X5_isEntry l D G base E hv) (mo_X5_isEntry hv) hk9 rfl (by decide) gX5_common_X5_isEntry rfl 1 (by decide +kernel) ⟨by rw [hfr]; decide, by rw [hlo]; decide⟩ rfl hl.1 (Nat.le_trans cs_0 (by decide)) rfl dX5_common_10 (fun H locs cells slots hD => ?_)
    refine W.eq (g2 := F0 m 13 ls [.int (r4)]) rfl ?_
    refine lv_if_ne (tgt := 18) hx hb dX5_common_13 (by decide) (fun hc => ?_) (fun hc => ?_)
    · rw [if_neg hc] at hf
      refine hw_aload_n (r := (some a0)) hx hb dX5_common_18 rfl (lv_at hl 0 rfl) ?_
      obtain ⟨x7, hv, hf⟩ := ob_s hf
      refine hw_gr (C := RX5) (T := TX5) (N := 8) (ref := "SolidGroups") S hKn hD hv rfl (by decide) (by decide) rfl inX5 wd0 (fun _ h9 => h9) dX5_common_19 ?_
      refine lv_iload_n hx hb dX5_common_22 rfl (lv_at hl 1 rfl) ?_
      obtain ⟨b10, hv, hf⟩ := ob_s hf
      obtain ⟨e9, hk9⟩ := oK_of hv
      cases e9
      obtain ⟨r8, s9, hv, hf⟩ := ob_p hf
      refine hw_V (b := b10) (ci := 0) (T := TJx4a65c) (N := 3) (As := [.int (p1)]) (rest := []) S hKn hRm hD (c_Jx4a65c_get_915e3 l D G base E hv) (mo_Jx4a65c_get_915e3 hv) hk9 rfl (by decide) gX5_common_Jx4a65c_get_915e3 rfl 1 (by decide +kernel) ⟨by rw [hfr]; decide, by rw [hlo]; decide⟩ rfl hl.1 (Nat.le_trans cs_0 (by decide)) rfl dX5_common_23 (fun H locs cells slots hD => ?_)
      refine W.eq (g2 := F0 m 26 ls [va_rf (r8)]) rfl ?_
      obtain ⟨u11, hv, hf⟩ := ob_s hf
      refine hw_ca (C := RX1) (T := TX1) (N := 6) S hKn hD hv rfl (by decide) wd1 dX5_common_26 ?_
      refine hw_aload_n (r := (some a0)) hx hb dX5_common_29 rfl (lv_at hl 0 rfl) ?_
      obtain ⟨x12, hv, hf⟩ := ob_s hf
      refine hw_gr (C := RX5) (T := TX5) (N := 8) (ref := "SolidGroups") S hKn hD hv rfl (by decide) (by decide) rfl inX5 wd0 (fun _ h9 => h9) dX5_common_30 ?_
      refine lv_iload_n hx hb dX5_common_33 rfl (lv_at hl 2 rfl) ?_
      obtain ⟨b15, hv, hf⟩ := ob_s hf
      obtain ⟨e9, hk9⟩ := oK_of hv
      cases e9
      obtain ⟨r13, s14, hv, hf⟩ := ob_p hf
      refine hw_V (b := b15) (ci := 0) (T := TJx4a65c) (N := 3) (As := [.int (p2)]) (rest := [va_rf (r8)]) S hKn hRm hD (c_Jx4a65c_get_915e3 l D G base E hv) (mo_Jx4a65c_get_915e3 hv) hk9 rfl (by decide) gX5_common_Jx4a65c_get_915e3 rfl 1 (by decide +kernel) ⟨by rw [hfr]; decide, by rw [hlo]; decide⟩ rfl hl.1 (Nat.le_trans (cs_A cs_0) (by decide)) rfl dX5_common_34 (fun H locs cells slots hD => ?_)
      refine W.eq (g2 := F0 m 37 ls [va_rf (r13), va_rf (r8)]) rfl ?_
      obtain ⟨u16, hv, hf⟩ := ob_s hf
      refine hw_ca (C := RX1) (T := TX1) (N := 6) S hKn hD hv rfl (by decide) wd1 dX5_common_37 ?_
      obtain ⟨r17, s18, hv, hf⟩ := ob_p hf
      refine hw_S (As := [va_rf (r8), va_rf (r13)]) (rest := []) S hKn hRm hD (c_X5_commonMarks l D G base E hv) (mo_X5_commonMarks hv) gX5_common_X5_commonMarks rfl 2 (by decide +kernel) ⟨by rw [hfr]; decide, by rw [hlo]; decide⟩ rfl hl.1 (Nat.le_trans cs_0 (by decide)) rfl dX5_common_40 (fun H locs cells slots hD => ?_)
      refine W.eq (g2 := F0 m 43 ls [.int (r17)]) rfl ?_
      obtain ⟨e1, e2⟩ := ret_eq hf
      rw [hQ, ← e1, ← e2]
      exact hw_iret S hlk hret rfl hD dX5_common_43
    · rw [if_pos hc] at hf
      exact hB16 _ _ _ _ _ _ hD (lv_sub hl [] rfl) hf
set_option maxHeartbeats 4000000 in
set_option maxRecDepth 100000 in
theorem c_X5_distance (l : Launch) (D : va_G) (G : GC) (base : Nat) (E : PE) {a0 : Nat} {p1 : Int32} {p2 : Int32} {σ0 τ : PS} {rv : Int32} (hF : f_X5_distance E (some a0) p1 p2 σ0 = some (rv, τ)) : Ct l D G base E yX5_distance wsX5_distance 3 83 ([.ref a0, .int (p1), .int (p2)] : List Value) σ0 (some (.int rv)) τ := by
  obtain ⟨hf, hmo⟩ := oM_of hF
  refine Ct.of (own := RX5) [1, 1, 1] (by decide) rfl rfl hmo (ct_R (ct_I (ct_I ct_0))) (by decide) ?_
  intro p e s m below meth c R Q ls H locs cells slots S hKn hRm hfr hlo hlk hret hnm hQ hD hl
  have hx := S.1
  have hb := S.2.1
  have hts := S.2.2.2.2
  have inX5 : ∀ w ∈ u_ws RX5 TX5 8, w ∈ wsX5_distance := by decide +kernel
  have wd0 := hts (.fieldLink RX5 10 "SolidGroups" "entries" "Ljava/util/ArrayList;") (by decide +kernel)
  have wd1 := hts (.classLink RX5 55 "SolidGroups$Entry") (by decide +kernel)
  have hB16 : ∀ (σ : PS) (H : Heap) (locs : List Loc) (cells slots : Nat) (ls : Array Slot), Dy D G base E s.heap σ0 σ H locs cells slots → lv_has ls 3 [] → f_X5_distance_B16 E σ = some (rv, τ) → W p l e R s m ([.ref a0, .int (p1), .int (p2)] : List Value).toArray below meth c H locs cells slots Q (F0 m 16 ls []) := by
    intro σ H locs cells slots ls hD hl hf
    unfold f_X5_distance_B16 at hf
    refine lv_iconst (v := (-1)) hx hb dX5_distance_16 (by decide) ?_
    obtain ⟨e1, e2⟩ := ret_eq hf
    rw [hQ, ← e1, ← e2]
    exact hw_iret S hlk hret rfl hD dX5_distance_17
  have hl : lv_has ls 3 [(0, va_rf (some a0)), (1, .int (p1)), (2, .int (p2))] := hl
  unfold g_X5_distance at hf
  refine hw_aload_n (r := (some a0)) hx hb dX5_distance_0 rfl (lv_at hl 0 rfl) ?_
  refine lv_iload_n hx hb dX5_distance_1 rfl (lv_at hl 1 rfl) ?_
  obtain ⟨b3, hv, hf⟩ := ob_s hf
  obtain ⟨e9, hk9⟩ := oK_of hv
  cases e9
  obtain ⟨r1, s2, hv, hf⟩ := ob_p hf
  refine hw_V (b := a0) (ci := 6) (T := TX5) (N := 8) (As := [.int (p1)]) (rest := []) S hKn hRm hD (c_X5_isEntry l D G base E hv) (mo_X5_isEntry hv) hk9 rfl (by decide) gX5_distance_X5_isEntry rfl 1 (by decide +kernel) ⟨by rw [hfr]; decide, by rw [hlo]; decide⟩ rfl hl.1 (Nat.le_trans cs_0 (by decide)) rfl dX5_distance_2 (fun H locs cells slots hD => ?_)
  refine W.eq (g2 := F0 m 5 ls [.int (r1)]) rfl ?_
  refine lv_if_eq (tgt := 16) hx hb dX5_distance_5 (by decide) (fun hc => ?_) (fun hc => ?_)
  · rw [if_pos hc] at hf
    exact hB16 _ _ _ _ _ _ hD (lv_sub hl [] rfl) hf
  · rw [if_neg hc] at hf
    refine hw_aload_n (r := (some a0)) hx hb dX5_distance_8 rfl (lv_at hl 0 rfl) ?_
    refine lv_iload_n hx hb dX5_distance_9 rfl (lv_at hl 2 rfl) ?_
    obtain ⟨b6, hv, hf⟩ := ob_s hf
    obtain ⟨e9, hk9⟩ := oK_of hv
    cases e9
    obtain ⟨r4, s5, hv, hf⟩ := ob_p hf
    refine hw_V (b := a0) (ci := 6) (T := TX5) (N := 8) (As := [.int (p2)]) (rest := []) S hKn hRm hD (c_X5_isEntry l D G base E hv) (mo_X5_isEntry hv) hk9 rfl (by decide) gX5_distance_X5_isEntry rfl 1 (by decide +kernel) ⟨by rw [hfr]; decide, by rw [hlo]; decide⟩ rfl hl.1 (Nat.le_trans cs_0 (by decide)) rfl dX5_distance_10 (fun H locs cells slots hD => ?_)
    refine W.eq (g2 := F0 m 13 ls [.int (r4)]) rfl ?_
    refine lv_if_ne (tgt := 18) hx hb dX5_distance_13 (by decide) (fun hc => ?_) (fun hc => ?_)
    · rw [if_neg hc] at hf
      refine hw_aload_n (r := (some a0)) hx hb dX5_distance_18 rfl (lv_at hl 0 rfl) ?_
      obtain ⟨x7, hv, hf⟩ := ob_s hf
      refine hw_gr (C := RX5) (T := TX5) (N := 8) (ref := "SolidGroups") S hKn hD hv rfl (by decide) (by decide) rfl inX5 wd0 (fun _ h9 => h9) dX5_distance_19 ?_
      refine lv_iload_n hx hb dX5_distance_22 rfl (lv_at hl 1 rfl) ?_
      obtain ⟨b10, hv, hf⟩ := ob_s hf
      obtain ⟨e9, hk9⟩ := oK_of hv
      cases e9
      obtain ⟨r8, s9, hv, hf⟩ := ob_p hf
      refine hw_V (b := b10) (ci := 0) (T := TJx4a65c) (N := 3) (As := [.int (p1)]) (rest := []) S hKn hRm hD (c_Jx4a65c_get_915e3 l D G base E hv) (mo_Jx4a65c_get_915e3 hv) hk9 rfl (by decide) gX5_distance_Jx4a65c_get_915e3 rfl 1 (by decide +kernel) ⟨by rw [hfr]; decide, by rw [hlo]; decide⟩ rfl hl.1 (Nat.le_trans cs_0 (by decide)) rfl dX5_distance_23 (fun H locs cells slots hD => ?_)
      refine W.eq (g2 := F0 m 26 ls [va_rf (r8)]) rfl ?_
      obtain ⟨u11, hv, hf⟩ := ob_s hf
      refine hw_ca (C := RX1) (T := TX1) (N := 6) S hKn hD hv rfl (by decide) wd1 dX5_distance_26 ?_
      refine hw_aload_n (r := (some a0)) hx hb dX5_distance_29 rfl (lv_at hl 0 rfl) ?_
      obtain ⟨x12, hv, hf⟩ := ob_s hf
      refine hw_gr (C := RX5) (T := TX5) (N := 8) (ref := "SolidGroups") S hKn hD hv rfl (by decide) (by decide) rfl inX5 wd0 (fun _ h9 => h9) dX5_distance_30 ?_
      refine lv_iload_n hx hb dX5_distance_33 rfl (lv_at hl 2 rfl) ?_
      obtain ⟨b15, hv, hf⟩ := ob_s hf
      obtain ⟨e9, hk9⟩ := oK_of hv
      cases e9
      obtain ⟨r13, s14, hv, hf⟩ := ob_p hf
      refine hw_V (b := b15) (ci := 0) (T := TJx4a65c) (N := 3) (As := [.int (p2)]) (rest := [va_rf (r8)]) S hKn hRm hD (c_Jx4a65c_get_915e3 l D G base E hv) (mo_Jx4a65c_get_915e3 hv) hk9 rfl (by decide) gX5_distance_Jx4a65c_get_915e3 rfl 1 (by decide +kernel) ⟨by rw [hfr]; decide, by rw [hlo]; decide⟩ rfl hl.1 (Nat.le_trans (cs_A cs_0) (by decide)) rfl dX5_distance_34 (fun H locs cells slots hD => ?_)
      refine W.eq (g2 := F0 m 37 ls [va_rf (r13), va_rf (r8)]) rfl ?_
      obtain ⟨u16, hv, hf⟩ := ob_s hf
      refine hw_ca (C := RX1) (T := TX1) (N := 6) S hKn hD hv rfl (by decide) wd1 dX5_distance_37 ?_
      obtain ⟨r17, s18, hv, hf⟩ := ob_p hf
      refine hw_S (As := [va_rf (r8), va_rf (r13)]) (rest := []) S hKn hRm hD (c_X5_apart l D G base E hv) (mo_X5_apart hv) gX5_distance_X5_apart rfl 2 (by decide +kernel) ⟨by rw [hfr]; decide, by rw [hlo]; decide⟩ rfl hl.1 (Nat.le_trans cs_0 (by decide)) rfl dX5_distance_40 (fun H locs cells slots hD => ?_)
      refine W.eq (g2 := F0 m 43 ls [.int (r17)]) rfl ?_
      obtain ⟨e1, e2⟩ := ret_eq hf
      rw [hQ, ← e1, ← e2]
      exact hw_iret S hlk hret rfl hD dX5_distance_43
    · rw [if_pos hc] at hf
      exact hB16 _ _ _ _ _ _ hD (lv_sub hl [] rfl) hf
set_option maxHeartbeats 4000000 in
set_option maxRecDepth 100000 in
theorem c_X5_order (l : Launch) (D : va_G) (G : GC) (base : Nat) (E : PE) {a0 : Nat} {p1 : Int32} {σ0 τ : PS} {rv : Int32} (hF : f_X5_order E (some a0) p1 σ0 = some (rv, τ)) : Ct l D G base E yX5_order wsX5_order 3 64 ([.ref a0, .int (p1)] : List Value) σ0 (some (.int rv)) τ := by
  obtain ⟨hf, hmo⟩ := oM_of hF
  refine Ct.of (own := RX5) [1, 1] (by decide) rfl rfl hmo (ct_R (ct_I ct_0)) (by decide) ?_
  intro p e s m below meth c R Q ls H locs cells slots S hKn hRm hfr hlo hlk hret hnm hQ hD hl
  have hx := S.1
  have hb := S.2.1
  have hts := S.2.2.2.2
  have inX5 : ∀ w ∈ u_ws RX5 TX5 8, w ∈ wsX5_order := by decide +kernel
  have inX2 : ∀ w ∈ u_ws RX2 TX2 4, w ∈ wsX5_order := by decide +kernel
  have inX1 : ∀ w ∈ u_ws RX1 TX1 6, w ∈ wsX5_order := by decide +kernel
  have wd0 := hts (.fieldLink RX5 39 "SolidGroups" "packed" "Z") (by decide +kernel)
  have wd1 := hts (.fieldLink RX5 16 "SolidGroups" "groups" "Ljava/util/ArrayList;") (by decide +kernel)
  have wd2 := hts (.classLink RX5 110 RX2) (by decide +kernel)
  have wd3 := hts (.fieldLink RX5 133 "SolidGroups$Group" "members" "Ljava/util/ArrayList;") (by decide +kernel)
  have wd4 := hts (.classLink RX5 55 "SolidGroups$Entry") (by decide +kernel)
  have wd5 := hts (.fieldLink RX5 136 "SolidGroups$Entry" "number" "I") (by decide +kernel)
  have hL20 : ∀ (n : Nat), ∀ (v0 : Option Nat) (v2 : Int32) (v3 : Int32) (σ : PS) (H : Heap) (locs : List Loc) (cells slots : Nat) (ls : Array Slot), Dy D G base E s.heap σ0 σ H locs cells slots → lv_has ls 6 [(0, va_rf (v0)), (2, .int (v2)), (3, .int (v3))] → f_X5_order_L20 E n v0 v2 v3 σ = some (rv, τ) → W p l e R s m ([.ref a0, .int (p1)] : List Value).toArray below meth c H locs cells slots Q (F0 m 20 ls []) := by
    intro n
    induction n with
    | zero =>
      intro v0 v2 v3 σ H locs cells slots ls hD hl hf
      rw [f_X5_order_L20] at hf
      cases hf
    | succ n ih =>
      intro v0 v2 v3 σ H locs cells slots ls hD hl hf
      rw [f_X5_order_L20] at hf
      refine lv_iload_n hx hb dX5_order_20 rfl (lv_at hl 2 rfl) ?_
      refine hw_aload_n (r := v0) hx hb dX5_order_21 rfl (lv_at hl 0 rfl) ?_
      obtain ⟨x2, hv, hf⟩ := ob_s hf
      refine hw_gr (C := RX5) (T := TX5) (N := 8) (ref := "SolidGroups") S hKn hD hv rfl (by decide) (by decide) rfl inX5 wd1 (fun _ h9 => h9) dX5_order_22 ?_
      obtain ⟨b5, hv, hf⟩ := ob_s hf
      obtain ⟨e9, hk9⟩ := oK_of hv
      cases e9
      obtain ⟨r3, s4, hv, hf⟩ := ob_p hf
      refine hw_V (b := b5) (ci := 0) (T := TJx4a65c) (N := 3) (As := []) (rest := [.int (v3)]) S hKn hRm hD (c_Jx4a65c_size_8abf5 l D G base E hv) (mo_Jx4a65c_size_8abf5 hv) hk9 rfl (by decide) gX5_order_Jx4a65c_size_8abf5 rfl 0 (by decide +kernel) ⟨by rw [hfr]; decide, by rw [hlo]; decide⟩ rfl hl.1 (Nat.le_trans (cs_I cs_0) (by decide)) rfl dX5_order_25 (fun H locs cells slots hD => ?_)
      refine W.eq (g2 := F0 m 28 ls [.int (r3), .int (v3)]) rfl ?_
      refine lv_icmp_ge (tgt := 87) hx hb dX5_order_28 (by decide) (fun hc => ?_) (fun hc => ?_)
      · rw [if_pos hc] at hf
        refine lv_iconst (v := (-1)) hx hb dX5_order_87 (by decide) ?_
        obtain ⟨e1, e2⟩ := ret_eq hf
        rw [hQ, ← e1, ← e2]
        exact hw_iret S hlk hret rfl hD dX5_order_88
      · rw [if_neg hc] at hf
        refine hw_aload_n (r := v0) hx hb dX5_order_31 rfl (lv_at hl 0 rfl) ?_
        obtain ⟨x6, hv, hf⟩ := ob_s hf
        refine hw_gr (C := RX5) (T := TX5) (N := 8) (ref := "SolidGroups") S hKn hD hv rfl (by decide) (by decide) rfl inX5 wd1 (fun _ h9 => h9) dX5_order_32 ?_
        refine lv_iload_n hx hb dX5_order_35 rfl (lv_at hl 2 rfl) ?_
        obtain ⟨b9, hv, hf⟩ := ob_s hf
        obtain ⟨e9, hk9⟩ := oK_of hv
        cases e9
        obtain ⟨r7, s8, hv, hf⟩ := ob_p hf
        refine hw_V (b := b9) (ci := 0) (T := TJx4a65c) (N := 3) (As := [.int (v3)]) (rest := []) S hKn hRm hD (c_Jx4a65c_get_915e3 l D G base E hv) (mo_Jx4a65c_get_915e3 hv) hk9 rfl (by decide) gX5_order_Jx4a65c_get_915e3 rfl 1 (by decide +kernel) ⟨by rw [hfr]; decide, by rw [hlo]; decide⟩ rfl hl.1 (Nat.le_trans cs_0 (by decide)) rfl dX5_order_36 (fun H locs cells slots hD => ?_)
        refine W.eq (g2 := F0 m 39 ls [va_rf (r7)]) rfl ?_
        obtain ⟨u10, hv, hf⟩ := ob_s hf
        refine hw_ca (C := RX2) (T := TX2) (N := 4) S hKn hD hv rfl (by decide) wd2 dX5_order_39 ?_
        refine hs_astore (i := 4) (lv' := [(4, va_rf (r7)), (0, va_rf (v0)), (2, .int (v2)), (3, .int (v3))]) hx hb dX5_order_42 hl (by decide) (st_okR (st_okI (st_okI st_ok0))) rfl (fun ls hl => ?_)
        refine hw_aload (r := r7) hx hb dX5_order_44 (lv_at hl 0 rfl) ?_
        obtain ⟨x11, hv, hf⟩ := ob_s hf
        refine hw_gr (C := RX2) (T := TX2) (N := 4) (ref := "SolidGroups$Group") S hKn hD hv rfl (by decide) (by decide) rfl inX2 wd3 (fun _ h9 => h9) dX5_order_46 ?_
        obtain ⟨b14, hv, hf⟩ := ob_s hf
        obtain ⟨e9, hk9⟩ := oK_of hv
        cases e9
        obtain ⟨r12, s13, hv, hf⟩ := ob_p hf
        refine hw_V (b := b14) (ci := 0) (T := TJx4a65c) (N := 3) (As := []) (rest := []) S hKn hRm hD (c_Jx4a65c_size_8abf5 l D G base E hv) (mo_Jx4a65c_size_8abf5 hv) hk9 rfl (by decide) gX5_order_Jx4a65c_size_8abf5 rfl 0 (by decide +kernel) ⟨by rw [hfr]; decide, by rw [hlo]; decide⟩ rfl hl.1 (Nat.le_trans cs_0 (by decide)) rfl dX5_order_49 (fun H locs cells slots hD => ?_)
        refine W.eq (g2 := F0 m 52 ls [.int (r12)]) rfl ?_
        refine hs_istore (i := 5) (lv' := [(5, .int (r12)), (4, va_rf (r7)), (0, va_rf (v0)), (2, .int (v2)), (3, .int (v3))]) hx hb dX5_order_52 hl (by decide) (st_okR (st_okR (st_okI (st_okI st_ok0)))) rfl (fun ls hl => ?_)
        refine lv_iload_n hx hb dX5_order_54 rfl (lv_at hl 3 rfl) ?_
        refine lv_iload hx hb dX5_order_55 (lv_at hl 0 rfl) ?_
        refine lv_icmp_ge (tgt := 76) hx hb dX5_order_57 (by decide) (fun hc => ?_) (fun hc => ?_)
        · rw [if_pos hc] at hf
          refine lv_iload_n hx hb dX5_order_76 rfl (lv_at hl 3 rfl) ?_
          refine lv_iload hx hb dX5_order_77 (lv_at hl 0 rfl) ?_
          refine lv_isub hx hb dX5_order_79 ?_
          refine hs_istore_n (i := 2) (lv' := [(2, .int (v2 - r12)), (5, .int (r12)), (4, va_rf (r7)), (0, va_rf (v0)), (3, .int (v3))]) hx hb dX5_order_80 rfl hl (by decide) (st_okI (st_okR (st_okR (st_okI (st_okI st_ok0))))) rfl (fun ls hl => ?_)
          refine hs_iinc (i := 3) (k := 4) (v := v3 + 1) (lv' := [(3, .int (v3 + 1)), (2, .int (v2 - r12)), (5, .int (r12)), (4, va_rf (r7)), (0, va_rf (v0))]) hx hb dX5_order_81 hl rfl (congrArg (fun z => v3 + z) (by decide)) (by decide) (st_okI (st_okI (st_okR (st_okR (st_okI st_ok0))))) rfl (fun ls hl => ?_)
          refine lv_goto (tgt := 20) hx hb dX5_order_84 (by decide) ?_
          exact ih v0 (v2 - r12) (v3 + 1) _ _ _ _ _ _ hD (lv_sub hl [4, 1, 0] rfl) hf
        · rw [if_neg hc] at hf
          refine hw_aload (r := r7) hx hb dX5_order_60 (lv_at hl 1 rfl) ?_
          obtain ⟨x15, hv, hf⟩ := ob_s hf
          refine hw_gr (C := RX2) (T := TX2) (N := 4) (ref := "SolidGroups$Group") S hKn hD hv rfl (by decide) (by decide) rfl inX2 wd3 (fun _ h9 => h9) dX5_order_62 ?_
          refine lv_iload_n hx hb dX5_order_65 rfl (lv_at hl 3 rfl) ?_
          obtain ⟨b18, hv, hf⟩ := ob_s hf
          obtain ⟨e9, hk9⟩ := oK_of hv
          cases e9
          obtain ⟨r16, s17, hv, hf⟩ := ob_p hf
          refine hw_V (b := b18) (ci := 0) (T := TJx4a65c) (N := 3) (As := [.int (v2)]) (rest := []) S hKn hRm hD (c_Jx4a65c_get_915e3 l D G base E hv) (mo_Jx4a65c_get_915e3 hv) hk9 rfl (by decide) gX5_order_Jx4a65c_get_915e3 rfl 1 (by decide +kernel) ⟨by rw [hfr]; decide, by rw [hlo]; decide⟩ rfl hl.1 (Nat.le_trans cs_0 (by decide)) rfl dX5_order_66 (fun H locs cells slots hD => ?_)
          refine W.eq (g2 := F0 m 69 ls [va_rf (r16)]) rfl ?_
          obtain ⟨u19, hv, hf⟩ := ob_s hf
          refine hw_ca (C := RX1) (T := TX1) (N := 6) S hKn hD hv rfl (by decide) wd4 dX5_order_69 ?_
          obtain ⟨x20, hv, hf⟩ := ob_s hf
          refine hw_gi (C := RX1) (T := TX1) (N := 6) (ref := "SolidGroups$Entry") S hKn hD hv rfl (by decide) (by decide) rfl inX1 wd5 (fun _ h9 => h9) dX5_order_72 ?_
          obtain ⟨e1, e2⟩ := ret_eq hf
          rw [hQ, ← e1, ← e2]
          exact hw_iret S hlk hret rfl hD dX5_order_75
  have hl : lv_has ls 6 [(0, va_rf (some a0)), (1, .int (p1))] := hl
  unfold g_X5_order at hf
  refine hw_aload_n (r := (some a0)) hx hb dX5_order_0 rfl (lv_at hl 0 rfl) ?_
  obtain ⟨x1, hv, hf⟩ := ob_s hf
  refine hw_gi (C := RX5) (T := TX5) (N := 8) (ref := "SolidGroups") S hKn hD hv rfl (by decide) (by decide) rfl inX5 wd0 (fun _ h9 => h9) dX5_order_1 ?_
  refine lv_if_ne (tgt := 10) hx hb dX5_order_4 (by decide) (fun hc => ?_) (fun hc => ?_)
  · rw [if_neg hc] at hf
    refine lv_iload_n hx hb dX5_order_10 rfl (lv_at hl 1 rfl) ?_
    refine lv_if_ge (tgt := 16) hx hb dX5_order_11 (by decide) (fun hc => ?_) (fun hc => ?_)
    · rw [if_pos hc] at hf
      refine lv_iload_n hx hb dX5_order_16 rfl (lv_at hl 1 rfl) ?_
      refine hs_istore_n (i := 2) (lv' := [(2, .int (p1)), (0, va_rf ((some a0))), (1, .int (p1))]) hx hb dX5_order_17 rfl hl (by decide) (st_okR (st_okI st_ok0)) rfl (fun ls hl => ?_)
      refine lv_iconst (v := (0)) hx hb dX5_order_18 (by decide) ?_
      refine hs_istore_n (i := 3) (lv' := [(3, .int ((0 : Int32))), (2, .int (p1)), (0, va_rf ((some a0))), (1, .int (p1))]) hx hb dX5_order_19 rfl hl (by decide) (st_okI (st_okR (st_okI st_ok0))) rfl (fun ls hl => ?_)
      exact hL20 _ (some a0) p1 (0 : Int32) _ _ _ _ _ _ hD (lv_sub hl [2, 1, 0] rfl) hf
    · rw [if_neg hc] at hf
      refine lv_iconst (v := (-1)) hx hb dX5_order_14 (by decide) ?_
      obtain ⟨e1, e2⟩ := ret_eq hf
      rw [hQ, ← e1, ← e2]
      exact hw_iret S hlk hret rfl hD dX5_order_15
  · rw [if_pos hc] at hf
    refine lv_bipush (v := (-2)) hx hb dX5_order_7 (by decide) ?_
    obtain ⟨e1, e2⟩ := ret_eq hf
    rw [hQ, ← e1, ← e2]
    exact hw_iret S hlk hret rfl hD dX5_order_9
