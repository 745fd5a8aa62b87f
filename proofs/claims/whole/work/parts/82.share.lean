set_option maxHeartbeats 4000000 in
set_option maxRecDepth 100000 in
theorem c_X5_share (l : Launch) (D : va_G) (G : GC) (base : Nat) (E : PE) {a0 : Nat} {p1 : Int32} {p2 : Int32} {σ0 τ : PS} {rv : Int32} (hF : f_X5_share E (some a0) p1 p2 σ0 = some (rv, τ)) : Ct l D G base E yX5_share wsX5_share 3 83 ([.ref a0, .int (p1), .int (p2)] : List Value) σ0 (some (.int rv)) τ := by
  obtain ⟨hf, hmo⟩ := oM_of hF
  refine Ct.of (own := RX5) [1, 1, 1] (by decide) rfl rfl hmo (ct_R (ct_I (ct_I ct_0))) (by decide) ?_
  intro p e s m below meth c R Q ls H locs cells slots S hKn hRm hfr hlo hlk hret hnm hQ hD hl
  have hx := S.1
  have hb := S.2.1
  have hts := S.2.2.2.2
  have inX5 : ∀ w ∈ u_ws RX5 TX5 8, w ∈ wsX5_share := by decide +kernel
  have wd0 := hts (.fieldLink RX5 10 "SolidGroups" "entries" "Ljava/util/ArrayList;") (by decide +kernel)
  have wd1 := hts (.classLink RX5 55 "SolidGroups$Entry") (by decide +kernel)
  have hB16 : ∀ (σ : PS) (H : Heap) (locs : List Loc) (cells slots : Nat) (ls : Array Slot), Dy D G base E s.heap σ0 σ H locs cells slots → lv_has ls 7 [] → f_X5_share_B16 E σ = some (rv, τ) → W p l e R s m ([.ref a0, .int (p1), .int (p2)] : List Value).toArray below meth c H locs cells slots Q (F0 m 16 ls []) := by
    intro σ H locs cells slots ls hD hl hf
    unfold f_X5_share_B16 at hf
    refine lv_iconst (v := (-1)) hx hb dX5_share_16 (by decide) ?_
    obtain ⟨e1, e2⟩ := ret_eq hf
    rw [hQ, ← e1, ← e2]
    exact hw_iret S hlk hret rfl hD dX5_share_17
  have hl : lv_has ls 7 [(0, va_rf (some a0)), (1, .int (p1)), (2, .int (p2))] := hl
  unfold g_X5_share at hf
  refine hw_aload_n (r := (some a0)) hx hb dX5_share_0 rfl (lv_at hl 0 rfl) ?_
  refine lv_iload_n hx hb dX5_share_1 rfl (lv_at hl 1 rfl) ?_
  obtain ⟨b3, hv, hf⟩ := ob_s hf
  obtain ⟨e9, hk9⟩ := oK_of hv
  cases e9
  obtain ⟨r1, s2, hv, hf⟩ := ob_p hf
  refine hw_V (b := a0) (ci := 6) (T := TX5) (N := 8) (As := [.int (p1)]) (rest := []) S hKn hRm hD (c_X5_isEntry l D G base E hv) (mo_X5_isEntry hv) hk9 rfl (by decide) gX5_share_X5_isEntry rfl 1 (by decide +kernel) ⟨by rw [hfr]; decide, by rw [hlo]; decide⟩ rfl hl.1 (Nat.le_trans cs_0 (by decide)) rfl dX5_share_2 (fun H locs cells slots hD => ?_)
  refine W.eq (g2 := F0 m 5 ls [.int (r1)]) rfl ?_
  refine lv_if_eq (tgt := 16) hx hb dX5_share_5 (by decide) (fun hc => ?_) (fun hc => ?_)
  · rw [if_pos hc] at hf
    exact hB16 _ _ _ _ _ _ hD (lv_sub hl [] rfl) hf
  · rw [if_neg hc] at hf
    refine hw_aload_n (r := (some a0)) hx hb dX5_share_8 rfl (lv_at hl 0 rfl) ?_
    refine lv_iload_n hx hb dX5_share_9 rfl (lv_at hl 2 rfl) ?_
    obtain ⟨b6, hv, hf⟩ := ob_s hf
    obtain ⟨e9, hk9⟩ := oK_of hv
    cases e9
    obtain ⟨r4, s5, hv, hf⟩ := ob_p hf
    refine hw_V (b := a0) (ci := 6) (T := TX5) (N := 8) (As := [.int (p2)]) (rest := []) S hKn hRm hD (c_X5_isEntry l D G base E hv) (mo_X5_isEntry hv) hk9 rfl (by decide) gX5_share_X5_isEntry rfl 1 (by decide +kernel) ⟨by rw [hfr]; decide, by rw [hlo]; decide⟩ rfl hl.1 (Nat.le_trans cs_0 (by decide)) rfl dX5_share_10 (fun H locs cells slots hD => ?_)
    refine W.eq (g2 := F0 m 13 ls [.int (r4)]) rfl ?_
    refine lv_if_ne (tgt := 18) hx hb dX5_share_13 (by decide) (fun hc => ?_) (fun hc => ?_)
    · rw [if_neg hc] at hf
      refine hw_aload_n (r := (some a0)) hx hb dX5_share_18 rfl (lv_at hl 0 rfl) ?_
      obtain ⟨x7, hv, hf⟩ := ob_s hf
      refine hw_gr (C := RX5) (T := TX5) (N := 8) (ref := "SolidGroups") S hKn hD hv rfl (by decide) (by decide) rfl inX5 wd0 (fun _ h9 => h9) dX5_share_19 ?_
      refine lv_iload_n hx hb dX5_share_22 rfl (lv_at hl 1 rfl) ?_
      obtain ⟨b10, hv, hf⟩ := ob_s hf
      obtain ⟨e9, hk9⟩ := oK_of hv
      cases e9
      obtain ⟨r8, s9, hv, hf⟩ := ob_p hf
      refine hw_V (b := b10) (ci := 0) (T := TJx4a65c) (N := 3) (As := [.int (p1)]) (rest := []) S hKn hRm hD (c_Jx4a65c_get_915e3 l D G base E hv) (mo_Jx4a65c_get_915e3 hv) hk9 rfl (by decide) gX5_share_Jx4a65c_get_915e3 rfl 1 (by decide +kernel) ⟨by rw [hfr]; decide, by rw [hlo]; decide⟩ rfl hl.1 (Nat.le_trans cs_0 (by decide)) rfl dX5_share_23 (fun H locs cells slots hD => ?_)
      refine W.eq (g2 := F0 m 26 ls [va_rf (r8)]) rfl ?_
      obtain ⟨u11, hv, hf⟩ := ob_s hf
      refine hw_ca (C := RX1) (T := TX1) (N := 6) S hKn hD hv rfl (by decide) wd1 dX5_share_26 ?_
      refine hs_astore_n (i := 3) (lv' := [(3, va_rf (r8)), (0, va_rf ((some a0))), (1, .int (p1)), (2, .int (p2))]) hx hb dX5_share_29 rfl hl (by decide) (st_okR (st_okI (st_okI st_ok0))) rfl (fun ls hl => ?_)
      refine hw_aload_n (r := (some a0)) hx hb dX5_share_30 rfl (lv_at hl 1 rfl) ?_
      obtain ⟨x12, hv, hf⟩ := ob_s hf
      refine hw_gr (C := RX5) (T := TX5) (N := 8) (ref := "SolidGroups") S hKn hD hv rfl (by decide) (by decide) rfl inX5 wd0 (fun _ h9 => h9) dX5_share_31 ?_
      refine lv_iload_n hx hb dX5_share_34 rfl (lv_at hl 3 rfl) ?_
      obtain ⟨b15, hv, hf⟩ := ob_s hf
      obtain ⟨e9, hk9⟩ := oK_of hv
      cases e9
      obtain ⟨r13, s14, hv, hf⟩ := ob_p hf
      refine hw_V (b := b15) (ci := 0) (T := TJx4a65c) (N := 3) (As := [.int (p2)]) (rest := []) S hKn hRm hD (c_Jx4a65c_get_915e3 l D G base E hv) (mo_Jx4a65c_get_915e3 hv) hk9 rfl (by decide) gX5_share_Jx4a65c_get_915e3 rfl 1 (by decide +kernel) ⟨by rw [hfr]; decide, by rw [hlo]; decide⟩ rfl hl.1 (Nat.le_trans cs_0 (by decide)) rfl dX5_share_35 (fun H locs cells slots hD => ?_)
      refine W.eq (g2 := F0 m 38 ls [va_rf (r13)]) rfl ?_
      obtain ⟨u16, hv, hf⟩ := ob_s hf
      refine hw_ca (C := RX1) (T := TX1) (N := 6) S hKn hD hv rfl (by decide) wd1 dX5_share_38 ?_
      refine hs_astore (i := 4) (lv' := [(4, va_rf (r13)), (3, va_rf (r8)), (0, va_rf ((some a0))), (1, .int (p1)), (2, .int (p2))]) hx hb dX5_share_41 hl (by decide) (st_okR (st_okR (st_okI (st_okI st_ok0)))) rfl (fun ls hl => ?_)
      refine hw_aload_n (r := r8) hx hb dX5_share_43 rfl (lv_at hl 1 rfl) ?_
      refine hw_aload (r := r13) hx hb dX5_share_44 (lv_at hl 0 rfl) ?_
      obtain ⟨r17, s18, hv, hf⟩ := ob_p hf
      refine hw_S (As := [va_rf (r8), va_rf (r13)]) (rest := []) S hKn hRm hD (c_X5_commonMarks l D G base E hv) (mo_X5_commonMarks hv) gX5_share_X5_commonMarks rfl 2 (by decide +kernel) ⟨by rw [hfr]; decide, by rw [hlo]; decide⟩ rfl hl.1 (Nat.le_trans cs_0 (by decide)) rfl dX5_share_46 (fun H locs cells slots hD => ?_)
      refine W.eq (g2 := F0 m 49 ls [.int (r17)]) rfl ?_
      refine hs_istore (i := 5) (lv' := [(5, .int (r17)), (4, va_rf (r13)), (3, va_rf (r8)), (0, va_rf ((some a0))), (1, .int (p1)), (2, .int (p2))]) hx hb dX5_share_49 hl (by decide) (st_okR (st_okR (st_okR (st_okI (st_okI st_ok0))))) rfl (fun ls hl => ?_)
      refine hw_aload_n (r := r8) hx hb dX5_share_51 rfl (lv_at hl 2 rfl) ?_
      obtain ⟨b21, hv, hf⟩ := ob_s hf
      obtain ⟨e9, hk9⟩ := oK_of hv
      cases e9
      obtain ⟨r19, s20, hv, hf⟩ := ob_p hf
      refine hw_V (b := b21) (ci := 2) (T := TX1) (N := 6) (As := []) (rest := []) S hKn hRm hD (c_X1_markCount l D G base E hv) (mo_X1_markCount hv) hk9 rfl (by decide) gX5_share_X1_markCount rfl 0 (by decide +kernel) ⟨by rw [hfr]; decide, by rw [hlo]; decide⟩ rfl hl.1 (Nat.le_trans cs_0 (by decide)) rfl dX5_share_52 (fun H locs cells slots hD => ?_)
      refine W.eq (g2 := F0 m 55 ls [.int (r19)]) rfl ?_
      refine hw_aload (r := r13) hx hb dX5_share_55 (lv_at hl 1 rfl) ?_
      obtain ⟨b24, hv, hf⟩ := ob_s hf
      obtain ⟨e9, hk9⟩ := oK_of hv
      cases e9
      obtain ⟨r22, s23, hv, hf⟩ := ob_p hf
      refine hw_V (b := b24) (ci := 2) (T := TX1) (N := 6) (As := []) (rest := [.int (r19)]) S hKn hRm hD (c_X1_markCount l D G base E hv) (mo_X1_markCount hv) hk9 rfl (by decide) gX5_share_X1_markCount rfl 0 (by decide +kernel) ⟨by rw [hfr]; decide, by rw [hlo]; decide⟩ rfl hl.1 (Nat.le_trans (cs_I cs_0) (by decide)) rfl dX5_share_57 (fun H locs cells slots hD => ?_)
      refine W.eq (g2 := F0 m 60 ls [.int (r22), .int (r19)]) rfl ?_
      refine lv_iadd hx hb dX5_share_60 ?_
      refine lv_iload hx hb dX5_share_61 (lv_at hl 0 rfl) ?_
      refine lv_isub hx hb dX5_share_63 ?_
      refine hs_istore (i := 6) (lv' := [(6, .int ((r19 + r22) - r17)), (5, .int (r17)), (4, va_rf ((some b24))), (3, va_rf ((some b21))), (0, va_rf ((some a0))), (1, .int (p1)), (2, .int (p2))]) hx hb dX5_share_64 hl (by decide) (st_okI (st_okR (st_okR (st_okR (st_okI (st_okI st_ok0)))))) rfl (fun ls hl => ?_)
      refine lv_iload hx hb dX5_share_66 (lv_at hl 0 rfl) ?_
      refine lv_if_gt (tgt := 81) hx hb dX5_share_68 (by decide) (fun hc => ?_) (fun hc => ?_)
      · rw [if_pos hc] at hf
        refine lv_bipush (v := (100)) hx hb dX5_share_81 (by decide) ?_
        refine lv_iload hx hb dX5_share_83 (lv_at hl 1 rfl) ?_
        refine lv_imul hx hb dX5_share_85 ?_
        refine lv_iload hx hb dX5_share_86 (lv_at hl 0 rfl) ?_
        obtain ⟨x25, hv, hf⟩ := ob_s hf
        refine hs_idiv hx hb hv dX5_share_88 ?_
        obtain ⟨e1, e2⟩ := ret_eq hf
        rw [hQ, ← e1, ← e2]
        exact hw_iret S hlk hret rfl hD dX5_share_89
      · rw [if_neg hc] at hf
        cases hf
    · rw [if_pos hc] at hf
      exact hB16 _ _ _ _ _ _ hD (lv_sub hl [] rfl) hf
