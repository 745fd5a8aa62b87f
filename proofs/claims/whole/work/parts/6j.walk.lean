set_option maxHeartbeats 4000000 in
set_option maxRecDepth 100000 in
theorem c_X6_placeInOrder (l : Launch) (D : va_G) (G : GC) (base : Nat) (E : PE) {a0 : Nat} {p1 : Int32} {σ0 τ : PS} {rv : Int32} (hF : f_X6_placeInOrder E (some a0) p1 σ0 = some (rv, τ)) : Ct l D G base E yX6_placeInOrder wsX6_placeInOrder 0 0 ([.ref a0, .int (p1)] : List Value) σ0 (some (.int rv)) τ := by
  obtain ⟨hf, hmo⟩ := oM_of hF
  refine Ct.of (own := RX6) [1, 1] (by decide) rfl rfl hmo (ct_R (ct_I ct_0)) (by decide) ?_
  intro p e s m below meth c R Q ls H locs cells slots S hKn hRm hfr hlo hlk hret hnm hQ hD hl
  have hx := S.1
  have hb := S.2.1
  have hts := S.2.2.2.2
  have inX6 : ∀ w ∈ u_ws RX6 TX6 23, w ∈ wsX6_placeInOrder := by decide +kernel
  have wd0 := hts (.fieldLink RX6 104 "SolidGroupsModel" "kept" "I") (by decide +kernel)
  have wd1 := hts (.fieldLink RX6 22 "SolidGroupsModel" "order" "[I") (by decide +kernel)
  have hL2 : ∀ (n : Nat), ∀ (v0 : Option Nat) (v1 : Int32) (v2 : Int32) (σ : PS) (H : Heap) (locs : List Loc) (cells slots : Nat) (ls : Array Slot), Dy D G base E s.heap σ0 σ H locs cells slots → lv_has ls 3 [(0, va_rf (v0)), (1, .int (v1)), (2, .int (v2))] → f_X6_placeInOrder_L2 E n v0 v1 v2 σ = some (rv, τ) → W p l e R s m ([.ref a0, .int (p1)] : List Value).toArray below meth c H locs cells slots Q (F0 m 2 ls []) := by
    intro n
    induction n with
    | zero =>
      intro v0 v1 v2 σ H locs cells slots ls hD hl hf
      rw [f_X6_placeInOrder_L2] at hf
      cases hf
    | succ n ih =>
      intro v0 v1 v2 σ H locs cells slots ls hD hl hf
      rw [f_X6_placeInOrder_L2] at hf
      refine lv_iload_n hx hb dX6_placeInOrder_2 rfl (lv_at hl 2 rfl) ?_
      refine hw_aload_n (r := v0) hx hb dX6_placeInOrder_3 rfl (lv_at hl 0 rfl) ?_
      obtain ⟨x1, hv, hf⟩ := ob_s hf
      refine hw_gi (C := RX6) (T := TX6) (N := 23) (ref := "SolidGroupsModel") S hKn hD hv rfl (by decide) (by decide) rfl inX6 wd0 (fun _ h9 => h9) dX6_placeInOrder_4 ?_
      refine lv_icmp_ge (tgt := 28) hx hb dX6_placeInOrder_7 (by decide) (fun hc => ?_) (fun hc => ?_)
      · rw [if_pos hc] at hf
        refine lv_bipush (v := (-2)) hx hb dX6_placeInOrder_28 (by decide) ?_
        obtain ⟨e1, e2⟩ := ret_eq hf
        rw [hQ, ← e1, ← e2]
        exact hw_iret S hlk hret rfl hD dX6_placeInOrder_30
      · rw [if_neg hc] at hf
        refine hw_aload_n (r := v0) hx hb dX6_placeInOrder_10 rfl (lv_at hl 0 rfl) ?_
        obtain ⟨x2, hv, hf⟩ := ob_s hf
        refine hw_gr (C := RX6) (T := TX6) (N := 23) (ref := "SolidGroupsModel") S hKn hD hv rfl (by decide) (by decide) rfl inX6 wd1 (fun _ h9 => h9) dX6_placeInOrder_11 ?_
        refine lv_iload_n hx hb dX6_placeInOrder_14 rfl (lv_at hl 2 rfl) ?_
        obtain ⟨x3, hv, hf⟩ := ob_s hf
        refine hw_al S hKn hD hv dX6_placeInOrder_15 ?_
        refine lv_iload_n hx hb dX6_placeInOrder_16 rfl (lv_at hl 1 rfl) ?_
        refine lv_icmp_ne (tgt := 22) hx hb dX6_placeInOrder_17 (by decide) (fun hc => ?_) (fun hc => ?_)
        · rw [if_neg hc] at hf
          refine hs_iinc (i := 2) (k := 2) (v := v2 + 1) (lv' := [(2, .int (v2 + 1)), (0, va_rf (v0)), (1, .int (v1))]) hx hb dX6_placeInOrder_22 hl rfl (congrArg (fun z => v2 + z) (by decide)) (by decide) (st_okR (st_okI (st_okI st_ok0))) rfl (fun ls hl => ?_)
          refine lv_goto (tgt := 2) hx hb dX6_placeInOrder_25 (by decide) ?_
          exact ih v0 v1 (v2 + 1) _ _ _ _ _ _ hD (lv_sub hl [1, 2, 0] rfl) hf
        · rw [if_pos hc] at hf
          refine lv_iload_n hx hb dX6_placeInOrder_20 rfl (lv_at hl 2 rfl) ?_
          obtain ⟨e1, e2⟩ := ret_eq hf
          rw [hQ, ← e1, ← e2]
          exact hw_iret S hlk hret rfl hD dX6_placeInOrder_21
  have hl : lv_has ls 3 [(0, va_rf (some a0)), (1, .int (p1))] := hl
  unfold g_X6_placeInOrder at hf
  refine lv_iconst (v := (0)) hx hb dX6_placeInOrder_0 (by decide) ?_
  refine hs_istore_n (i := 2) (lv' := [(2, .int ((0 : Int32))), (0, va_rf ((some a0))), (1, .int (p1))]) hx hb dX6_placeInOrder_1 rfl hl (by decide) (st_okR (st_okI st_ok0)) rfl (fun ls hl => ?_)
  exact hL2 _ (some a0) p1 (0 : Int32) _ _ _ _ _ _ hD (lv_sub hl [1, 2, 0] rfl) hf
set_option maxHeartbeats 4000000 in
set_option maxRecDepth 100000 in
theorem c_X6_settles (l : Launch) (D : va_G) (G : GC) (base : Nat) (E : PE) {a0 : Nat} {p1 : Int32} {σ0 τ : PS} {rv : Unit} (hF : f_X6_settles E (some a0) p1 σ0 = some (rv, τ)) : Ct l D G base E yX6_settles wsX6_settles 1 23 ([.ref a0, .int (p1)] : List Value) σ0 none τ := by
  obtain ⟨hf, hmo⟩ := oM_of hF
  refine Ct.of (own := RX6) [1, 1] (by decide) rfl rfl hmo (ct_R (ct_I ct_0)) (by decide) ?_
  intro p e s m below meth c R Q ls H locs cells slots S hKn hRm hfr hlo hlk hret hnm hQ hD hl
  have hx := S.1
  have hb := S.2.1
  have hts := S.2.2.2.2
  have inX6 : ∀ w ∈ u_ws RX6 TX6 23, w ∈ wsX6_settles := by decide +kernel
  have wd0 := hts (.fieldLink RX6 107 "SolidGroupsModel" "groups" "I") (by decide +kernel)
  have wd1 := hts (.fieldLink RX6 13 "SolidGroupsModel" "sizes" "[I") (by decide +kernel)
  have wd2 := hts (.fieldLink RX6 101 "SolidGroupsModel" "bound" "I") (by decide +kernel)
  have wd3 := hts (.fieldLink RX6 28 "SolidGroupsModel" "groupKind" "[I") (by decide +kernel)
  have wd4 := hts (.fieldLink RX6 7 "SolidGroupsModel" "kinds" "[I") (by decide +kernel)
  have wd5 := hts (.fieldLink RX6 104 "SolidGroupsModel" "kept" "I") (by decide +kernel)
  have wd6 := hts (.fieldLink RX6 25 "SolidGroupsModel" "groupAt" "[I") (by decide +kernel)
  have wd7 := hts (.fieldLink RX6 22 "SolidGroupsModel" "order" "[I") (by decide +kernel)
  have wd8 := hts (.fieldLink RX6 31 "SolidGroupsModel" "anew" "[I") (by decide +kernel)
  have wd9 := hts (.fieldLink RX6 34 "SolidGroupsModel" "tokenMany" "[I") (by decide +kernel)
  have wd10 := hts (.fieldLink RX6 38 "SolidGroupsModel" "tokens" "[I") (by decide +kernel)
  have hB319 : ∀ (v0 : Option Nat) (v1 : Int32) (v3 : Int32) (v4 : Int32) (σ : PS) (H : Heap) (locs : List Loc) (cells slots : Nat) (ls : Array Slot), Dy D G base E s.heap σ0 σ H locs cells slots → lv_has ls 6 [(0, va_rf (v0)), (1, .int (v1)), (3, .int (v3)), (4, .int (v4))] → f_X6_settles_B319 E v0 v1 v3 v4 σ = some (rv, τ) → W p l e R s m ([.ref a0, .int (p1)] : List Value).toArray below meth c H locs cells slots Q (F0 m 319 ls []) := by
    intro v0 v1 v3 v4 σ H locs cells slots ls hD hl hf
    unfold f_X6_settles_B319 at hf
    refine hw_aload_n (r := v0) hx hb dX6_settles_319 rfl (lv_at hl 0 rfl) ?_
    obtain ⟨x24, hv, hf⟩ := ob_s hf
    refine hw_gr (C := RX6) (T := TX6) (N := 23) (ref := "SolidGroupsModel") S hKn hD hv rfl (by decide) (by decide) rfl inX6 wd7 (fun _ h9 => h9) dX6_settles_320 ?_
    refine lv_iload hx hb dX6_settles_323 (lv_at hl 3 rfl) ?_
    refine lv_iload_n hx hb dX6_settles_325 rfl (lv_at hl 1 rfl) ?_
    obtain ⟨s25, hv, hf⟩ := ob_s hf
    refine hw_as S hKn hD hv dX6_settles_326 (fun H locs hD => ?_)
    refine hw_aload_n (r := v0) hx hb dX6_settles_327 rfl (lv_at hl 0 rfl) ?_
    obtain ⟨x26, hv, hf⟩ := ob_s hf
    refine hw_gr (C := RX6) (T := TX6) (N := 23) (ref := "SolidGroupsModel") S hKn hD hv rfl (by decide) (by decide) rfl inX6 wd6 (fun _ h9 => h9) dX6_settles_328 ?_
    refine lv_iload hx hb dX6_settles_331 (lv_at hl 3 rfl) ?_
    refine lv_iload_n hx hb dX6_settles_333 rfl (lv_at hl 2 rfl) ?_
    obtain ⟨s27, hv, hf⟩ := ob_s hf
    refine hw_as S hKn hD hv dX6_settles_334 (fun H locs hD => ?_)
    refine hw_aload_n (r := v0) hx hb dX6_settles_335 rfl (lv_at hl 0 rfl) ?_
    refine lv_dup hx hb dX6_settles_336 (va_rf_cat _) ?_
    obtain ⟨x28, hv, hf⟩ := ob_s hf
    refine hw_gi (C := RX6) (T := TX6) (N := 23) (ref := "SolidGroupsModel") S hKn hD hv rfl (by decide) (by decide) rfl inX6 wd5 (fun _ h9 => h9) dX6_settles_337 ?_
    refine lv_iconst (v := (1)) hx hb dX6_settles_340 (by decide) ?_
    refine lv_iadd hx hb dX6_settles_341 ?_
    obtain ⟨s29, hv, hf⟩ := ob_s hf
    refine hw_pi (C := RX6) (T := TX6) (N := 23) (ref := "SolidGroupsModel") S hKn hD hv rfl (by decide) (by decide) rfl inX6 tyX6 tyX6_ok nmX6 wd5 (fun _ h9 => h9) rfl (by first | rfl | decide) (by first | rfl | decide) dX6_settles_342 (fun H locs hD => ?_)
    obtain ⟨-, e2⟩ := ret_eq hf
    rw [hQ, ← e2]
    exact hw_vret S hlk hret hD dX6_settles_345
  have hL263 : ∀ (n : Nat), ∀ (v0 : Option Nat) (v1 : Int32) (v3 : Int32) (v4 : Int32) (σ : PS) (H : Heap) (locs : List Loc) (cells slots : Nat) (ls : Array Slot), Dy D G base E s.heap σ0 σ H locs cells slots → lv_has ls 6 [(0, va_rf (v0)), (1, .int (v1)), (3, .int (v3)), (4, .int (v4))] → f_X6_settles_L263 E n v0 v1 v3 v4 σ = some (rv, τ) → W p l e R s m ([.ref a0, .int (p1)] : List Value).toArray below meth c H locs cells slots Q (F0 m 263 ls []) := by
    intro n
    induction n with
    | zero =>
      intro v0 v1 v3 v4 σ H locs cells slots ls hD hl hf
      rw [f_X6_settles_L263] at hf
      cases hf
    | succ n ih =>
      intro v0 v1 v3 v4 σ H locs cells slots ls hD hl hf
      rw [f_X6_settles_L263] at hf
      refine lv_iload hx hb dX6_settles_263 (lv_at hl 3 rfl) ?_
      refine lv_if_le (tgt := 319) hx hb dX6_settles_265 (by decide) (fun hc => ?_) (fun hc => ?_)
      · rw [if_pos hc] at hf
        exact hB319 v0 v1 v3 v4 _ _ _ _ _ _ hD (lv_sub hl [0, 1, 2, 3] rfl) hf
      · rw [if_neg hc] at hf
        refine hw_aload_n (r := v0) hx hb dX6_settles_268 rfl (lv_at hl 0 rfl) ?_
        obtain ⟨x14, hv, hf⟩ := ob_s hf
        refine hw_gr (C := RX6) (T := TX6) (N := 23) (ref := "SolidGroupsModel") S hKn hD hv rfl (by decide) (by decide) rfl inX6 wd6 (fun _ h9 => h9) dX6_settles_269 ?_
        refine lv_iload hx hb dX6_settles_272 (lv_at hl 3 rfl) ?_
        refine lv_iconst (v := (1)) hx hb dX6_settles_274 (by decide) ?_
        refine lv_isub hx hb dX6_settles_275 ?_
        obtain ⟨x15, hv, hf⟩ := ob_s hf
        refine hw_al S hKn hD hv dX6_settles_276 ?_
        refine lv_iload_n hx hb dX6_settles_277 rfl (lv_at hl 2 rfl) ?_
        refine lv_icmp_le (tgt := 319) hx hb dX6_settles_278 (by decide) (fun hc => ?_) (fun hc => ?_)
        · rw [if_pos hc] at hf
          exact hB319 v0 v1 v3 v4 _ _ _ _ _ _ hD (lv_sub hl [0, 1, 2, 3] rfl) hf
        · rw [if_neg hc] at hf
          refine hw_aload_n (r := v0) hx hb dX6_settles_281 rfl (lv_at hl 0 rfl) ?_
          obtain ⟨x16, hv, hf⟩ := ob_s hf
          refine hw_gr (C := RX6) (T := TX6) (N := 23) (ref := "SolidGroupsModel") S hKn hD hv rfl (by decide) (by decide) rfl inX6 wd7 (fun _ h9 => h9) dX6_settles_282 ?_
          refine lv_iload hx hb dX6_settles_285 (lv_at hl 3 rfl) ?_
          refine hw_aload_n (r := v0) hx hb dX6_settles_287 rfl (lv_at hl 0 rfl) ?_
          obtain ⟨x17, hv, hf⟩ := ob_s hf
          refine hw_gr (C := RX6) (T := TX6) (N := 23) (ref := "SolidGroupsModel") S hKn hD hv rfl (by decide) (by decide) rfl inX6 wd7 (fun _ h9 => h9) dX6_settles_288 ?_
          refine lv_iload hx hb dX6_settles_291 (lv_at hl 3 rfl) ?_
          refine lv_iconst (v := (1)) hx hb dX6_settles_293 (by decide) ?_
          refine lv_isub hx hb dX6_settles_294 ?_
          obtain ⟨x18, hv, hf⟩ := ob_s hf
          refine hw_al S hKn hD hv dX6_settles_295 ?_
          obtain ⟨s19, hv, hf⟩ := ob_s hf
          refine hw_as S hKn hD hv dX6_settles_296 (fun H locs hD => ?_)
          refine hw_aload_n (r := v0) hx hb dX6_settles_297 rfl (lv_at hl 0 rfl) ?_
          obtain ⟨x20, hv, hf⟩ := ob_s hf
          refine hw_gr (C := RX6) (T := TX6) (N := 23) (ref := "SolidGroupsModel") S hKn hD hv rfl (by decide) (by decide) rfl inX6 wd6 (fun _ h9 => h9) dX6_settles_298 ?_
          refine lv_iload hx hb dX6_settles_301 (lv_at hl 3 rfl) ?_
          refine hw_aload_n (r := v0) hx hb dX6_settles_303 rfl (lv_at hl 0 rfl) ?_
          obtain ⟨x21, hv, hf⟩ := ob_s hf
          refine hw_gr (C := RX6) (T := TX6) (N := 23) (ref := "SolidGroupsModel") S hKn hD hv rfl (by decide) (by decide) rfl inX6 wd6 (fun _ h9 => h9) dX6_settles_304 ?_
          refine lv_iload hx hb dX6_settles_307 (lv_at hl 3 rfl) ?_
          refine lv_iconst (v := (1)) hx hb dX6_settles_309 (by decide) ?_
          refine lv_isub hx hb dX6_settles_310 ?_
          obtain ⟨x22, hv, hf⟩ := ob_s hf
          refine hw_al S hKn hD hv dX6_settles_311 ?_
          obtain ⟨s23, hv, hf⟩ := ob_s hf
          refine hw_as S hKn hD hv dX6_settles_312 (fun H locs hD => ?_)
          refine hs_iinc (i := 4) (k := 3) (v := v4 + (-1)) (lv' := [(4, .int (v4 + (-1))), (0, va_rf (v0)), (1, .int (v1)), (3, .int (v3))]) hx hb dX6_settles_313 hl rfl (congrArg (fun z => v4 + z) (by decide)) (by decide) (st_okR (st_okI (st_okI (st_okI st_ok0)))) rfl (fun ls hl => ?_)
          refine lv_goto (tgt := 263) hx hb dX6_settles_316 (by decide) ?_
          exact ih v0 v1 v3 (v4 + (-1)) _ _ _ _ _ _ hD (lv_sub hl [1, 2, 3, 0] rfl) hf
  have hB257 : ∀ (v0 : Option Nat) (v1 : Int32) (v3 : Int32) (σ : PS) (H : Heap) (locs : List Loc) (cells slots : Nat) (ls : Array Slot), Dy D G base E s.heap σ0 σ H locs cells slots → lv_has ls 6 [(0, va_rf (v0)), (1, .int (v1)), (3, .int (v3))] → f_X6_settles_B257 E v0 v1 v3 σ = some (rv, τ) → W p l e R s m ([.ref a0, .int (p1)] : List Value).toArray below meth c H locs cells slots Q (F0 m 257 ls []) := by
    intro v0 v1 v3 σ H locs cells slots ls hD hl hf
    unfold f_X6_settles_B257 at hf
    refine hw_aload_n (r := v0) hx hb dX6_settles_257 rfl (lv_at hl 0 rfl) ?_
    obtain ⟨x13, hv, hf⟩ := ob_s hf
    refine hw_gi (C := RX6) (T := TX6) (N := 23) (ref := "SolidGroupsModel") S hKn hD hv rfl (by decide) (by decide) rfl inX6 wd5 (fun _ h9 => h9) dX6_settles_258 ?_
    refine hs_istore (i := 4) (lv' := [(4, .int (x13)), (0, va_rf (v0)), (1, .int (v1)), (3, .int (v3))]) hx hb dX6_settles_261 hl (by decide) (st_okR (st_okI (st_okI st_ok0))) rfl (fun ls hl => ?_)
    exact hL263 _ v0 v1 v3 x13 _ _ _ _ _ _ hD (lv_sub hl [1, 2, 3, 0] rfl) hf
  have hB249 : ∀ (k216 : Option Nat → Int32 → Int32 → Int32 → PS → Option (Unit × PS)) (hk216 : ∀ (z0 : Option Nat) (z1 : Int32) (z3 : Int32) (z4 : Int32) (σ : PS) (H : Heap) (locs : List Loc) (cells slots : Nat) (ls : Array Slot), Dy D G base E s.heap σ0 σ H locs cells slots → lv_has ls 6 [(0, va_rf (z0)), (1, .int (z1)), (3, .int (z3)), (4, .int (z4))] → k216 z0 z1 z3 z4 σ = some (rv, τ) → W p l e R s m ([.ref a0, .int (p1)] : List Value).toArray below meth c H locs cells slots Q (F0 m 216 ls [])), ∀ (v0 : Option Nat) (v1 : Int32) (v3 : Int32) (v4 : Int32) (w0 : Option Nat) (w1 : Int32) (w2 : Int32) (w3 : Int32) (σ : PS) (H : Heap) (locs : List Loc) (cells slots : Nat) (ls : Array Slot), Dy D G base E s.heap σ0 σ H locs cells slots → lv_has ls 6 [(0, va_rf (v0)), (1, .int (v1)), (3, .int (v3)), (4, .int (v4))] → f_X6_settles_B249 E k216 v0 v1 v3 v4 w0 w1 w2 w3 σ = some (rv, τ) → W p l e R s m ([.ref a0, .int (p1)] : List Value).toArray below meth c H locs cells slots Q (F0 m 249 ls [.int (w3), .int (w2), .int (w1), va_rf (w0)]) := by
    intro k216 hk216 v0 v1 v3 v4 w0 w1 w2 w3 σ H locs cells slots ls hD hl hf
    unfold f_X6_settles_B249 at hf
    refine lv_iadd hx hb dX6_settles_249 ?_
    obtain ⟨s55, hv, hf⟩ := ob_s hf
    refine hw_as S hKn hD hv dX6_settles_250 (fun H locs hD => ?_)
    refine hs_iinc (i := 4) (k := 3) (v := v4 + 1) (lv' := [(4, .int (v4 + 1)), (0, va_rf (v0)), (1, .int (v1)), (3, .int (v3))]) hx hb dX6_settles_251 hl rfl (congrArg (fun z => v4 + z) (by decide)) (by decide) (st_okR (st_okI (st_okI (st_okI st_ok0)))) rfl (fun ls hl => ?_)
    refine lv_goto (tgt := 216) hx hb dX6_settles_254 (by decide) ?_
    exact hk216 v0 v1 v3 (v4 + 1) _ _ _ _ _ _ hD (lv_sub hl [1, 2, 3, 0] rfl) hf
  have hL216 : ∀ (n : Nat), ∀ (v0 : Option Nat) (v1 : Int32) (v3 : Int32) (v4 : Int32) (σ : PS) (H : Heap) (locs : List Loc) (cells slots : Nat) (ls : Array Slot), Dy D G base E s.heap σ0 σ H locs cells slots → lv_has ls 6 [(0, va_rf (v0)), (1, .int (v1)), (3, .int (v3)), (4, .int (v4))] → f_X6_settles_L216 E n v0 v1 v3 v4 σ = some (rv, τ) → W p l e R s m ([.ref a0, .int (p1)] : List Value).toArray below meth c H locs cells slots Q (F0 m 216 ls []) := by
    intro n
    induction n with
    | zero =>
      intro v0 v1 v3 v4 σ H locs cells slots ls hD hl hf
      rw [f_X6_settles_L216] at hf
      cases hf
    | succ n ih =>
      intro v0 v1 v3 v4 σ H locs cells slots ls hD hl hf
      rw [f_X6_settles_L216] at hf
      refine lv_iload hx hb dX6_settles_216 (lv_at hl 3 rfl) ?_
      refine hw_aload_n (r := v0) hx hb dX6_settles_218 rfl (lv_at hl 0 rfl) ?_
      obtain ⟨x50, hv, hf⟩ := ob_s hf
      refine hw_gi (C := RX6) (T := TX6) (N := 23) (ref := "SolidGroupsModel") S hKn hD hv rfl (by decide) (by decide) rfl inX6 wd5 (fun _ h9 => h9) dX6_settles_219 ?_
      refine lv_icmp_ge (tgt := 257) hx hb dX6_settles_222 (by decide) (fun hc => ?_) (fun hc => ?_)
      · rw [if_pos hc] at hf
        exact hB257 v0 v1 v3 _ _ _ _ _ _ hD (lv_sub hl [0, 1, 2] rfl) hf
      · rw [if_neg hc] at hf
        refine hw_aload_n (r := v0) hx hb dX6_settles_225 rfl (lv_at hl 0 rfl) ?_
        obtain ⟨x51, hv, hf⟩ := ob_s hf
        refine hw_gr (C := RX6) (T := TX6) (N := 23) (ref := "SolidGroupsModel") S hKn hD hv rfl (by decide) (by decide) rfl inX6 wd6 (fun _ h9 => h9) dX6_settles_226 ?_
        refine lv_iload hx hb dX6_settles_229 (lv_at hl 3 rfl) ?_
        refine lv_dup2_11 hx hb dX6_settles_231 rfl (va_rf_cat _) ?_
        obtain ⟨x52, hv, hf⟩ := ob_s hf
        refine hw_al S hKn hD hv dX6_settles_232 ?_
        refine hw_aload_n (r := v0) hx hb dX6_settles_233 rfl (lv_at hl 0 rfl) ?_
        obtain ⟨x53, hv, hf⟩ := ob_s hf
        refine hw_gr (C := RX6) (T := TX6) (N := 23) (ref := "SolidGroupsModel") S hKn hD hv rfl (by decide) (by decide) rfl inX6 wd6 (fun _ h9 => h9) dX6_settles_234 ?_
        refine lv_iload hx hb dX6_settles_237 (lv_at hl 3 rfl) ?_
        obtain ⟨x54, hv, hf⟩ := ob_s hf
        refine hw_al S hKn hD hv dX6_settles_239 ?_
        refine lv_iload_n hx hb dX6_settles_240 rfl (lv_at hl 2 rfl) ?_
        refine lv_icmp_lt (tgt := 248) hx hb dX6_settles_241 (by decide) (fun hc => ?_) (fun hc => ?_)
        · rw [if_pos hc] at hf
          refine lv_iconst (v := (0)) hx hb dX6_settles_248 (by decide) ?_
          exact hB249 _ ih v0 v1 v3 v4 x51 v4 x52 (0 : Int32) _ _ _ _ _ _ hD (lv_sub hl [0, 1, 2, 3] rfl) hf
        · rw [if_neg hc] at hf
          refine lv_iconst (v := (1)) hx hb dX6_settles_244 (by decide) ?_
          refine lv_goto (tgt := 249) hx hb dX6_settles_245 (by decide) ?_
          exact hB249 _ ih v0 v1 v3 v4 x51 v4 x52 (1 : Int32) _ _ _ _ _ _ hD (lv_sub hl [0, 1, 2, 3] rfl) hf
  have hL128 : ∀ (k71 : Option Nat → Int32 → Int32 → Int32 → PS → Option (Unit × PS)) (hk71 : ∀ (z0 : Option Nat) (z1 : Int32) (z3 : Int32) (z4 : Int32) (σ : PS) (H : Heap) (locs : List Loc) (cells slots : Nat) (ls : Array Slot), Dy D G base E s.heap σ0 σ H locs cells slots → lv_has ls 6 [(0, va_rf (z0)), (1, .int (z1)), (3, .int (z3)), (4, .int (z4))] → k71 z0 z1 z3 z4 σ = some (rv, τ) → W p l e R s m ([.ref a0, .int (p1)] : List Value).toArray below meth c H locs cells slots Q (F0 m 71 ls [])) (n : Nat), ∀ (v0 : Option Nat) (v1 : Int32) (v3 : Int32) (v4 : Int32) (v5 : Int32) (σ : PS) (H : Heap) (locs : List Loc) (cells slots : Nat) (ls : Array Slot), Dy D G base E s.heap σ0 σ H locs cells slots → lv_has ls 6 [(0, va_rf (v0)), (1, .int (v1)), (3, .int (v3)), (4, .int (v4)), (5, .int (v5))] → f_X6_settles_L128 E k71 n v0 v1 v3 v4 v5 σ = some (rv, τ) → W p l e R s m ([.ref a0, .int (p1)] : List Value).toArray below meth c H locs cells slots Q (F0 m 128 ls []) := by
    intro k71 hk71 n
    induction n with
    | zero =>
      intro v0 v1 v3 v4 v5 σ H locs cells slots ls hD hl hf
      rw [f_X6_settles_L128] at hf
      cases hf
    | succ n ih =>
      intro v0 v1 v3 v4 v5 σ H locs cells slots ls hD hl hf
      rw [f_X6_settles_L128] at hf
      refine lv_iload hx hb dX6_settles_128 (lv_at hl 4 rfl) ?_
      refine lv_iconst (v := (3)) hx hb dX6_settles_130 (by decide) ?_
      refine hw_aload_n (r := v0) hx hb dX6_settles_131 rfl (lv_at hl 0 rfl) ?_
      obtain ⟨x56, hv, hf⟩ := ob_s hf
      refine hw_gr (C := RX6) (T := TX6) (N := 23) (ref := "SolidGroupsModel") S hKn hD hv rfl (by decide) (by decide) rfl inX6 wd9 (fun _ h9 => h9) dX6_settles_132 ?_
      refine lv_iload hx hb dX6_settles_135 (lv_at hl 3 rfl) ?_
      obtain ⟨x57, hv, hf⟩ := ob_s hf
      refine hw_al S hKn hD hv dX6_settles_137 ?_
      refine lv_imul hx hb dX6_settles_138 ?_
      refine lv_icmp_ge (tgt := 178) hx hb dX6_settles_139 (by decide) (fun hc => ?_) (fun hc => ?_)
      · rw [if_pos hc] at hf
        refine hs_iinc (i := 4) (k := 3) (v := v4 + (-1)) (lv' := [(4, .int (v4 + (-1))), (0, va_rf (v0)), (1, .int (v1)), (3, .int (v3)), (5, .int (v5))]) hx hb dX6_settles_178 hl rfl (congrArg (fun z => v4 + z) (by decide)) (by decide) (st_okR (st_okI (st_okI (st_okI (st_okI st_ok0))))) rfl (fun ls hl => ?_)
        refine lv_goto (tgt := 71) hx hb dX6_settles_181 (by decide) ?_
        exact hk71 v0 v1 v3 (v4 + (-1)) _ _ _ _ _ _ hD (lv_sub hl [1, 2, 3, 0] rfl) hf
      · rw [if_neg hc] at hf
        refine hw_aload_n (r := v0) hx hb dX6_settles_142 rfl (lv_at hl 0 rfl) ?_
        obtain ⟨x58, hv, hf⟩ := ob_s hf
        refine hw_gr (C := RX6) (T := TX6) (N := 23) (ref := "SolidGroupsModel") S hKn hD hv rfl (by decide) (by decide) rfl inX6 wd10 (fun _ h9 => h9) dX6_settles_143 ?_
        refine lv_sipush (v := (5400)) hx hb dX6_settles_146 (by decide) ?_
        refine lv_iload hx hb dX6_settles_149 (lv_at hl 3 rfl) ?_
        refine lv_imul hx hb dX6_settles_151 ?_
        refine lv_iload hx hb dX6_settles_152 (lv_at hl 4 rfl) ?_
        refine lv_iadd hx hb dX6_settles_154 ?_
        refine hw_aload_n (r := v0) hx hb dX6_settles_155 rfl (lv_at hl 0 rfl) ?_
        obtain ⟨x59, hv, hf⟩ := ob_s hf
        refine hw_gr (C := RX6) (T := TX6) (N := 23) (ref := "SolidGroupsModel") S hKn hD hv rfl (by decide) (by decide) rfl inX6 wd10 (fun _ h9 => h9) dX6_settles_156 ?_
        refine lv_sipush (v := (5400)) hx hb dX6_settles_159 (by decide) ?_
        refine lv_iload hx hb dX6_settles_162 (lv_at hl 3 rfl) ?_
        refine lv_iconst (v := (1)) hx hb dX6_settles_164 (by decide) ?_
        refine lv_isub hx hb dX6_settles_165 ?_
        refine lv_imul hx hb dX6_settles_166 ?_
        refine lv_iload hx hb dX6_settles_167 (lv_at hl 4 rfl) ?_
        refine lv_iadd hx hb dX6_settles_169 ?_
        obtain ⟨x60, hv, hf⟩ := ob_s hf
        refine hw_al S hKn hD hv dX6_settles_170 ?_
        obtain ⟨s61, hv, hf⟩ := ob_s hf
        refine hw_as S hKn hD hv dX6_settles_171 (fun H locs hD => ?_)
        refine hs_iinc (i := 5) (k := 4) (v := v5 + 1) (lv' := [(5, .int (v5 + 1)), (0, va_rf (v0)), (1, .int (v1)), (3, .int (v3)), (4, .int (v4))]) hx hb dX6_settles_172 hl rfl (congrArg (fun z => v5 + z) (by decide)) (by decide) (st_okR (st_okI (st_okI (st_okI (st_okI st_ok0))))) rfl (fun ls hl => ?_)
        refine lv_goto (tgt := 128) hx hb dX6_settles_175 (by decide) ?_
        exact ih v0 v1 v3 v4 (v5 + 1) _ _ _ _ _ _ hD (lv_sub hl [1, 2, 3, 4, 0] rfl) hf
  have hL71 : ∀ (n : Nat), ∀ (v0 : Option Nat) (v1 : Int32) (v3 : Int32) (v4 : Int32) (σ : PS) (H : Heap) (locs : List Loc) (cells slots : Nat) (ls : Array Slot), Dy D G base E s.heap σ0 σ H locs cells slots → lv_has ls 6 [(0, va_rf (v0)), (1, .int (v1)), (3, .int (v3)), (4, .int (v4))] → f_X6_settles_L71 E n v0 v1 v3 v4 σ = some (rv, τ) → W p l e R s m ([.ref a0, .int (p1)] : List Value).toArray below meth c H locs cells slots Q (F0 m 71 ls []) := by
    intro n
    induction n with
    | zero =>
      intro v0 v1 v3 v4 σ H locs cells slots ls hD hl hf
      rw [f_X6_settles_L71] at hf
      cases hf
    | succ n ih =>
      intro v0 v1 v3 v4 σ H locs cells slots ls hD hl hf
      rw [f_X6_settles_L71] at hf
      refine lv_iload hx hb dX6_settles_71 (lv_at hl 3 rfl) ?_
      refine lv_iload_n hx hb dX6_settles_73 rfl (lv_at hl 2 rfl) ?_
      refine lv_icmp_le (tgt := 184) hx hb dX6_settles_74 (by decide) (fun hc => ?_) (fun hc => ?_)
      · rw [if_pos hc] at hf
        refine hw_aload_n (r := v0) hx hb dX6_settles_184 rfl (lv_at hl 0 rfl) ?_
        refine lv_dup hx hb dX6_settles_185 (va_rf_cat _) ?_
        obtain ⟨x30, hv, hf⟩ := ob_s hf
        refine hw_gi (C := RX6) (T := TX6) (N := 23) (ref := "SolidGroupsModel") S hKn hD hv rfl (by decide) (by decide) rfl inX6 wd0 (fun _ h9 => h9) dX6_settles_186 ?_
        refine lv_iconst (v := (1)) hx hb dX6_settles_189 (by decide) ?_
        refine lv_iadd hx hb dX6_settles_190 ?_
        obtain ⟨s31, hv, hf⟩ := ob_s hf
        refine hw_pi (C := RX6) (T := TX6) (N := 23) (ref := "SolidGroupsModel") S hKn hD hv rfl (by decide) (by decide) rfl inX6 tyX6 tyX6_ok nmX6 wd0 (fun _ h9 => h9) rfl (by first | rfl | decide) (by first | rfl | decide) dX6_settles_191 (fun H locs hD => ?_)
        refine hw_aload_n (r := v0) hx hb dX6_settles_194 rfl (lv_at hl 0 rfl) ?_
        obtain ⟨x32, hv, hf⟩ := ob_s hf
        refine hw_gr (C := RX6) (T := TX6) (N := 23) (ref := "SolidGroupsModel") S hKn hD hv rfl (by decide) (by decide) rfl inX6 wd3 (fun _ h9 => h9) dX6_settles_195 ?_
        refine lv_iload_n hx hb dX6_settles_198 rfl (lv_at hl 2 rfl) ?_
        refine hw_aload_n (r := v0) hx hb dX6_settles_199 rfl (lv_at hl 0 rfl) ?_
        obtain ⟨x33, hv, hf⟩ := ob_s hf
        refine hw_gr (C := RX6) (T := TX6) (N := 23) (ref := "SolidGroupsModel") S hKn hD hv rfl (by decide) (by decide) rfl inX6 wd4 (fun _ h9 => h9) dX6_settles_200 ?_
        refine lv_iload_n hx hb dX6_settles_203 rfl (lv_at hl 1 rfl) ?_
        obtain ⟨x34, hv, hf⟩ := ob_s hf
        refine hw_al S hKn hD hv dX6_settles_204 ?_
        obtain ⟨s35, hv, hf⟩ := ob_s hf
        refine hw_as S hKn hD hv dX6_settles_205 (fun H locs hD => ?_)
        refine hw_aload_n (r := v0) hx hb dX6_settles_206 rfl (lv_at hl 0 rfl) ?_
        obtain ⟨x36, hv, hf⟩ := ob_s hf
        refine hw_gr (C := RX6) (T := TX6) (N := 23) (ref := "SolidGroupsModel") S hKn hD hv rfl (by decide) (by decide) rfl inX6 wd8 (fun _ h9 => h9) dX6_settles_207 ?_
        refine lv_iload_n hx hb dX6_settles_210 rfl (lv_at hl 2 rfl) ?_
        refine lv_iconst (v := (0)) hx hb dX6_settles_211 (by decide) ?_
        obtain ⟨s37, hv, hf⟩ := ob_s hf
        refine hw_as S hKn hD hv dX6_settles_212 (fun H locs hD => ?_)
        refine lv_iconst (v := (0)) hx hb dX6_settles_213 (by decide) ?_
        refine hs_istore (i := 4) (lv' := [(4, .int ((0 : Int32))), (0, va_rf (v0)), (1, .int (v1)), (3, .int (v3))]) hx hb dX6_settles_214 hl (by decide) (st_okR (st_okI (st_okI (st_okI st_ok0)))) rfl (fun ls hl => ?_)
        exact hL216 _ v0 v1 v3 (0 : Int32) _ _ _ _ _ _ hD (lv_sub hl [1, 2, 3, 0] rfl) hf
      · rw [if_neg hc] at hf
        refine hw_aload_n (r := v0) hx hb dX6_settles_77 rfl (lv_at hl 0 rfl) ?_
        obtain ⟨x38, hv, hf⟩ := ob_s hf
        refine hw_gr (C := RX6) (T := TX6) (N := 23) (ref := "SolidGroupsModel") S hKn hD hv rfl (by decide) (by decide) rfl inX6 wd3 (fun _ h9 => h9) dX6_settles_78 ?_
        refine lv_iload hx hb dX6_settles_81 (lv_at hl 3 rfl) ?_
        refine hw_aload_n (r := v0) hx hb dX6_settles_83 rfl (lv_at hl 0 rfl) ?_
        obtain ⟨x39, hv, hf⟩ := ob_s hf
        refine hw_gr (C := RX6) (T := TX6) (N := 23) (ref := "SolidGroupsModel") S hKn hD hv rfl (by decide) (by decide) rfl inX6 wd3 (fun _ h9 => h9) dX6_settles_84 ?_
        refine lv_iload hx hb dX6_settles_87 (lv_at hl 3 rfl) ?_
        refine lv_iconst (v := (1)) hx hb dX6_settles_89 (by decide) ?_
        refine lv_isub hx hb dX6_settles_90 ?_
        obtain ⟨x40, hv, hf⟩ := ob_s hf
        refine hw_al S hKn hD hv dX6_settles_91 ?_
        obtain ⟨s41, hv, hf⟩ := ob_s hf
        refine hw_as S hKn hD hv dX6_settles_92 (fun H locs hD => ?_)
        refine hw_aload_n (r := v0) hx hb dX6_settles_93 rfl (lv_at hl 0 rfl) ?_
        obtain ⟨x42, hv, hf⟩ := ob_s hf
        refine hw_gr (C := RX6) (T := TX6) (N := 23) (ref := "SolidGroupsModel") S hKn hD hv rfl (by decide) (by decide) rfl inX6 wd8 (fun _ h9 => h9) dX6_settles_94 ?_
        refine lv_iload hx hb dX6_settles_97 (lv_at hl 3 rfl) ?_
        refine hw_aload_n (r := v0) hx hb dX6_settles_99 rfl (lv_at hl 0 rfl) ?_
        obtain ⟨x43, hv, hf⟩ := ob_s hf
        refine hw_gr (C := RX6) (T := TX6) (N := 23) (ref := "SolidGroupsModel") S hKn hD hv rfl (by decide) (by decide) rfl inX6 wd8 (fun _ h9 => h9) dX6_settles_100 ?_
        refine lv_iload hx hb dX6_settles_103 (lv_at hl 3 rfl) ?_
        refine lv_iconst (v := (1)) hx hb dX6_settles_105 (by decide) ?_
        refine lv_isub hx hb dX6_settles_106 ?_
        obtain ⟨x44, hv, hf⟩ := ob_s hf
        refine hw_al S hKn hD hv dX6_settles_107 ?_
        obtain ⟨s45, hv, hf⟩ := ob_s hf
        refine hw_as S hKn hD hv dX6_settles_108 (fun H locs hD => ?_)
        refine hw_aload_n (r := v0) hx hb dX6_settles_109 rfl (lv_at hl 0 rfl) ?_
        obtain ⟨x46, hv, hf⟩ := ob_s hf
        refine hw_gr (C := RX6) (T := TX6) (N := 23) (ref := "SolidGroupsModel") S hKn hD hv rfl (by decide) (by decide) rfl inX6 wd9 (fun _ h9 => h9) dX6_settles_110 ?_
        refine lv_iload hx hb dX6_settles_113 (lv_at hl 3 rfl) ?_
        refine hw_aload_n (r := v0) hx hb dX6_settles_115 rfl (lv_at hl 0 rfl) ?_
        obtain ⟨x47, hv, hf⟩ := ob_s hf
        refine hw_gr (C := RX6) (T := TX6) (N := 23) (ref := "SolidGroupsModel") S hKn hD hv rfl (by decide) (by decide) rfl inX6 wd9 (fun _ h9 => h9) dX6_settles_116 ?_
        refine lv_iload hx hb dX6_settles_119 (lv_at hl 3 rfl) ?_
        refine lv_iconst (v := (1)) hx hb dX6_settles_121 (by decide) ?_
        refine lv_isub hx hb dX6_settles_122 ?_
        obtain ⟨x48, hv, hf⟩ := ob_s hf
        refine hw_al S hKn hD hv dX6_settles_123 ?_
        obtain ⟨s49, hv, hf⟩ := ob_s hf
        refine hw_as S hKn hD hv dX6_settles_124 (fun H locs hD => ?_)
        refine lv_iconst (v := (0)) hx hb dX6_settles_125 (by decide) ?_
        refine hs_istore (i := 5) (lv' := [(5, .int ((0 : Int32))), (0, va_rf (v0)), (1, .int (v1)), (3, .int (v3)), (4, .int (v4))]) hx hb dX6_settles_126 hl (by decide) (st_okR (st_okI (st_okI (st_okI st_ok0)))) rfl (fun ls hl => ?_)
        exact hL128 _ ih _ v0 v1 v3 v4 (0 : Int32) _ _ _ _ _ _ hD (lv_sub hl [1, 2, 3, 4, 0] rfl) hf
  have hB33 : ∀ (k5 : Option Nat → Int32 → Int32 → Int32 → PS → Option (Unit × PS)) (hk5 : ∀ (z0 : Option Nat) (z1 : Int32) (z2 : Int32) (z3 : Int32) (σ : PS) (H : Heap) (locs : List Loc) (cells slots : Nat) (ls : Array Slot), Dy D G base E s.heap σ0 σ H locs cells slots → lv_has ls 6 [(0, va_rf (z0)), (1, .int (z1)), (2, .int (z2)), (3, .int (z3))] → k5 z0 z1 z2 z3 σ = some (rv, τ) → W p l e R s m ([.ref a0, .int (p1)] : List Value).toArray below meth c H locs cells slots Q (F0 m 5 ls [])), ∀ (v0 : Option Nat) (v1 : Int32) (v3 : Int32) (w0 : Int32) (σ : PS) (H : Heap) (locs : List Loc) (cells slots : Nat) (ls : Array Slot), Dy D G base E s.heap σ0 σ H locs cells slots → lv_has ls 6 [(0, va_rf (v0)), (1, .int (v1)), (3, .int (v3))] → f_X6_settles_B33 E k5 v0 v1 v3 w0 σ = some (rv, τ) → W p l e R s m ([.ref a0, .int (p1)] : List Value).toArray below meth c H locs cells slots Q (F0 m 33 ls [.int (w0)]) := by
    intro k5 hk5 v0 v1 v3 w0 σ H locs cells slots ls hD hl hf
    unfold f_X6_settles_B33 at hf
    refine hs_istore_n (i := 2) (lv' := [(2, .int (w0)), (0, va_rf (v0)), (1, .int (v1)), (3, .int (v3))]) hx hb dX6_settles_33 rfl hl (by decide) (st_okR (st_okI (st_okI st_ok0))) rfl (fun ls hl => ?_)
    refine hs_iinc (i := 3) (k := 3) (v := v3 + 1) (lv' := [(3, .int (v3 + 1)), (2, .int (w0)), (0, va_rf (v0)), (1, .int (v1))]) hx hb dX6_settles_34 hl rfl (congrArg (fun z => v3 + z) (by decide)) (by decide) (st_okI (st_okR (st_okI (st_okI st_ok0)))) rfl (fun ls hl => ?_)
    refine lv_goto (tgt := 5) hx hb dX6_settles_37 (by decide) ?_
    exact hk5 v0 v1 w0 (v3 + 1) _ _ _ _ _ _ hD (lv_sub hl [2, 3, 1, 0] rfl) hf
  have hL5 : ∀ (n : Nat), ∀ (v0 : Option Nat) (v1 : Int32) (v2 : Int32) (v3 : Int32) (σ : PS) (H : Heap) (locs : List Loc) (cells slots : Nat) (ls : Array Slot), Dy D G base E s.heap σ0 σ H locs cells slots → lv_has ls 6 [(0, va_rf (v0)), (1, .int (v1)), (2, .int (v2)), (3, .int (v3))] → f_X6_settles_L5 E n v0 v1 v2 v3 σ = some (rv, τ) → W p l e R s m ([.ref a0, .int (p1)] : List Value).toArray below meth c H locs cells slots Q (F0 m 5 ls []) := by
    intro n
    induction n with
    | zero =>
      intro v0 v1 v2 v3 σ H locs cells slots ls hD hl hf
      rw [f_X6_settles_L5] at hf
      cases hf
    | succ n ih =>
      intro v0 v1 v2 v3 σ H locs cells slots ls hD hl hf
      rw [f_X6_settles_L5] at hf
      refine lv_iload_n hx hb dX6_settles_5 rfl (lv_at hl 3 rfl) ?_
      refine hw_aload_n (r := v0) hx hb dX6_settles_6 rfl (lv_at hl 0 rfl) ?_
      obtain ⟨x1, hv, hf⟩ := ob_s hf
      refine hw_gi (C := RX6) (T := TX6) (N := 23) (ref := "SolidGroupsModel") S hKn hD hv rfl (by decide) (by decide) rfl inX6 wd0 (fun _ h9 => h9) dX6_settles_7 ?_
      refine lv_icmp_ge (tgt := 40) hx hb dX6_settles_10 (by decide) (fun hc => ?_) (fun hc => ?_)
      · rw [if_pos hc] at hf
        refine lv_iload_n hx hb dX6_settles_40 rfl (lv_at hl 2 rfl) ?_
        refine hs_istore_n (i := 3) (lv' := [(3, .int (v2)), (0, va_rf (v0)), (1, .int (v1)), (2, .int (v2))]) hx hb dX6_settles_41 rfl hl (by decide) (st_okR (st_okI (st_okI (st_okI st_ok0)))) rfl (fun ls hl => ?_)
        refine hw_aload_n (r := v0) hx hb dX6_settles_42 rfl (lv_at hl 1 rfl) ?_
        refine lv_iload_n hx hb dX6_settles_43 rfl (lv_at hl 3 rfl) ?_
        obtain ⟨b4, hv, hf⟩ := ob_s hf
        obtain ⟨e9, hk9⟩ := oK_of hv
        cases e9
        obtain ⟨r2, s3, hv, hf⟩ := ob_p hf
        refine hw_V (b := b4) (ci := 7) (T := TX6) (N := 23) (As := [.int (v2)]) (rest := []) S hKn hRm hD (c_X6_groupBytes l D G base E hv) (mo_X6_groupBytes hv) hk9 rfl (by decide) gX6_settles_X6_groupBytes rfl 1 (by decide +kernel) ⟨by rw [hfr]; decide, by rw [hlo]; decide⟩ rfl hl.1 (Nat.le_trans cs_0 (by decide)) rfl dX6_settles_44 (fun H locs cells slots hD => ?_)
        refine W.eq (g2 := F0 m 47 ls [.int (r2)]) rfl ?_
        refine hw_aload_n (r := (some b4)) hx hb dX6_settles_47 rfl (lv_at hl 1 rfl) ?_
        obtain ⟨x5, hv, hf⟩ := ob_s hf
        refine hw_gr (C := RX6) (T := TX6) (N := 23) (ref := "SolidGroupsModel") S hKn hD hv rfl (by decide) (by decide) rfl inX6 wd1 (fun _ h9 => h9) dX6_settles_48 ?_
        refine lv_iload_n hx hb dX6_settles_51 rfl (lv_at hl 2 rfl) ?_
        obtain ⟨x6, hv, hf⟩ := ob_s hf
        refine hw_al S hKn hD hv dX6_settles_52 ?_
        refine lv_iadd hx hb dX6_settles_53 ?_
        refine hw_aload_n (r := (some b4)) hx hb dX6_settles_54 rfl (lv_at hl 1 rfl) ?_
        obtain ⟨x7, hv, hf⟩ := ob_s hf
        refine hw_gi (C := RX6) (T := TX6) (N := 23) (ref := "SolidGroupsModel") S hKn hD hv rfl (by decide) (by decide) rfl inX6 wd2 (fun _ h9 => h9) dX6_settles_55 ?_
        refine lv_icmp_le (tgt := 257) hx hb dX6_settles_58 (by decide) (fun hc => ?_) (fun hc => ?_)
        · rw [if_pos hc] at hf
          exact hB257 (some b4) v1 v2 _ _ _ _ _ _ hD (lv_sub hl [1, 2, 0] rfl) hf
        · rw [if_neg hc] at hf
          refine lv_iload_n hx hb dX6_settles_61 rfl (lv_at hl 3 rfl) ?_
          refine lv_iconst (v := (1)) hx hb dX6_settles_62 (by decide) ?_
          refine lv_iadd hx hb dX6_settles_63 ?_
          refine hs_istore_n (i := 3) (lv' := [(3, .int (v2 + (1 : Int32))), (0, va_rf ((some b4))), (1, .int (v1)), (2, .int (v2))]) hx hb dX6_settles_64 rfl hl (by decide) (st_okI (st_okR (st_okI (st_okI st_ok0)))) rfl (fun ls hl => ?_)
          refine hw_aload_n (r := (some b4)) hx hb dX6_settles_65 rfl (lv_at hl 1 rfl) ?_
          obtain ⟨x8, hv, hf⟩ := ob_s hf
          refine hw_gi (C := RX6) (T := TX6) (N := 23) (ref := "SolidGroupsModel") S hKn hD hv rfl (by decide) (by decide) rfl inX6 wd0 (fun _ h9 => h9) dX6_settles_66 ?_
          refine hs_istore (i := 4) (lv' := [(4, .int (x8)), (3, .int (v2 + (1 : Int32))), (0, va_rf ((some b4))), (1, .int (v1)), (2, .int (v2))]) hx hb dX6_settles_69 hl (by decide) (st_okI (st_okR (st_okI (st_okI st_ok0)))) rfl (fun ls hl => ?_)
          exact hL71 _ (some b4) v1 (v2 + (1 : Int32)) x8 _ _ _ _ _ _ hD (lv_sub hl [2, 3, 1, 0] rfl) hf
      · rw [if_neg hc] at hf
        refine hw_aload_n (r := v0) hx hb dX6_settles_13 rfl (lv_at hl 0 rfl) ?_
        obtain ⟨x9, hv, hf⟩ := ob_s hf
        refine hw_gr (C := RX6) (T := TX6) (N := 23) (ref := "SolidGroupsModel") S hKn hD hv rfl (by decide) (by decide) rfl inX6 wd3 (fun _ h9 => h9) dX6_settles_14 ?_
        refine lv_iload_n hx hb dX6_settles_17 rfl (lv_at hl 3 rfl) ?_
        obtain ⟨x10, hv, hf⟩ := ob_s hf
        refine hw_al S hKn hD hv dX6_settles_18 ?_
        refine hw_aload_n (r := v0) hx hb dX6_settles_19 rfl (lv_at hl 0 rfl) ?_
        obtain ⟨x11, hv, hf⟩ := ob_s hf
        refine hw_gr (C := RX6) (T := TX6) (N := 23) (ref := "SolidGroupsModel") S hKn hD hv rfl (by decide) (by decide) rfl inX6 wd4 (fun _ h9 => h9) dX6_settles_20 ?_
        refine lv_iload_n hx hb dX6_settles_23 rfl (lv_at hl 1 rfl) ?_
        obtain ⟨x12, hv, hf⟩ := ob_s hf
        refine hw_al S hKn hD hv dX6_settles_24 ?_
        refine lv_icmp_ne (tgt := 32) hx hb dX6_settles_25 (by decide) (fun hc => ?_) (fun hc => ?_)
        · rw [if_neg hc] at hf
          refine lv_iload_n hx hb dX6_settles_32 rfl (lv_at hl 2 rfl) ?_
          exact hB33 _ ih v0 v1 v3 v2 _ _ _ _ _ _ hD (lv_sub hl [0, 1, 3] rfl) hf
        · rw [if_pos hc] at hf
          refine lv_iload_n hx hb dX6_settles_28 rfl (lv_at hl 3 rfl) ?_
          refine lv_goto (tgt := 33) hx hb dX6_settles_29 (by decide) ?_
          exact hB33 _ ih v0 v1 v3 v3 _ _ _ _ _ _ hD (lv_sub hl [0, 1, 3] rfl) hf
  have hl : lv_has ls 6 [(0, va_rf (some a0)), (1, .int (p1))] := hl
  unfold g_X6_settles at hf
  refine lv_bipush (v := (-2)) hx hb dX6_settles_0 (by decide) ?_
  refine hs_istore_n (i := 2) (lv' := [(2, .int ((-2 : Int32))), (0, va_rf ((some a0))), (1, .int (p1))]) hx hb dX6_settles_2 rfl hl (by decide) (st_okR (st_okI st_ok0)) rfl (fun ls hl => ?_)
  refine lv_iconst (v := (0)) hx hb dX6_settles_3 (by decide) ?_
  refine hs_istore_n (i := 3) (lv' := [(3, .int ((0 : Int32))), (2, .int ((-2 : Int32))), (0, va_rf ((some a0))), (1, .int (p1))]) hx hb dX6_settles_4 rfl hl (by decide) (st_okI (st_okR (st_okI st_ok0))) rfl (fun ls hl => ?_)
  exact hL5 _ (some a0) p1 (-2 : Int32) (0 : Int32) _ _ _ _ _ _ hD (lv_sub hl [2, 3, 1, 0] rfl) hf
set_option maxHeartbeats 4000000 in
set_option maxRecDepth 100000 in
theorem c_X6_change (l : Launch) (D : va_G) (G : GC) (base : Nat) (E : PE) {a0 : Nat} {p1 : Int32} {p2 : Int32} {p3 : Int32} {σ0 τ : PS} {rv : Int32} (hF : f_X6_change E (some a0) p1 p2 p3 σ0 = some (rv, τ)) : Ct l D G base E yX6_change wsX6_change 2 50 ([.ref a0, .int (p1), .int (p2), .int (p3)] : List Value) σ0 (some (.int rv)) τ := by
  obtain ⟨hf, hmo⟩ := oM_of hF
  refine Ct.of (own := RX6) [1, 1, 1, 1] (by decide) rfl rfl hmo (ct_R (ct_I (ct_I (ct_I ct_0)))) (by decide) ?_
  intro p e s m below meth c R Q ls H locs cells slots S hKn hRm hfr hlo hlk hret hnm hQ hD hl
  have hx := S.1
  have hb := S.2.1
  have hts := S.2.2.2.2
  have inX6 : ∀ w ∈ u_ws RX6 TX6 23, w ∈ wsX6_change := by decide +kernel
  have wd0 := hts (.fieldLink RX6 13 "SolidGroupsModel" "sizes" "[I") (by decide +kernel)
  have wd1 := hts (.fieldLink RX6 16 "SolidGroupsModel" "bytes" "[I") (by decide +kernel)
  have wd2 := hts (.fieldLink RX6 64 "SolidGroupsModel" "isPacked" "Z") (by decide +kernel)
  have wd3 := hts (.fieldLink RX6 56 "SolidGroupsModel" "entries" "I") (by decide +kernel)
  have wd4 := hts (.fieldLink RX6 19 "SolidGroupsModel" "twins" "[I") (by decide +kernel)
  have wd5 := hts (.fieldLink RX6 22 "SolidGroupsModel" "order" "[I") (by decide +kernel)
  have wd6 := hts (.fieldLink RX6 25 "SolidGroupsModel" "groupAt" "[I") (by decide +kernel)
  have wd7 := hts (.fieldLink RX6 31 "SolidGroupsModel" "anew" "[I") (by decide +kernel)
  have hB35 : ∀ (σ : PS) (H : Heap) (locs : List Loc) (cells slots : Nat) (ls : Array Slot), Dy D G base E s.heap σ0 σ H locs cells slots → lv_has ls 8 [] → f_X6_change_B35 E σ = some (rv, τ) → W p l e R s m ([.ref a0, .int (p1), .int (p2), .int (p3)] : List Value).toArray below meth c H locs cells slots Q (F0 m 35 ls []) := by
    intro σ H locs cells slots ls hD hl hf
    unfold f_X6_change_B35 at hf
    refine lv_iconst (v := (-1)) hx hb dX6_change_35 (by decide) ?_
    obtain ⟨e1, e2⟩ := ret_eq hf
    rw [hQ, ← e1, ← e2]
    exact hw_iret S hlk hret rfl hD dX6_change_36
  have hB75 : ∀ (v4 : Int32) (σ : PS) (H : Heap) (locs : List Loc) (cells slots : Nat) (ls : Array Slot), Dy D G base E s.heap σ0 σ H locs cells slots → lv_has ls 8 [(4, .int (v4))] → f_X6_change_B75 E v4 σ = some (rv, τ) → W p l e R s m ([.ref a0, .int (p1), .int (p2), .int (p3)] : List Value).toArray below meth c H locs cells slots Q (F0 m 75 ls []) := by
    intro v4 σ H locs cells slots ls hD hl hf
    unfold f_X6_change_B75 at hf
    refine lv_iload hx hb dX6_change_75 (lv_at hl 0 rfl) ?_
    obtain ⟨e1, e2⟩ := ret_eq hf
    rw [hQ, ← e1, ← e2]
    exact hw_iret S hlk hret rfl hD dX6_change_77
  have hB241 : ∀ (v0 : Option Nat) (v1 : Int32) (v4 : Int32) (σ : PS) (H : Heap) (locs : List Loc) (cells slots : Nat) (ls : Array Slot), Dy D G base E s.heap σ0 σ H locs cells slots → lv_has ls 8 [(0, va_rf (v0)), (1, .int (v1)), (4, .int (v4))] → f_X6_change_B241 E v0 v1 v4 σ = some (rv, τ) → W p l e R s m ([.ref a0, .int (p1), .int (p2), .int (p3)] : List Value).toArray below meth c H locs cells slots Q (F0 m 241 ls []) := by
    intro v0 v1 v4 σ H locs cells slots ls hD hl hf
    unfold f_X6_change_B241 at hf
    refine hw_aload_n (r := v0) hx hb dX6_change_241 rfl (lv_at hl 0 rfl) ?_
    obtain ⟨x30, hv, hf⟩ := ob_s hf
    refine hw_gr (C := RX6) (T := TX6) (N := 23) (ref := "SolidGroupsModel") S hKn hD hv rfl (by decide) (by decide) rfl inX6 wd6 (fun _ h9 => h9) dX6_change_242 ?_
    refine hw_aload_n (r := v0) hx hb dX6_change_245 rfl (lv_at hl 0 rfl) ?_
    refine lv_iload_n hx hb dX6_change_246 rfl (lv_at hl 1 rfl) ?_
    obtain ⟨b33, hv, hf⟩ := ob_s hf
    obtain ⟨e9, hk9⟩ := oK_of hv
    cases e9
    obtain ⟨r31, s32, hv, hf⟩ := ob_p hf
    refine hw_V (b := b33) (ci := 7) (T := TX6) (N := 23) (As := [.int (v1)]) (rest := [va_rf (x30)]) S hKn hRm hD (c_X6_placeInOrder l D G base E hv) (mo_X6_placeInOrder hv) hk9 rfl (by decide) gX6_change_X6_placeInOrder rfl 1 (by decide +kernel) ⟨by rw [hfr]; decide, by rw [hlo]; decide⟩ rfl hl.1 (Nat.le_trans (cs_A cs_0) (by decide)) rfl dX6_change_247 (fun H locs cells slots hD => ?_)
    refine W.eq (g2 := F0 m 250 ls [.int (r31), va_rf (x30)]) rfl ?_
    obtain ⟨x34, hv, hf⟩ := ob_s hf
    refine hw_al S hKn hD hv dX6_change_250 ?_
    refine hs_istore (i := 7) (lv' := [(7, .int (x34)), (0, va_rf ((some b33))), (1, .int (v1)), (4, .int (v4))]) hx hb dX6_change_251 hl (by decide) (st_okR (st_okI (st_okI st_ok0))) rfl (fun ls hl => ?_)
    refine hw_aload_n (r := (some b33)) hx hb dX6_change_253 rfl (lv_at hl 1 rfl) ?_
    refine lv_iload hx hb dX6_change_254 (lv_at hl 0 rfl) ?_
    obtain ⟨b37, hv, hf⟩ := ob_s hf
    obtain ⟨e9, hk9⟩ := oK_of hv
    cases e9
    obtain ⟨r35, s36, hv, hf⟩ := ob_p hf
    refine hw_V (b := b33) (ci := 7) (T := TX6) (N := 23) (As := [.int (x34)]) (rest := []) S hKn hRm hD (c_X6_makes l D G base E hv) (mo_X6_makes hv) hk9 rfl (by decide) gX6_change_X6_makes rfl 1 (by decide +kernel) ⟨by rw [hfr]; decide, by rw [hlo]; decide⟩ rfl hl.1 (Nat.le_trans cs_0 (by decide)) rfl dX6_change_256 (fun H locs cells slots hD => ?_)
    refine W.eq (g2 := F0 m 259 ls []) rfl ?_
    refine hw_aload_n (r := (some b33)) hx hb dX6_change_259 rfl (lv_at hl 1 rfl) ?_
    obtain ⟨x38, hv, hf⟩ := ob_s hf
    refine hw_gr (C := RX6) (T := TX6) (N := 23) (ref := "SolidGroupsModel") S hKn hD hv rfl (by decide) (by decide) rfl inX6 wd7 (fun _ h9 => h9) dX6_change_260 ?_
    refine lv_iload hx hb dX6_change_263 (lv_at hl 0 rfl) ?_
    refine lv_dup2_11 hx hb dX6_change_265 rfl (va_rf_cat _) ?_
    obtain ⟨x39, hv, hf⟩ := ob_s hf
    refine hw_al S hKn hD hv dX6_change_266 ?_
    refine lv_iconst (v := (1)) hx hb dX6_change_267 (by decide) ?_
    refine lv_iadd hx hb dX6_change_268 ?_
    obtain ⟨s40, hv, hf⟩ := ob_s hf
    refine hw_as S hKn hD hv dX6_change_269 (fun H locs hD => ?_)
    refine lv_iload hx hb dX6_change_270 (lv_at hl 3 rfl) ?_
    obtain ⟨e1, e2⟩ := ret_eq hf
    rw [hQ, ← e1, ← e2]
    exact hw_iret S hlk hret rfl hD dX6_change_272
  have hB236 : ∀ (v0 : Option Nat) (v1 : Int32) (v4 : Int32) (σ : PS) (H : Heap) (locs : List Loc) (cells slots : Nat) (ls : Array Slot), Dy D G base E s.heap σ0 σ H locs cells slots → lv_has ls 8 [(0, va_rf (v0)), (1, .int (v1)), (4, .int (v4))] → f_X6_change_B236 E v0 v1 v4 σ = some (rv, τ) → W p l e R s m ([.ref a0, .int (p1), .int (p2), .int (p3)] : List Value).toArray below meth c H locs cells slots Q (F0 m 236 ls []) := by
    intro v0 v1 v4 σ H locs cells slots ls hD hl hf
    unfold f_X6_change_B236 at hf
    refine hw_aload_n (r := v0) hx hb dX6_change_236 rfl (lv_at hl 0 rfl) ?_
    refine lv_iload_n hx hb dX6_change_237 rfl (lv_at hl 1 rfl) ?_
    obtain ⟨b29, hv, hf⟩ := ob_s hf
    obtain ⟨e9, hk9⟩ := oK_of hv
    cases e9
    obtain ⟨r27, s28, hv, hf⟩ := ob_p hf
    refine hw_V (b := b29) (ci := 7) (T := TX6) (N := 23) (As := [.int (v1)]) (rest := []) S hKn hRm hD (c_X6_settles l D G base E hv) (mo_X6_settles hv) hk9 rfl (by decide) gX6_change_X6_settles rfl 1 (by decide +kernel) ⟨by rw [hfr]; decide, by rw [hlo]; decide⟩ rfl hl.1 (Nat.le_trans cs_0 (by decide)) rfl dX6_change_238 (fun H locs cells slots hD => ?_)
    refine W.eq (g2 := F0 m 241 ls []) rfl ?_
    exact hB241 (some b29) v1 v4 _ _ _ _ _ _ hD (lv_sub hl [0, 1, 2] rfl) hf
  have hB217 : ∀ (v0 : Option Nat) (v1 : Int32) (v4 : Int32) (v5 : Int32) (v6 : Int32) (σ : PS) (H : Heap) (locs : List Loc) (cells slots : Nat) (ls : Array Slot), Dy D G base E s.heap σ0 σ H locs cells slots → lv_has ls 8 [(0, va_rf (v0)), (1, .int (v1)), (4, .int (v4)), (5, .int (v5)), (6, .int (v6))] → f_X6_change_B217 E v0 v1 v4 v5 v6 σ = some (rv, τ) → W p l e R s m ([.ref a0, .int (p1), .int (p2), .int (p3)] : List Value).toArray below meth c H locs cells slots Q (F0 m 217 ls []) := by
    intro v0 v1 v4 v5 v6 σ H locs cells slots ls hD hl hf
    unfold f_X6_change_B217 at hf
    refine hw_aload_n (r := v0) hx hb dX6_change_217 rfl (lv_at hl 0 rfl) ?_
    obtain ⟨x25, hv, hf⟩ := ob_s hf
    refine hw_gr (C := RX6) (T := TX6) (N := 23) (ref := "SolidGroupsModel") S hKn hD hv rfl (by decide) (by decide) rfl inX6 wd4 (fun _ h9 => h9) dX6_change_218 ?_
    refine lv_iload_n hx hb dX6_change_221 rfl (lv_at hl 1 rfl) ?_
    refine lv_iload_n hx hb dX6_change_222 rfl (lv_at hl 1 rfl) ?_
    obtain ⟨s26, hv, hf⟩ := ob_s hf
    refine hw_as S hKn hD hv dX6_change_223 (fun H locs hD => ?_)
    refine lv_iload hx hb dX6_change_224 (lv_at hl 4 rfl) ?_
    refine lv_if_ne (tgt := 236) hx hb dX6_change_226 (by decide) (fun hc => ?_) (fun hc => ?_)
    · rw [if_neg hc] at hf
      exact hB236 v0 v1 v4 _ _ _ _ _ _ hD (lv_sub hl [0, 1, 2] rfl) hf
    · rw [if_pos hc] at hf
      refine lv_iload hx hb dX6_change_229 (lv_at hl 3 rfl) ?_
      refine lv_bipush (v := (-2)) hx hb dX6_change_231 (by decide) ?_
      refine lv_icmp_eq (tgt := 241) hx hb dX6_change_233 (by decide) (fun hc => ?_) (fun hc => ?_)
      · rw [if_pos hc] at hf
        exact hB241 v0 v1 v4 _ _ _ _ _ _ hD (lv_sub hl [0, 1, 2] rfl) hf
      · rw [if_neg hc] at hf
        exact hB236 v0 v1 v4 _ _ _ _ _ _ hD (lv_sub hl [0, 1, 2] rfl) hf
  have hB210 : ∀ (k166 : Option Nat → Int32 → Int32 → Int32 → Int32 → Int32 → PS → Option (Int32 × PS)) (hk166 : ∀ (z0 : Option Nat) (z1 : Int32) (z4 : Int32) (z5 : Int32) (z6 : Int32) (z7 : Int32) (σ : PS) (H : Heap) (locs : List Loc) (cells slots : Nat) (ls : Array Slot), Dy D G base E s.heap σ0 σ H locs cells slots → lv_has ls 8 [(0, va_rf (z0)), (1, .int (z1)), (4, .int (z4)), (5, .int (z5)), (6, .int (z6)), (7, .int (z7))] → k166 z0 z1 z4 z5 z6 z7 σ = some (rv, τ) → W p l e R s m ([.ref a0, .int (p1), .int (p2), .int (p3)] : List Value).toArray below meth c H locs cells slots Q (F0 m 166 ls [])), ∀ (v0 : Option Nat) (v1 : Int32) (v4 : Int32) (v5 : Int32) (v6 : Int32) (v7 : Int32) (w0 : Option Nat) (w1 : Int32) (w2 : Int32) (σ : PS) (H : Heap) (locs : List Loc) (cells slots : Nat) (ls : Array Slot), Dy D G base E s.heap σ0 σ H locs cells slots → lv_has ls 8 [(0, va_rf (v0)), (1, .int (v1)), (4, .int (v4)), (5, .int (v5)), (6, .int (v6)), (7, .int (v7))] → f_X6_change_B210 E k166 v0 v1 v4 v5 v6 v7 w0 w1 w2 σ = some (rv, τ) → W p l e R s m ([.ref a0, .int (p1), .int (p2), .int (p3)] : List Value).toArray below meth c H locs cells slots Q (F0 m 210 ls [.int (w2), .int (w1), va_rf (w0)]) := by
    intro k166 hk166 v0 v1 v4 v5 v6 v7 w0 w1 w2 σ H locs cells slots ls hD hl hf
    unfold f_X6_change_B210 at hf
    obtain ⟨s47, hv, hf⟩ := ob_s hf
    refine hw_as S hKn hD hv dX6_change_210 (fun H locs hD => ?_)
    refine hs_iinc (i := 7) (k := 5) (v := v7 + 1) (lv' := [(7, .int (v7 + 1)), (0, va_rf (v0)), (1, .int (v1)), (4, .int (v4)), (5, .int (v5)), (6, .int (v6))]) hx hb dX6_change_211 hl rfl (congrArg (fun z => v7 + z) (by decide)) (by decide) (st_okR (st_okI (st_okI (st_okI (st_okI (st_okI st_ok0)))))) rfl (fun ls hl => ?_)
    refine lv_goto (tgt := 166) hx hb dX6_change_214 (by decide) ?_
    exact hk166 v0 v1 v4 v5 v6 (v7 + 1) _ _ _ _ _ _ hD (lv_sub hl [1, 2, 3, 4, 5, 0] rfl) hf
  have hB203 : ∀ (k166 : Option Nat → Int32 → Int32 → Int32 → Int32 → Int32 → PS → Option (Int32 × PS)) (hk166 : ∀ (z0 : Option Nat) (z1 : Int32) (z4 : Int32) (z5 : Int32) (z6 : Int32) (z7 : Int32) (σ : PS) (H : Heap) (locs : List Loc) (cells slots : Nat) (ls : Array Slot), Dy D G base E s.heap σ0 σ H locs cells slots → lv_has ls 8 [(0, va_rf (z0)), (1, .int (z1)), (4, .int (z4)), (5, .int (z5)), (6, .int (z6)), (7, .int (z7))] → k166 z0 z1 z4 z5 z6 z7 σ = some (rv, τ) → W p l e R s m ([.ref a0, .int (p1), .int (p2), .int (p3)] : List Value).toArray below meth c H locs cells slots Q (F0 m 166 ls [])), ∀ (v0 : Option Nat) (v1 : Int32) (v4 : Int32) (v5 : Int32) (v6 : Int32) (v7 : Int32) (w0 : Option Nat) (w1 : Int32) (σ : PS) (H : Heap) (locs : List Loc) (cells slots : Nat) (ls : Array Slot), Dy D G base E s.heap σ0 σ H locs cells slots → lv_has ls 8 [(0, va_rf (v0)), (1, .int (v1)), (4, .int (v4)), (5, .int (v5)), (6, .int (v6)), (7, .int (v7))] → f_X6_change_B203 E k166 v0 v1 v4 v5 v6 v7 w0 w1 σ = some (rv, τ) → W p l e R s m ([.ref a0, .int (p1), .int (p2), .int (p3)] : List Value).toArray below meth c H locs cells slots Q (F0 m 203 ls [.int (w1), va_rf (w0)]) := by
    intro k166 hk166 v0 v1 v4 v5 v6 v7 w0 w1 σ H locs cells slots ls hD hl hf
    unfold f_X6_change_B203 at hf
    refine hw_aload_n (r := v0) hx hb dX6_change_203 rfl (lv_at hl 0 rfl) ?_
    obtain ⟨x45, hv, hf⟩ := ob_s hf
    refine hw_gr (C := RX6) (T := TX6) (N := 23) (ref := "SolidGroupsModel") S hKn hD hv rfl (by decide) (by decide) rfl inX6 wd4 (fun _ h9 => h9) dX6_change_204 ?_
    refine lv_iload hx hb dX6_change_207 (lv_at hl 5 rfl) ?_
    obtain ⟨x46, hv, hf⟩ := ob_s hf
    refine hw_al S hKn hD hv dX6_change_209 ?_
    exact hB210 _ hk166 v0 v1 v4 v5 v6 v7 w0 w1 x46 _ _ _ _ _ _ hD (lv_sub hl [0, 1, 2, 3, 4, 5] rfl) hf
  have hL166 : ∀ (n : Nat), ∀ (v0 : Option Nat) (v1 : Int32) (v4 : Int32) (v5 : Int32) (v6 : Int32) (v7 : Int32) (σ : PS) (H : Heap) (locs : List Loc) (cells slots : Nat) (ls : Array Slot), Dy D G base E s.heap σ0 σ H locs cells slots → lv_has ls 8 [(0, va_rf (v0)), (1, .int (v1)), (4, .int (v4)), (5, .int (v5)), (6, .int (v6)), (7, .int (v7))] → f_X6_change_L166 E n v0 v1 v4 v5 v6 v7 σ = some (rv, τ) → W p l e R s m ([.ref a0, .int (p1), .int (p2), .int (p3)] : List Value).toArray below meth c H locs cells slots Q (F0 m 166 ls []) := by
    intro n
    induction n with
    | zero =>
      intro v0 v1 v4 v5 v6 v7 σ H locs cells slots ls hD hl hf
      rw [f_X6_change_L166] at hf
      cases hf
    | succ n ih =>
      intro v0 v1 v4 v5 v6 v7 σ H locs cells slots ls hD hl hf
      rw [f_X6_change_L166] at hf
      refine lv_iload hx hb dX6_change_166 (lv_at hl 5 rfl) ?_
      refine hw_aload_n (r := v0) hx hb dX6_change_168 rfl (lv_at hl 0 rfl) ?_
      obtain ⟨x41, hv, hf⟩ := ob_s hf
      refine hw_gi (C := RX6) (T := TX6) (N := 23) (ref := "SolidGroupsModel") S hKn hD hv rfl (by decide) (by decide) rfl inX6 wd3 (fun _ h9 => h9) dX6_change_169 ?_
      refine lv_icmp_ge (tgt := 217) hx hb dX6_change_172 (by decide) (fun hc => ?_) (fun hc => ?_)
      · rw [if_pos hc] at hf
        exact hB217 v0 v1 v4 v5 v6 _ _ _ _ _ _ hD (lv_sub hl [0, 1, 2, 3, 4] rfl) hf
      · rw [if_neg hc] at hf
        refine hw_aload_n (r := v0) hx hb dX6_change_175 rfl (lv_at hl 0 rfl) ?_
        obtain ⟨x42, hv, hf⟩ := ob_s hf
        refine hw_gr (C := RX6) (T := TX6) (N := 23) (ref := "SolidGroupsModel") S hKn hD hv rfl (by decide) (by decide) rfl inX6 wd4 (fun _ h9 => h9) dX6_change_176 ?_
        refine lv_iload hx hb dX6_change_179 (lv_at hl 5 rfl) ?_
        refine lv_iload hx hb dX6_change_181 (lv_at hl 5 rfl) ?_
        refine lv_iload_n hx hb dX6_change_183 rfl (lv_at hl 1 rfl) ?_
        refine lv_icmp_eq (tgt := 203) hx hb dX6_change_184 (by decide) (fun hc => ?_) (fun hc => ?_)
        · rw [if_pos hc] at hf
          exact hB203 _ ih v0 v1 v4 v5 v6 v7 x42 v7 _ _ _ _ _ _ hD (lv_sub hl [0, 1, 2, 3, 4, 5] rfl) hf
        · rw [if_neg hc] at hf
          refine hw_aload_n (r := v0) hx hb dX6_change_187 rfl (lv_at hl 0 rfl) ?_
          obtain ⟨x43, hv, hf⟩ := ob_s hf
          refine hw_gr (C := RX6) (T := TX6) (N := 23) (ref := "SolidGroupsModel") S hKn hD hv rfl (by decide) (by decide) rfl inX6 wd4 (fun _ h9 => h9) dX6_change_188 ?_
          refine lv_iload hx hb dX6_change_191 (lv_at hl 5 rfl) ?_
          obtain ⟨x44, hv, hf⟩ := ob_s hf
          refine hw_al S hKn hD hv dX6_change_193 ?_
          refine lv_iload_n hx hb dX6_change_194 rfl (lv_at hl 1 rfl) ?_
          refine lv_icmp_ne (tgt := 203) hx hb dX6_change_195 (by decide) (fun hc => ?_) (fun hc => ?_)
          · rw [if_neg hc] at hf
            exact hB203 _ ih v0 v1 v4 v5 v6 v7 x42 v7 _ _ _ _ _ _ hD (lv_sub hl [0, 1, 2, 3, 4, 5] rfl) hf
          · rw [if_pos hc] at hf
            refine lv_iload hx hb dX6_change_198 (lv_at hl 3 rfl) ?_
            refine lv_goto (tgt := 210) hx hb dX6_change_200 (by decide) ?_
            exact hB210 _ ih v0 v1 v4 v5 v6 v7 x42 v7 v5 _ _ _ _ _ _ hD (lv_sub hl [0, 1, 2, 3, 4, 5] rfl) hf
  have hB142 : ∀ (v0 : Option Nat) (v1 : Int32) (v4 : Int32) (v5 : Int32) (w0 : Int32) (σ : PS) (H : Heap) (locs : List Loc) (cells slots : Nat) (ls : Array Slot), Dy D G base E s.heap σ0 σ H locs cells slots → lv_has ls 8 [(0, va_rf (v0)), (1, .int (v1)), (4, .int (v4)), (5, .int (v5))] → f_X6_change_B142 E v0 v1 v4 v5 w0 σ = some (rv, τ) → W p l e R s m ([.ref a0, .int (p1), .int (p2), .int (p3)] : List Value).toArray below meth c H locs cells slots Q (F0 m 142 ls [.int (w0)]) := by
    intro v0 v1 v4 v5 w0 σ H locs cells slots ls hD hl hf
    unfold f_X6_change_B142 at hf
    refine hs_istore (i := 6) (lv' := [(6, .int (w0)), (0, va_rf (v0)), (1, .int (v1)), (4, .int (v4)), (5, .int (v5))]) hx hb dX6_change_142 hl (by decide) (st_okR (st_okI (st_okI (st_okI st_ok0)))) rfl (fun ls hl => ?_)
    refine lv_iload hx hb dX6_change_144 (lv_at hl 4 rfl) ?_
    refine lv_bipush (v := (-2)) hx hb dX6_change_146 (by decide) ?_
    refine lv_icmp_eq (tgt := 217) hx hb dX6_change_148 (by decide) (fun hc => ?_) (fun hc => ?_)
    · rw [if_pos hc] at hf
      exact hB217 v0 v1 v4 v5 w0 _ _ _ _ _ _ hD (lv_sub hl [1, 2, 3, 4, 0] rfl) hf
    · rw [if_neg hc] at hf
      refine hw_aload_n (r := v0) hx hb dX6_change_151 rfl (lv_at hl 1 rfl) ?_
      obtain ⟨x20, hv, hf⟩ := ob_s hf
      refine hw_gr (C := RX6) (T := TX6) (N := 23) (ref := "SolidGroupsModel") S hKn hD hv rfl (by decide) (by decide) rfl inX6 wd5 (fun _ h9 => h9) dX6_change_152 ?_
      refine hw_aload_n (r := v0) hx hb dX6_change_155 rfl (lv_at hl 1 rfl) ?_
      refine lv_iload_n hx hb dX6_change_156 rfl (lv_at hl 2 rfl) ?_
      obtain ⟨b23, hv, hf⟩ := ob_s hf
      obtain ⟨e9, hk9⟩ := oK_of hv
      cases e9
      obtain ⟨r21, s22, hv, hf⟩ := ob_p hf
      refine hw_V (b := b23) (ci := 7) (T := TX6) (N := 23) (As := [.int (v1)]) (rest := [va_rf (x20)]) S hKn hRm hD (c_X6_placeInOrder l D G base E hv) (mo_X6_placeInOrder hv) hk9 rfl (by decide) gX6_change_X6_placeInOrder rfl 1 (by decide +kernel) ⟨by rw [hfr]; decide, by rw [hlo]; decide⟩ rfl hl.1 (Nat.le_trans (cs_A cs_0) (by decide)) rfl dX6_change_157 (fun H locs cells slots hD => ?_)
      refine W.eq (g2 := F0 m 160 ls [.int (r21), va_rf (x20)]) rfl ?_
      refine lv_iload hx hb dX6_change_160 (lv_at hl 4 rfl) ?_
      obtain ⟨s24, hv, hf⟩ := ob_s hf
      refine hw_as S hKn hD hv dX6_change_162 (fun H locs hD => ?_)
      refine lv_iconst (v := (0)) hx hb dX6_change_163 (by decide) ?_
      refine hs_istore (i := 7) (lv' := [(7, .int ((0 : Int32))), (6, .int (w0)), (0, va_rf ((some b23))), (1, .int (v1)), (4, .int (v4)), (5, .int (v5))]) hx hb dX6_change_164 hl (by decide) (st_okI (st_okR (st_okI (st_okI (st_okI st_ok0))))) rfl (fun ls hl => ?_)
      exact hL166 _ (some b23) v1 v4 v5 w0 (0 : Int32) _ _ _ _ _ _ hD (lv_sub hl [2, 3, 4, 5, 1, 0] rfl) hf
  have hB119 : ∀ (k90 : Option Nat → Int32 → Int32 → Int32 → Int32 → PS → Option (Int32 × PS)) (hk90 : ∀ (z0 : Option Nat) (z1 : Int32) (z4 : Int32) (z5 : Int32) (z6 : Int32) (σ : PS) (H : Heap) (locs : List Loc) (cells slots : Nat) (ls : Array Slot), Dy D G base E s.heap σ0 σ H locs cells slots → lv_has ls 8 [(0, va_rf (z0)), (1, .int (z1)), (4, .int (z4)), (5, .int (z5)), (6, .int (z6))] → k90 z0 z1 z4 z5 z6 σ = some (rv, τ) → W p l e R s m ([.ref a0, .int (p1), .int (p2), .int (p3)] : List Value).toArray below meth c H locs cells slots Q (F0 m 90 ls [])), ∀ (v0 : Option Nat) (v1 : Int32) (v4 : Int32) (v6 : Int32) (w0 : Int32) (σ : PS) (H : Heap) (locs : List Loc) (cells slots : Nat) (ls : Array Slot), Dy D G base E s.heap σ0 σ H locs cells slots → lv_has ls 8 [(0, va_rf (v0)), (1, .int (v1)), (4, .int (v4)), (6, .int (v6))] → f_X6_change_B119 E k90 v0 v1 v4 v6 w0 σ = some (rv, τ) → W p l e R s m ([.ref a0, .int (p1), .int (p2), .int (p3)] : List Value).toArray below meth c H locs cells slots Q (F0 m 119 ls [.int (w0)]) := by
    intro k90 hk90 v0 v1 v4 v6 w0 σ H locs cells slots ls hD hl hf
    unfold f_X6_change_B119 at hf
    refine hs_istore (i := 5) (lv' := [(5, .int (w0)), (0, va_rf (v0)), (1, .int (v1)), (4, .int (v4)), (6, .int (v6))]) hx hb dX6_change_119 hl (by decide) (st_okR (st_okI (st_okI (st_okI st_ok0)))) rfl (fun ls hl => ?_)
    refine hs_iinc (i := 6) (k := 4) (v := v6 + (-1)) (lv' := [(6, .int (v6 + (-1))), (5, .int (w0)), (0, va_rf (v0)), (1, .int (v1)), (4, .int (v4))]) hx hb dX6_change_121 hl rfl (congrArg (fun z => v6 + z) (by decide)) (by decide) (st_okI (st_okR (st_okI (st_okI (st_okI st_ok0))))) rfl (fun ls hl => ?_)
    refine lv_goto (tgt := 90) hx hb dX6_change_124 (by decide) ?_
    exact hk90 v0 v1 v4 w0 (v6 + (-1)) _ _ _ _ _ _ hD (lv_sub hl [2, 3, 4, 1, 0] rfl) hf
  have hB117 : ∀ (k90 : Option Nat → Int32 → Int32 → Int32 → Int32 → PS → Option (Int32 × PS)) (hk90 : ∀ (z0 : Option Nat) (z1 : Int32) (z4 : Int32) (z5 : Int32) (z6 : Int32) (σ : PS) (H : Heap) (locs : List Loc) (cells slots : Nat) (ls : Array Slot), Dy D G base E s.heap σ0 σ H locs cells slots → lv_has ls 8 [(0, va_rf (z0)), (1, .int (z1)), (4, .int (z4)), (5, .int (z5)), (6, .int (z6))] → k90 z0 z1 z4 z5 z6 σ = some (rv, τ) → W p l e R s m ([.ref a0, .int (p1), .int (p2), .int (p3)] : List Value).toArray below meth c H locs cells slots Q (F0 m 90 ls [])), ∀ (v0 : Option Nat) (v1 : Int32) (v4 : Int32) (v5 : Int32) (v6 : Int32) (σ : PS) (H : Heap) (locs : List Loc) (cells slots : Nat) (ls : Array Slot), Dy D G base E s.heap σ0 σ H locs cells slots → lv_has ls 8 [(0, va_rf (v0)), (1, .int (v1)), (4, .int (v4)), (5, .int (v5)), (6, .int (v6))] → f_X6_change_B117 E k90 v0 v1 v4 v5 v6 σ = some (rv, τ) → W p l e R s m ([.ref a0, .int (p1), .int (p2), .int (p3)] : List Value).toArray below meth c H locs cells slots Q (F0 m 117 ls []) := by
    intro k90 hk90 v0 v1 v4 v5 v6 σ H locs cells slots ls hD hl hf
    unfold f_X6_change_B117 at hf
    refine lv_iload hx hb dX6_change_117 (lv_at hl 3 rfl) ?_
    exact hB119 _ hk90 v0 v1 v4 v6 v5 _ _ _ _ _ _ hD (lv_sub hl [0, 1, 2, 4] rfl) hf
  have hL90 : ∀ (n : Nat), ∀ (v0 : Option Nat) (v1 : Int32) (v4 : Int32) (v5 : Int32) (v6 : Int32) (σ : PS) (H : Heap) (locs : List Loc) (cells slots : Nat) (ls : Array Slot), Dy D G base E s.heap σ0 σ H locs cells slots → lv_has ls 8 [(0, va_rf (v0)), (1, .int (v1)), (4, .int (v4)), (5, .int (v5)), (6, .int (v6))] → f_X6_change_L90 E n v0 v1 v4 v5 v6 σ = some (rv, τ) → W p l e R s m ([.ref a0, .int (p1), .int (p2), .int (p3)] : List Value).toArray below meth c H locs cells slots Q (F0 m 90 ls []) := by
    intro n
    induction n with
    | zero =>
      intro v0 v1 v4 v5 v6 σ H locs cells slots ls hD hl hf
      rw [f_X6_change_L90] at hf
      cases hf
    | succ n ih =>
      intro v0 v1 v4 v5 v6 σ H locs cells slots ls hD hl hf
      rw [f_X6_change_L90] at hf
      refine lv_iload hx hb dX6_change_90 (lv_at hl 4 rfl) ?_
      refine lv_if_lt (tgt := 127) hx hb dX6_change_92 (by decide) (fun hc => ?_) (fun hc => ?_)
      · rw [if_pos hc] at hf
        refine hw_aload_n (r := v0) hx hb dX6_change_127 rfl (lv_at hl 0 rfl) ?_
        obtain ⟨x16, hv, hf⟩ := ob_s hf
        refine hw_gr (C := RX6) (T := TX6) (N := 23) (ref := "SolidGroupsModel") S hKn hD hv rfl (by decide) (by decide) rfl inX6 wd4 (fun _ h9 => h9) dX6_change_128 ?_
        refine lv_iload_n hx hb dX6_change_131 rfl (lv_at hl 1 rfl) ?_
        obtain ⟨x17, hv, hf⟩ := ob_s hf
        refine hw_al S hKn hD hv dX6_change_132 ?_
        refine lv_iload_n hx hb dX6_change_133 rfl (lv_at hl 1 rfl) ?_
        refine lv_icmp_eq (tgt := 141) hx hb dX6_change_134 (by decide) (fun hc => ?_) (fun hc => ?_)
        · rw [if_pos hc] at hf
          refine lv_iconst (v := (0)) hx hb dX6_change_141 (by decide) ?_
          exact hB142 v0 v1 v4 v5 (0 : Int32) _ _ _ _ _ _ hD (lv_sub hl [0, 1, 2, 3] rfl) hf
        · rw [if_neg hc] at hf
          refine lv_iconst (v := (1)) hx hb dX6_change_137 (by decide) ?_
          refine lv_goto (tgt := 142) hx hb dX6_change_138 (by decide) ?_
          exact hB142 v0 v1 v4 v5 (1 : Int32) _ _ _ _ _ _ hD (lv_sub hl [0, 1, 2, 3] rfl) hf
      · rw [if_neg hc] at hf
        refine lv_iload hx hb dX6_change_95 (lv_at hl 4 rfl) ?_
        refine lv_iload_n hx hb dX6_change_97 rfl (lv_at hl 1 rfl) ?_
        refine lv_icmp_eq (tgt := 117) hx hb dX6_change_98 (by decide) (fun hc => ?_) (fun hc => ?_)
        · rw [if_pos hc] at hf
          exact hB117 _ ih v0 v1 v4 v5 v6 _ _ _ _ _ _ hD (lv_sub hl [0, 1, 2, 3, 4] rfl) hf
        · rw [if_neg hc] at hf
          refine hw_aload_n (r := v0) hx hb dX6_change_101 rfl (lv_at hl 0 rfl) ?_
          obtain ⟨x18, hv, hf⟩ := ob_s hf
          refine hw_gr (C := RX6) (T := TX6) (N := 23) (ref := "SolidGroupsModel") S hKn hD hv rfl (by decide) (by decide) rfl inX6 wd4 (fun _ h9 => h9) dX6_change_102 ?_
          refine lv_iload hx hb dX6_change_105 (lv_at hl 4 rfl) ?_
          obtain ⟨x19, hv, hf⟩ := ob_s hf
          refine hw_al S hKn hD hv dX6_change_107 ?_
          refine lv_iload_n hx hb dX6_change_108 rfl (lv_at hl 1 rfl) ?_
          refine lv_icmp_ne (tgt := 117) hx hb dX6_change_109 (by decide) (fun hc => ?_) (fun hc => ?_)
          · rw [if_neg hc] at hf
            exact hB117 _ ih v0 v1 v4 v5 v6 _ _ _ _ _ _ hD (lv_sub hl [0, 1, 2, 3, 4] rfl) hf
          · rw [if_pos hc] at hf
            refine lv_iload hx hb dX6_change_112 (lv_at hl 4 rfl) ?_
            refine lv_goto (tgt := 119) hx hb dX6_change_114 (by decide) ?_
            exact hB119 _ ih v0 v1 v4 v6 v6 _ _ _ _ _ _ hD (lv_sub hl [0, 1, 2, 4] rfl) hf
  have hl : lv_has ls 8 [(0, va_rf (some a0)), (1, .int (p1)), (2, .int (p2)), (3, .int (p3))] := hl
  unfold g_X6_change at hf
  refine hw_aload_n (r := (some a0)) hx hb dX6_change_0 rfl (lv_at hl 0 rfl) ?_
  refine lv_iload_n hx hb dX6_change_1 rfl (lv_at hl 1 rfl) ?_
  obtain ⟨b3, hv, hf⟩ := ob_s hf
  obtain ⟨e9, hk9⟩ := oK_of hv
  cases e9
  obtain ⟨r1, s2, hv, hf⟩ := ob_p hf
  refine hw_V (b := a0) (ci := 7) (T := TX6) (N := 23) (As := [.int (p1)]) (rest := []) S hKn hRm hD (c_X6_isEntry l D G base E hv) (mo_X6_isEntry hv) hk9 rfl (by decide) gX6_change_X6_isEntry rfl 1 (by decide +kernel) ⟨by rw [hfr]; decide, by rw [hlo]; decide⟩ rfl hl.1 (Nat.le_trans cs_0 (by decide)) rfl dX6_change_2 (fun H locs cells slots hD => ?_)
  refine W.eq (g2 := F0 m 5 ls [.int (r1)]) rfl ?_
  refine lv_if_eq (tgt := 35) hx hb dX6_change_5 (by decide) (fun hc => ?_) (fun hc => ?_)
  · rw [if_pos hc] at hf
    exact hB35 _ _ _ _ _ _ hD (lv_sub hl [] rfl) hf
  · rw [if_neg hc] at hf
    refine lv_iload_n hx hb dX6_change_8 rfl (lv_at hl 2 rfl) ?_
    refine lv_iconst (v := (0)) hx hb dX6_change_9 (by decide) ?_
    refine hw_aload_n (r := (some a0)) hx hb dX6_change_10 rfl (lv_at hl 0 rfl) ?_
    obtain ⟨x4, hv, hf⟩ := ob_s hf
    refine hw_gr (C := RX6) (T := TX6) (N := 23) (ref := "SolidGroupsModel") S hKn hD hv rfl (by decide) (by decide) rfl inX6 wd0 (fun _ h9 => h9) dX6_change_11 ?_
    refine lv_iload_n hx hb dX6_change_14 rfl (lv_at hl 1 rfl) ?_
    obtain ⟨x5, hv, hf⟩ := ob_s hf
    refine hw_al S hKn hD hv dX6_change_15 ?_
    refine lv_iconst (v := (1)) hx hb dX6_change_16 (by decide) ?_
    refine lv_isub hx hb dX6_change_17 ?_
    obtain ⟨r6, s7, hv, hf⟩ := ob_p hf
    refine hw_S (As := [.int (p2), .int ((0 : Int32)), .int (x5 - (1 : Int32))]) (rest := []) S hKn hRm hD (c_X6_isIn l D G base E hv) (mo_X6_isIn hv) gX6_change_X6_isIn rfl 3 (by decide +kernel) ⟨by rw [hfr]; decide, by rw [hlo]; decide⟩ rfl hl.1 (Nat.le_trans cs_0 (by decide)) rfl dX6_change_18 (fun H locs cells slots hD => ?_)
    refine W.eq (g2 := F0 m 21 ls [.int (r6)]) rfl ?_
    refine lv_if_eq (tgt := 35) hx hb dX6_change_21 (by decide) (fun hc => ?_) (fun hc => ?_)
    · rw [if_pos hc] at hf
      exact hB35 _ _ _ _ _ _ hD (lv_sub hl [] rfl) hf
    · rw [if_neg hc] at hf
      refine lv_iload_n hx hb dX6_change_24 rfl (lv_at hl 3 rfl) ?_
      refine lv_iconst (v := (0)) hx hb dX6_change_25 (by decide) ?_
      refine lv_sipush (v := (255)) hx hb dX6_change_26 (by decide) ?_
      obtain ⟨r8, s9, hv, hf⟩ := ob_p hf
      refine hw_S (As := [.int (p3), .int ((0 : Int32)), .int ((255 : Int32))]) (rest := []) S hKn hRm hD (c_X6_isIn l D G base E hv) (mo_X6_isIn hv) gX6_change_X6_isIn rfl 3 (by decide +kernel) ⟨by rw [hfr]; decide, by rw [hlo]; decide⟩ rfl hl.1 (Nat.le_trans cs_0 (by decide)) rfl dX6_change_29 (fun H locs cells slots hD => ?_)
      refine W.eq (g2 := F0 m 32 ls [.int (r8)]) rfl ?_
      refine lv_if_ne (tgt := 37) hx hb dX6_change_32 (by decide) (fun hc => ?_) (fun hc => ?_)
      · rw [if_neg hc] at hf
        refine hw_aload_n (r := (some a0)) hx hb dX6_change_37 rfl (lv_at hl 0 rfl) ?_
        obtain ⟨x10, hv, hf⟩ := ob_s hf
        refine hw_gr (C := RX6) (T := TX6) (N := 23) (ref := "SolidGroupsModel") S hKn hD hv rfl (by decide) (by decide) rfl inX6 wd1 (fun _ h9 => h9) dX6_change_38 ?_
        refine lv_bipush (v := (60)) hx hb dX6_change_41 (by decide) ?_
        refine lv_iload_n hx hb dX6_change_43 rfl (lv_at hl 1 rfl) ?_
        refine lv_imul hx hb dX6_change_44 ?_
        refine lv_iload_n hx hb dX6_change_45 rfl (lv_at hl 2 rfl) ?_
        refine lv_iadd hx hb dX6_change_46 ?_
        obtain ⟨x11, hv, hf⟩ := ob_s hf
        refine hw_al S hKn hD hv dX6_change_47 ?_
        refine hs_istore (i := 4) (lv' := [(4, .int (x11)), (0, va_rf ((some a0))), (1, .int (p1)), (2, .int (p2)), (3, .int (p3))]) hx hb dX6_change_48 hl (by decide) (st_okR (st_okI (st_okI (st_okI st_ok0)))) rfl (fun ls hl => ?_)
        refine hw_aload_n (r := (some a0)) hx hb dX6_change_50 rfl (lv_at hl 1 rfl) ?_
        obtain ⟨x12, hv, hf⟩ := ob_s hf
        refine hw_gr (C := RX6) (T := TX6) (N := 23) (ref := "SolidGroupsModel") S hKn hD hv rfl (by decide) (by decide) rfl inX6 wd1 (fun _ h9 => h9) dX6_change_51 ?_
        refine lv_bipush (v := (60)) hx hb dX6_change_54 (by decide) ?_
        refine lv_iload_n hx hb dX6_change_56 rfl (lv_at hl 2 rfl) ?_
        refine lv_imul hx hb dX6_change_57 ?_
        refine lv_iload_n hx hb dX6_change_58 rfl (lv_at hl 3 rfl) ?_
        refine lv_iadd hx hb dX6_change_59 ?_
        refine lv_iload_n hx hb dX6_change_60 rfl (lv_at hl 4 rfl) ?_
        obtain ⟨s13, hv, hf⟩ := ob_s hf
        refine hw_as S hKn hD hv dX6_change_61 (fun H locs hD => ?_)
        refine hw_aload_n (r := (some a0)) hx hb dX6_change_62 rfl (lv_at hl 1 rfl) ?_
        obtain ⟨x14, hv, hf⟩ := ob_s hf
        refine hw_gi (C := RX6) (T := TX6) (N := 23) (ref := "SolidGroupsModel") S hKn hD hv rfl (by decide) (by decide) rfl inX6 wd2 (fun _ h9 => h9) dX6_change_63 ?_
        refine lv_if_eq (tgt := 75) hx hb dX6_change_66 (by decide) (fun hc => ?_) (fun hc => ?_)
        · rw [if_pos hc] at hf
          exact hB75 x11 _ _ _ _ _ _ hD (lv_sub hl [0] rfl) hf
        · rw [if_neg hc] at hf
          refine lv_iload hx hb dX6_change_69 (lv_at hl 0 rfl) ?_
          refine lv_iload_n hx hb dX6_change_71 rfl (lv_at hl 4 rfl) ?_
          refine lv_icmp_ne (tgt := 78) hx hb dX6_change_72 (by decide) (fun hc => ?_) (fun hc => ?_)
          · rw [if_neg hc] at hf
            refine lv_bipush (v := (-2)) hx hb dX6_change_78 (by decide) ?_
            refine hs_istore (i := 5) (lv' := [(5, .int ((-2 : Int32))), (4, .int (x11)), (0, va_rf ((some a0))), (1, .int (p1)), (2, .int (p2)), (3, .int (p3))]) hx hb dX6_change_80 hl (by decide) (st_okI (st_okR (st_okI (st_okI (st_okI st_ok0))))) rfl (fun ls hl => ?_)
            refine hw_aload_n (r := (some a0)) hx hb dX6_change_82 rfl (lv_at hl 2 rfl) ?_
            obtain ⟨x15, hv, hf⟩ := ob_s hf
            refine hw_gi (C := RX6) (T := TX6) (N := 23) (ref := "SolidGroupsModel") S hKn hD hv rfl (by decide) (by decide) rfl inX6 wd3 (fun _ h9 => h9) dX6_change_83 ?_
            refine lv_iconst (v := (1)) hx hb dX6_change_86 (by decide) ?_
            refine lv_isub hx hb dX6_change_87 ?_
            refine hs_istore (i := 6) (lv' := [(6, .int (x15 - (1 : Int32))), (5, .int ((-2 : Int32))), (4, .int (x11)), (0, va_rf ((some a0))), (1, .int (p1)), (2, .int (p2)), (3, .int (p3))]) hx hb dX6_change_88 hl (by decide) (st_okI (st_okI (st_okR (st_okI (st_okI (st_okI st_ok0)))))) rfl (fun ls hl => ?_)
            exact hL90 _ (some a0) p1 x11 (-2 : Int32) (x15 - (1 : Int32)) _ _ _ _ _ _ hD (lv_sub hl [3, 4, 2, 1, 0] rfl) hf
          · rw [if_pos hc] at hf
            exact hB75 x11 _ _ _ _ _ _ hD (lv_sub hl [0] rfl) hf
      · rw [if_pos hc] at hf
        exact hB35 _ _ _ _ _ _ hD (lv_sub hl [] rfl) hf
set_option maxHeartbeats 4000000 in
set_option maxRecDepth 100000 in
theorem c_X6_order (l : Launch) (D : va_G) (G : GC) (base : Nat) (E : PE) {a0 : Nat} {p1 : Int32} {σ0 τ : PS} {rv : Int32} (hF : f_X6_order E (some a0) p1 σ0 = some (rv, τ)) : Ct l D G base E yX6_order wsX6_order 1 22 ([.ref a0, .int (p1)] : List Value) σ0 (some (.int rv)) τ := by
  obtain ⟨hf, hmo⟩ := oM_of hF
  refine Ct.of (own := RX6) [1, 1] (by decide) rfl rfl hmo (ct_R (ct_I ct_0)) (by decide) ?_
  intro p e s m below meth c R Q ls H locs cells slots S hKn hRm hfr hlo hlk hret hnm hQ hD hl
  have hx := S.1
  have hb := S.2.1
  have hts := S.2.2.2.2
  have inX6 : ∀ w ∈ u_ws RX6 TX6 23, w ∈ wsX6_order := by decide +kernel
  have wd0 := hts (.fieldLink RX6 64 "SolidGroupsModel" "isPacked" "Z") (by decide +kernel)
  have wd1 := hts (.fieldLink RX6 104 "SolidGroupsModel" "kept" "I") (by decide +kernel)
  have wd2 := hts (.fieldLink RX6 22 "SolidGroupsModel" "order" "[I") (by decide +kernel)
  have hB34 : ∀ (w0 : Int32) (σ : PS) (H : Heap) (locs : List Loc) (cells slots : Nat) (ls : Array Slot), Dy D G base E s.heap σ0 σ H locs cells slots → lv_has ls 2 [] → f_X6_order_B34 E w0 σ = some (rv, τ) → W p l e R s m ([.ref a0, .int (p1)] : List Value).toArray below meth c H locs cells slots Q (F0 m 34 ls [.int (w0)]) := by
    intro w0 σ H locs cells slots ls hD hl hf
    unfold f_X6_order_B34 at hf
    obtain ⟨e1, e2⟩ := ret_eq hf
    rw [hQ, ← e1, ← e2]
    exact hw_iret S hlk hret rfl hD dX6_order_34
  have hl : lv_has ls 2 [(0, va_rf (some a0)), (1, .int (p1))] := hl
  unfold g_X6_order at hf
  refine hw_aload_n (r := (some a0)) hx hb dX6_order_0 rfl (lv_at hl 0 rfl) ?_
  obtain ⟨x1, hv, hf⟩ := ob_s hf
  refine hw_gi (C := RX6) (T := TX6) (N := 23) (ref := "SolidGroupsModel") S hKn hD hv rfl (by decide) (by decide) rfl inX6 wd0 (fun _ h9 => h9) dX6_order_1 ?_
  refine lv_if_ne (tgt := 10) hx hb dX6_order_4 (by decide) (fun hc => ?_) (fun hc => ?_)
  · rw [if_neg hc] at hf
    refine lv_iload_n hx hb dX6_order_10 rfl (lv_at hl 1 rfl) ?_
    refine lv_iconst (v := (0)) hx hb dX6_order_11 (by decide) ?_
    refine hw_aload_n (r := (some a0)) hx hb dX6_order_12 rfl (lv_at hl 0 rfl) ?_
    obtain ⟨x2, hv, hf⟩ := ob_s hf
    refine hw_gi (C := RX6) (T := TX6) (N := 23) (ref := "SolidGroupsModel") S hKn hD hv rfl (by decide) (by decide) rfl inX6 wd1 (fun _ h9 => h9) dX6_order_13 ?_
    refine lv_iconst (v := (1)) hx hb dX6_order_16 (by decide) ?_
    refine lv_isub hx hb dX6_order_17 ?_
    obtain ⟨r3, s4, hv, hf⟩ := ob_p hf
    refine hw_S (As := [.int (p1), .int ((0 : Int32)), .int (x2 - (1 : Int32))]) (rest := []) S hKn hRm hD (c_X6_isIn l D G base E hv) (mo_X6_isIn hv) gX6_order_X6_isIn rfl 3 (by decide +kernel) ⟨by rw [hfr]; decide, by rw [hlo]; decide⟩ rfl hl.1 (Nat.le_trans cs_0 (by decide)) rfl dX6_order_18 (fun H locs cells slots hD => ?_)
    refine W.eq (g2 := F0 m 21 ls [.int (r3)]) rfl ?_
    refine lv_if_eq (tgt := 33) hx hb dX6_order_21 (by decide) (fun hc => ?_) (fun hc => ?_)
    · rw [if_pos hc] at hf
      refine lv_iconst (v := (-1)) hx hb dX6_order_33 (by decide) ?_
      exact hB34 (-1 : Int32) _ _ _ _ _ _ hD (lv_sub hl [] rfl) hf
    · rw [if_neg hc] at hf
      refine hw_aload_n (r := (some a0)) hx hb dX6_order_24 rfl (lv_at hl 0 rfl) ?_
      obtain ⟨x5, hv, hf⟩ := ob_s hf
      refine hw_gr (C := RX6) (T := TX6) (N := 23) (ref := "SolidGroupsModel") S hKn hD hv rfl (by decide) (by decide) rfl inX6 wd2 (fun _ h9 => h9) dX6_order_25 ?_
      refine lv_iload_n hx hb dX6_order_28 rfl (lv_at hl 1 rfl) ?_
      obtain ⟨x6, hv, hf⟩ := ob_s hf
      refine hw_al S hKn hD hv dX6_order_29 ?_
      refine lv_goto (tgt := 34) hx hb dX6_order_30 (by decide) ?_
      exact hB34 x6 _ _ _ _ _ _ hD (lv_sub hl [] rfl) hf
  · rw [if_pos hc] at hf
    refine lv_bipush (v := (-2)) hx hb dX6_order_7 (by decide) ?_
    obtain ⟨e1, e2⟩ := ret_eq hf
    rw [hQ, ← e1, ← e2]
    exact hw_iret S hlk hret rfl hD dX6_order_9
