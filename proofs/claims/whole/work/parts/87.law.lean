set_option maxHeartbeats 8000000 in
set_option maxRecDepth 100000 in
theorem c_L_law (l : Launch) (hlt : l.stackTraces = false) (D : va_G) (G : GC) (base : Nat) (E : PE) {xs : Nat → Int32} {L b : Nat} {σ0 τ : PS} (hf : g_L_law E xs L σ0 = some (1, τ)) (hmo : sN τ ≤ sN σ0 + 162966 ∧ sS τ ≤ sS σ0 + 8607208) {p : Program} {e : Env} {s : State} {m : MethodId} {below : List Frame} {meth : Method} {c : Code} {H : Heap} {locs : List Loc} {cells slots : Nat} {ls : Array Slot} (S : CallFix p m c cL_law 7 s #[Value.ref b] wsL_law RL) (hKn : Kn D G base E s) (hKX : KX base s) (hRm : room_1.cells = E.2.1 - sN σ0 ∧ room_1.slots = E.2.2.1 - sS σ0) (hlk : meth.locks = false) (hret : meth.sig.returnType = ret) (hX : va_X b L xs s s.heap) (hbl : b < s.heap.size) (hbs : base = s.heap.size) (hD : Dy D G base E s.heap σ0 σ0 H locs cells slots) (hl : lv_has ls 7 [(0, .ref b)]) : W p l e room_1 s m #[Value.ref b] below meth c H locs cells slots (lw_Z below #[Value.ref b] s) (F0 m 0 ls []) := by
  have hfr : room_1.frames = 13 := rfl
  have hlo : room_1.locals = 502 := rfl
  have hbA : ¬ base ≤ b := by omega
  have hx := S.1
  have hb := S.2.1
  have hts := S.2.2.2.2
  have inX5 : ∀ w ∈ u_ws RX5 TX5 8, w ∈ wsL_law := inlX5
  have inX6 : ∀ w ∈ u_ws RX6 TX6 23, w ∈ wsL_law := inlX6
  have wd0 := hts (.classLink RL 8 RX5) (by decide +kernel)
  have wd1 := hts (.instantiable RX5 8) (by decide +kernel)
  have wd2 := hts (.initialized RX5) (by decide +kernel)
  have wd3 := hts (.methodLink RL 15 yX5_init) (by decide +kernel)
  have wd4 := hts (.instanceMethod yX5_init) (by decide +kernel)
  have wd5 := hts (.classLink RL 16 RX6) (by decide +kernel)
  have wd6 := hts (.instantiable RX6 23) (by decide +kernel)
  have wd7 := hts (.initialized RX6) (by decide +kernel)
  have wd8 := hts (.methodLink RL 18 yX6_init) (by decide +kernel)
  have wd9 := hts (.instanceMethod yX6_init) (by decide +kernel)
  have wd10 := hts (.arrayClass .long) (by decide +kernel)
  have wd11 := hts (.constantLong RL 24 (4294967295)) (by decide +kernel)
  have hB752 : ∀ (k23 : Option Nat → Option Nat → Option Nat → Int32 → PS → Option (Int32 × PS)) (hk23 : ∀ (z1 : Option Nat) (z2 : Option Nat) (z3 : Option Nat) (z4 : Int32) (σ : PS) (H : Heap) (locs : List Loc) (cells slots : Nat) (ls : Array Slot), Dy D G base E s.heap σ0 σ H locs cells slots → lv_has ls 7 [(0, .ref b), (1, va_rf (z1)), (2, va_rf (z2)), (3, va_rf (z3)), (4, .int (z4))] → k23 z1 z2 z3 z4 σ = some (1, τ) → W p l e room_1 s m #[Value.ref b] below meth c H locs cells slots (lw_Z below #[Value.ref b] s) (F0 m 23 ls [])), ∀ (v1 : Option Nat) (v2 : Option Nat) (v3 : Option Nat) (v4 : Int32) (σ : PS) (H : Heap) (locs : List Loc) (cells slots : Nat) (ls : Array Slot), Dy D G base E s.heap σ0 σ H locs cells slots → lv_has ls 7 [(0, .ref b), (1, va_rf (v1)), (2, va_rf (v2)), (3, va_rf (v3)), (4, .int (v4))] → f_L_law_B752 E xs L k23 v1 v2 v3 v4 σ = some (1, τ) → W p l e room_1 s m #[Value.ref b] below meth c H locs cells slots (lw_Z below #[Value.ref b] s) (F0 m 752 ls []) := by
    intro k23 hk23 v1 v2 v3 v4 σ H locs cells slots ls hD hl hf
    unfold f_L_law_B752 at hf
    refine hs_iinc (i := 4) (k := 4) (v := v4 + 5) (lv' := [(4, .int (v4 + 5)), (0, .ref b), (1, va_rf (v1)), (2, va_rf (v2)), (3, va_rf (v3))]) hx hb dL_law_752 hl rfl (congrArg (fun z => v4 + z) (by decide)) (by decide) (st_okS (st_okR (st_okR (st_okR (st_okI st_ok0))))) rfl (fun ls hl => ?_)
    refine lv_goto (tgt := 23) hx hb dL_law_755 (by decide) ?_
    exact hk23 v1 v2 v3 (v4 + 5) _ _ _ _ _ _ hD (lv_sub hl [1, 2, 3, 4, 0] rfl) hf
  have hB414 : ∀ (k23 : Option Nat → Option Nat → Option Nat → Int32 → PS → Option (Int32 × PS)) (hk23 : ∀ (z1 : Option Nat) (z2 : Option Nat) (z3 : Option Nat) (z4 : Int32) (σ : PS) (H : Heap) (locs : List Loc) (cells slots : Nat) (ls : Array Slot), Dy D G base E s.heap σ0 σ H locs cells slots → lv_has ls 7 [(0, .ref b), (1, va_rf (z1)), (2, va_rf (z2)), (3, va_rf (z3)), (4, .int (z4))] → k23 z1 z2 z3 z4 σ = some (1, τ) → W p l e room_1 s m #[Value.ref b] below meth c H locs cells slots (lw_Z below #[Value.ref b] s) (F0 m 23 ls [])), ∀ (v1 : Option Nat) (v2 : Option Nat) (v3 : Option Nat) (v4 : Int32) (σ : PS) (H : Heap) (locs : List Loc) (cells slots : Nat) (ls : Array Slot), Dy D G base E s.heap σ0 σ H locs cells slots → lv_has ls 7 [(0, .ref b), (1, va_rf (v1)), (2, va_rf (v2)), (3, va_rf (v3)), (4, .int (v4))] → f_L_law_B414 E xs L k23 v1 v2 v3 v4 σ = some (1, τ) → W p l e room_1 s m #[Value.ref b] below meth c H locs cells slots (lw_Z below #[Value.ref b] s) (F0 m 414 ls []) := by
    intro k23 hk23 v1 v2 v3 v4 σ H locs cells slots ls hD hl hf
    unfold f_L_law_B414 at hf
    refine lv_goto (tgt := 752) hx hb dL_law_414 (by decide) ?_
    exact hB752 _ hk23 v1 v2 v3 v4 _ _ _ _ _ _ hD (lv_sub hl [0, 1, 2, 3, 4] rfl) hf
  have hL23 : ∀ (n : Nat), ∀ (v1 : Option Nat) (v2 : Option Nat) (v3 : Option Nat) (v4 : Int32) (σ : PS) (H : Heap) (locs : List Loc) (cells slots : Nat) (ls : Array Slot), Dy D G base E s.heap σ0 σ H locs cells slots → lv_has ls 7 [(0, .ref b), (1, va_rf (v1)), (2, va_rf (v2)), (3, va_rf (v3)), (4, .int (v4))] → f_L_law_L23 E xs L n v1 v2 v3 v4 σ = some (1, τ) → W p l e room_1 s m #[Value.ref b] below meth c H locs cells slots (lw_Z below #[Value.ref b] s) (F0 m 23 ls []) := by
    intro n
    induction n with
    | zero =>
      intro v1 v2 v3 v4 σ H locs cells slots ls hD hl hf
      rw [f_L_law_L23] at hf
      cases hf
    | succ n ih =>
      intro v1 v2 v3 v4 σ H locs cells slots ls hD hl hf
      rw [f_L_law_L23] at hf
      refine lv_iload hx hb dL_law_23 (lv_at hl 4 rfl) ?_
      refine hw_aload_n (r := some b) hx hb dL_law_25 rfl (lv_at hl 0 rfl) ?_
      refine hw_sn hx hb hX hbl hbA hD dL_law_26 ?_
      refine lv_iconst (v := (5)) hx hb dL_law_27 (by decide) ?_
      refine lv_isub hx hb dL_law_28 ?_
      refine lv_icmp_gt (tgt := 758) hx hb dL_law_29 (by decide) (fun hc => ?_) (fun hc => ?_)
      · rw [if_pos hc] at hf
        refine lv_iconst (v := (1)) hx hb dL_law_758 (by decide) ?_
        obtain ⟨-, e2⟩ := ret_eq hf
        exact hw_end hx hb hret hlk hbs hD e2 hmo dL_law_759
      · rw [if_neg hc] at hf
        refine hw_aload_n (r := some b) hx hb dL_law_32 rfl (lv_at hl 0 rfl) ?_
        refine lv_iload hx hb dL_law_33 (lv_at hl 4 rfl) ?_
        obtain ⟨x13, hv, hf⟩ := ob_s hf
        refine hw_sl hx hb hX hbl hbA hD hv dL_law_35 ?_
        refine lv_bipush (v := (31)) hx hb dL_law_36 (by decide) ?_
        refine lv_iand hx hb dL_law_38 ?_
        by_cases hc0 : (x13 &&& (31 : Int32)) = (0 : Int32)
        · rw [if_pos hc0] at hf
          refine lv_tableIn (off := 81) (tgt := 120) hx hb dL_law_39 (by rw [hc0]; decide) (by rw [hc0]; decide) (by rw [hc0]; rfl) (by decide) ?_
          refine hw_aload_n (r := v1) hx hb dL_law_120 rfl (lv_at hl 1 rfl) ?_
          refine hw_aload_n (r := some b) hx hb dL_law_121 rfl (lv_at hl 0 rfl) ?_
          refine lv_iload hx hb dL_law_122 (lv_at hl 4 rfl) ?_
          refine lv_iconst (v := (1)) hx hb dL_law_124 (by decide) ?_
          refine lv_iadd hx hb dL_law_125 ?_
          obtain ⟨x14, hv, hf⟩ := ob_s hf
          refine hw_sl hx hb hX hbl hbA hD hv dL_law_126 ?_
          obtain ⟨b17, hv, hf⟩ := ob_s hf
          obtain ⟨e9, hk9⟩ := oK_of hv
          cases e9
          obtain ⟨r15, s16, hv, hf⟩ := ob_p hf
          refine hw_V (b := b17) (ci := 6) (T := TX5) (N := 8) (As := [.int (x14)]) (rest := []) S hKn hRm hD (c_X5_entry l D G base E hv) (mo_X5_entry hv) hk9 rfl (by decide) gL_law_X5_entry rfl 1 (by decide +kernel) ⟨by rw [hfr]; decide, by rw [hlo]; decide⟩ rfl hl.1 (Nat.le_trans cs_0 (by decide)) rfl dL_law_127 (fun H locs cells slots hD => ?_)
          refine W.eq (g2 := F0 m 130 ls [.int (r15)]) rfl ?_
          refine hw_aload_n (r := v2) hx hb dL_law_130 rfl (lv_at hl 2 rfl) ?_
          refine hw_aload_n (r := some b) hx hb dL_law_131 rfl (lv_at hl 0 rfl) ?_
          refine lv_iload hx hb dL_law_132 (lv_at hl 4 rfl) ?_
          refine lv_iconst (v := (1)) hx hb dL_law_134 (by decide) ?_
          refine lv_iadd hx hb dL_law_135 ?_
          obtain ⟨x18, hv, hf⟩ := ob_s hf
          refine hw_sl hx hb hX hbl hbA hD hv dL_law_136 ?_
          obtain ⟨b21, hv, hf⟩ := ob_s hf
          obtain ⟨e9, hk9⟩ := oK_of hv
          cases e9
          obtain ⟨r19, s20, hv, hf⟩ := ob_p hf
          refine hw_V (b := b21) (ci := 7) (T := TX6) (N := 23) (As := [.int (x18)]) (rest := [.int (r15)]) S hKn hRm hD (c_X6_entry l D G base E hv) (mo_X6_entry hv) hk9 rfl (by decide) gL_law_X6_entry rfl 1 (by decide +kernel) ⟨by rw [hfr]; decide, by rw [hlo]; decide⟩ rfl hl.1 (Nat.le_trans (cs_I cs_0) (by decide)) rfl dL_law_137 (fun H locs cells slots hD => ?_)
          refine W.eq (g2 := F0 m 140 ls [.int (r19), .int (r15)]) rfl ?_
          refine lv_icmp_eq (tgt := 752) hx hb dL_law_140 (by decide) (fun hc => ?_) (fun hc => ?_)
          · rw [if_pos hc] at hf
            exact hB752 _ ih (some b17) (some b21) v3 v4 _ _ _ _ _ _ hD (lv_sub hl [0, 1, 2, 3, 4] rfl) hf
          · rw [if_neg hc] at hf
            refine lv_iconst (v := (0)) hx hb dL_law_143 (by decide) ?_
            exact absurd (ret_eq hf).1 (by decide)
        rw [if_neg hc0] at hf
        by_cases hc1 : (x13 &&& (31 : Int32)) = (1 : Int32)
        · rw [if_pos hc1] at hf
          refine lv_tableIn (off := 106) (tgt := 145) hx hb dL_law_39 (by rw [hc1]; decide) (by rw [hc1]; decide) (by rw [hc1]; rfl) (by decide) ?_
          refine hw_aload_n (r := v1) hx hb dL_law_145 rfl (lv_at hl 1 rfl) ?_
          refine hw_aload_n (r := some b) hx hb dL_law_146 rfl (lv_at hl 0 rfl) ?_
          refine lv_iload hx hb dL_law_147 (lv_at hl 4 rfl) ?_
          refine lv_iconst (v := (1)) hx hb dL_law_149 (by decide) ?_
          refine lv_iadd hx hb dL_law_150 ?_
          obtain ⟨x22, hv, hf⟩ := ob_s hf
          refine hw_sl hx hb hX hbl hbA hD hv dL_law_151 ?_
          refine hw_aload_n (r := some b) hx hb dL_law_152 rfl (lv_at hl 0 rfl) ?_
          refine lv_iload hx hb dL_law_153 (lv_at hl 4 rfl) ?_
          refine lv_iconst (v := (2)) hx hb dL_law_155 (by decide) ?_
          refine lv_iadd hx hb dL_law_156 ?_
          obtain ⟨x23, hv, hf⟩ := ob_s hf
          refine hw_sl hx hb hX hbl hbA hD hv dL_law_157 ?_
          refine hw_aload_n (r := some b) hx hb dL_law_158 rfl (lv_at hl 0 rfl) ?_
          refine lv_iload hx hb dL_law_159 (lv_at hl 4 rfl) ?_
          refine lv_iconst (v := (3)) hx hb dL_law_161 (by decide) ?_
          refine lv_iadd hx hb dL_law_162 ?_
          obtain ⟨x24, hv, hf⟩ := ob_s hf
          refine hw_sl hx hb hX hbl hbA hD hv dL_law_163 ?_
          refine lv_i2l hx hb dL_law_164 rfl ?_
          refine lv_bipush (v := (32)) hx hb dL_law_165 (by decide) ?_
          refine lv_lshl hx hb dL_law_167 rfl ?_
          refine hw_aload_n (r := some b) hx hb dL_law_168 rfl (lv_at hl 0 rfl) ?_
          refine lv_iload hx hb dL_law_169 (lv_at hl 4 rfl) ?_
          refine lv_iconst (v := (4)) hx hb dL_law_171 (by decide) ?_
          refine lv_iadd hx hb dL_law_172 ?_
          obtain ⟨x25, hv, hf⟩ := ob_s hf
          refine hw_sl hx hb hX hbl hbA hD hv dL_law_173 ?_
          refine lv_i2l hx hb dL_law_174 rfl ?_
          refine lv_ldc2 (v := (4294967295)) hx hb S.2.2.2.1 wd11 dL_law_175 ?_
          refine lv_land hx hb dL_law_178 ?_
          refine lv_lor hx hb dL_law_179 ?_
          obtain ⟨b28, hv, hf⟩ := ob_s hf
          obtain ⟨e9, hk9⟩ := oK_of hv
          cases e9
          obtain ⟨r26, s27, hv, hf⟩ := ob_p hf
          refine hw_V (b := b28) (ci := 6) (T := TX5) (N := 8) (As := [.int (x22), .int (x23), .long ((x24.toInt64 <<< ((32 : Int32).toInt64 &&& 63)) ||| (x25.toInt64 &&& (4294967295 : Int64)))]) (rest := []) S hKn hRm hD (c_X5_octets l D G base E hv) (mo_X5_octets hv) hk9 rfl (by decide) gL_law_X5_octets rfl 3 (by decide +kernel) ⟨by rw [hfr]; decide, by rw [hlo]; decide⟩ rfl hl.1 (Nat.le_trans cs_0 (by decide)) rfl dL_law_180 (fun H locs cells slots hD => ?_)
          refine W.eq (g2 := F0 m 183 ls [.int (r26)]) rfl ?_
          refine hw_aload_n (r := v2) hx hb dL_law_183 rfl (lv_at hl 2 rfl) ?_
          refine hw_aload_n (r := some b) hx hb dL_law_184 rfl (lv_at hl 0 rfl) ?_
          refine lv_iload hx hb dL_law_185 (lv_at hl 4 rfl) ?_
          refine lv_iconst (v := (1)) hx hb dL_law_187 (by decide) ?_
          refine lv_iadd hx hb dL_law_188 ?_
          obtain ⟨x29, hv, hf⟩ := ob_s hf
          refine hw_sl hx hb hX hbl hbA hD hv dL_law_189 ?_
          refine hw_aload_n (r := some b) hx hb dL_law_190 rfl (lv_at hl 0 rfl) ?_
          refine lv_iload hx hb dL_law_191 (lv_at hl 4 rfl) ?_
          refine lv_iconst (v := (2)) hx hb dL_law_193 (by decide) ?_
          refine lv_iadd hx hb dL_law_194 ?_
          obtain ⟨x30, hv, hf⟩ := ob_s hf
          refine hw_sl hx hb hX hbl hbA hD hv dL_law_195 ?_
          refine hw_aload_n (r := some b) hx hb dL_law_196 rfl (lv_at hl 0 rfl) ?_
          refine lv_iload hx hb dL_law_197 (lv_at hl 4 rfl) ?_
          refine lv_iconst (v := (3)) hx hb dL_law_199 (by decide) ?_
          refine lv_iadd hx hb dL_law_200 ?_
          obtain ⟨x31, hv, hf⟩ := ob_s hf
          refine hw_sl hx hb hX hbl hbA hD hv dL_law_201 ?_
          refine lv_i2l hx hb dL_law_202 rfl ?_
          refine lv_bipush (v := (32)) hx hb dL_law_203 (by decide) ?_
          refine lv_lshl hx hb dL_law_205 rfl ?_
          refine hw_aload_n (r := some b) hx hb dL_law_206 rfl (lv_at hl 0 rfl) ?_
          refine lv_iload hx hb dL_law_207 (lv_at hl 4 rfl) ?_
          refine lv_iconst (v := (4)) hx hb dL_law_209 (by decide) ?_
          refine lv_iadd hx hb dL_law_210 ?_
          obtain ⟨x32, hv, hf⟩ := ob_s hf
          refine hw_sl hx hb hX hbl hbA hD hv dL_law_211 ?_
          refine lv_i2l hx hb dL_law_212 rfl ?_
          refine lv_ldc2 (v := (4294967295)) hx hb S.2.2.2.1 wd11 dL_law_213 ?_
          refine lv_land hx hb dL_law_216 ?_
          refine lv_lor hx hb dL_law_217 ?_
          obtain ⟨b35, hv, hf⟩ := ob_s hf
          obtain ⟨e9, hk9⟩ := oK_of hv
          cases e9
          obtain ⟨r33, s34, hv, hf⟩ := ob_p hf
          refine hw_V (b := b35) (ci := 7) (T := TX6) (N := 23) (As := [.int (x29), .int (x30), .long ((x31.toInt64 <<< ((32 : Int32).toInt64 &&& 63)) ||| (x32.toInt64 &&& (4294967295 : Int64)))]) (rest := [.int (r26)]) S hKn hRm hD (c_X6_octets l D G base E hv) (mo_X6_octets hv) hk9 rfl (by decide) gL_law_X6_octets rfl 3 (by decide +kernel) ⟨by rw [hfr]; decide, by rw [hlo]; decide⟩ rfl hl.1 (Nat.le_trans (cs_I cs_0) (by decide)) rfl dL_law_218 (fun H locs cells slots hD => ?_)
          refine W.eq (g2 := F0 m 221 ls [.int (r33), .int (r26)]) rfl ?_
          refine lv_icmp_eq (tgt := 752) hx hb dL_law_221 (by decide) (fun hc => ?_) (fun hc => ?_)
          · rw [if_pos hc] at hf
            exact hB752 _ ih (some b28) (some b35) v3 v4 _ _ _ _ _ _ hD (lv_sub hl [0, 1, 2, 3, 4] rfl) hf
          · rw [if_neg hc] at hf
            refine lv_iconst (v := (0)) hx hb dL_law_224 (by decide) ?_
            exact absurd (ret_eq hf).1 (by decide)
        rw [if_neg hc1] at hf
        by_cases hc2 : (x13 &&& (31 : Int32)) = (2 : Int32)
        · rw [if_pos hc2] at hf
          refine lv_tableIn (off := 187) (tgt := 226) hx hb dL_law_39 (by rw [hc2]; decide) (by rw [hc2]; decide) (by rw [hc2]; rfl) (by decide) ?_
          refine hw_aload_n (r := v1) hx hb dL_law_226 rfl (lv_at hl 1 rfl) ?_
          refine hw_aload_n (r := some b) hx hb dL_law_227 rfl (lv_at hl 0 rfl) ?_
          refine lv_iload hx hb dL_law_228 (lv_at hl 4 rfl) ?_
          refine lv_iconst (v := (1)) hx hb dL_law_230 (by decide) ?_
          refine lv_iadd hx hb dL_law_231 ?_
          obtain ⟨x36, hv, hf⟩ := ob_s hf
          refine hw_sl hx hb hX hbl hbA hD hv dL_law_232 ?_
          refine hw_aload_n (r := some b) hx hb dL_law_233 rfl (lv_at hl 0 rfl) ?_
          refine lv_iload hx hb dL_law_234 (lv_at hl 4 rfl) ?_
          refine lv_iconst (v := (2)) hx hb dL_law_236 (by decide) ?_
          refine lv_iadd hx hb dL_law_237 ?_
          obtain ⟨x37, hv, hf⟩ := ob_s hf
          refine hw_sl hx hb hX hbl hbA hD hv dL_law_238 ?_
          refine hw_aload_n (r := some b) hx hb dL_law_239 rfl (lv_at hl 0 rfl) ?_
          refine lv_iload hx hb dL_law_240 (lv_at hl 4 rfl) ?_
          refine lv_iconst (v := (3)) hx hb dL_law_242 (by decide) ?_
          refine lv_iadd hx hb dL_law_243 ?_
          obtain ⟨x38, hv, hf⟩ := ob_s hf
          refine hw_sl hx hb hX hbl hbA hD hv dL_law_244 ?_
          obtain ⟨b41, hv, hf⟩ := ob_s hf
          obtain ⟨e9, hk9⟩ := oK_of hv
          cases e9
          obtain ⟨r39, s40, hv, hf⟩ := ob_p hf
          refine hw_V (b := b41) (ci := 6) (T := TX5) (N := 8) (As := [.int (x36), .int (x37), .int (x38)]) (rest := []) S hKn hRm hD (c_X5_change l D G base E hv) (mo_X5_change hv) hk9 rfl (by decide) gL_law_X5_change rfl 3 (by decide +kernel) ⟨by rw [hfr]; decide, by rw [hlo]; decide⟩ rfl hl.1 (Nat.le_trans cs_0 (by decide)) rfl dL_law_245 (fun H locs cells slots hD => ?_)
          refine W.eq (g2 := F0 m 248 ls [.int (r39)]) rfl ?_
          refine hw_aload_n (r := v2) hx hb dL_law_248 rfl (lv_at hl 2 rfl) ?_
          refine hw_aload_n (r := some b) hx hb dL_law_249 rfl (lv_at hl 0 rfl) ?_
          refine lv_iload hx hb dL_law_250 (lv_at hl 4 rfl) ?_
          refine lv_iconst (v := (1)) hx hb dL_law_252 (by decide) ?_
          refine lv_iadd hx hb dL_law_253 ?_
          obtain ⟨x42, hv, hf⟩ := ob_s hf
          refine hw_sl hx hb hX hbl hbA hD hv dL_law_254 ?_
          refine hw_aload_n (r := some b) hx hb dL_law_255 rfl (lv_at hl 0 rfl) ?_
          refine lv_iload hx hb dL_law_256 (lv_at hl 4 rfl) ?_
          refine lv_iconst (v := (2)) hx hb dL_law_258 (by decide) ?_
          refine lv_iadd hx hb dL_law_259 ?_
          obtain ⟨x43, hv, hf⟩ := ob_s hf
          refine hw_sl hx hb hX hbl hbA hD hv dL_law_260 ?_
          refine hw_aload_n (r := some b) hx hb dL_law_261 rfl (lv_at hl 0 rfl) ?_
          refine lv_iload hx hb dL_law_262 (lv_at hl 4 rfl) ?_
          refine lv_iconst (v := (3)) hx hb dL_law_264 (by decide) ?_
          refine lv_iadd hx hb dL_law_265 ?_
          obtain ⟨x44, hv, hf⟩ := ob_s hf
          refine hw_sl hx hb hX hbl hbA hD hv dL_law_266 ?_
          obtain ⟨b47, hv, hf⟩ := ob_s hf
          obtain ⟨e9, hk9⟩ := oK_of hv
          cases e9
          obtain ⟨r45, s46, hv, hf⟩ := ob_p hf
          refine hw_V (b := b47) (ci := 7) (T := TX6) (N := 23) (As := [.int (x42), .int (x43), .int (x44)]) (rest := [.int (r39)]) S hKn hRm hD (c_X6_change l D G base E hv) (mo_X6_change hv) hk9 rfl (by decide) gL_law_X6_change rfl 3 (by decide +kernel) ⟨by rw [hfr]; decide, by rw [hlo]; decide⟩ rfl hl.1 (Nat.le_trans (cs_I cs_0) (by decide)) rfl dL_law_267 (fun H locs cells slots hD => ?_)
          refine W.eq (g2 := F0 m 270 ls [.int (r45), .int (r39)]) rfl ?_
          refine lv_icmp_eq (tgt := 752) hx hb dL_law_270 (by decide) (fun hc => ?_) (fun hc => ?_)
          · rw [if_pos hc] at hf
            exact hB752 _ ih (some b41) (some b47) v3 v4 _ _ _ _ _ _ hD (lv_sub hl [0, 1, 2, 3, 4] rfl) hf
          · rw [if_neg hc] at hf
            refine lv_iconst (v := (0)) hx hb dL_law_273 (by decide) ?_
            exact absurd (ret_eq hf).1 (by decide)
        rw [if_neg hc2] at hf
        by_cases hc3 : (x13 &&& (31 : Int32)) = (3 : Int32)
        · rw [if_pos hc3] at hf
          refine lv_tableIn (off := 236) (tgt := 275) hx hb dL_law_39 (by rw [hc3]; decide) (by rw [hc3]; decide) (by rw [hc3]; rfl) (by decide) ?_
          refine hw_aload_n (r := v1) hx hb dL_law_275 rfl (lv_at hl 1 rfl) ?_
          refine hw_aload_n (r := some b) hx hb dL_law_276 rfl (lv_at hl 0 rfl) ?_
          refine lv_iload hx hb dL_law_277 (lv_at hl 4 rfl) ?_
          refine lv_iconst (v := (1)) hx hb dL_law_279 (by decide) ?_
          refine lv_iadd hx hb dL_law_280 ?_
          obtain ⟨x48, hv, hf⟩ := ob_s hf
          refine hw_sl hx hb hX hbl hbA hD hv dL_law_281 ?_
          refine hw_aload_n (r := some b) hx hb dL_law_282 rfl (lv_at hl 0 rfl) ?_
          refine lv_iload hx hb dL_law_283 (lv_at hl 4 rfl) ?_
          refine lv_iconst (v := (2)) hx hb dL_law_285 (by decide) ?_
          refine lv_iadd hx hb dL_law_286 ?_
          obtain ⟨x49, hv, hf⟩ := ob_s hf
          refine hw_sl hx hb hX hbl hbA hD hv dL_law_287 ?_
          obtain ⟨b52, hv, hf⟩ := ob_s hf
          obtain ⟨e9, hk9⟩ := oK_of hv
          cases e9
          obtain ⟨r50, s51, hv, hf⟩ := ob_p hf
          refine hw_V (b := b52) (ci := 6) (T := TX5) (N := 8) (As := [.int (x48), .int (x49)]) (rest := []) S hKn hRm hD (c_X5_pack l D G base E hv) (mo_X5_pack hv) hk9 rfl (by decide) gL_law_X5_pack rfl 2 (by decide +kernel) ⟨by rw [hfr]; decide, by rw [hlo]; decide⟩ rfl hl.1 (Nat.le_trans cs_0 (by decide)) rfl dL_law_288 (fun H locs cells slots hD => ?_)
          refine W.eq (g2 := F0 m 291 ls [.int (r50)]) rfl ?_
          refine hw_aload_n (r := v2) hx hb dL_law_291 rfl (lv_at hl 2 rfl) ?_
          refine hw_aload_n (r := some b) hx hb dL_law_292 rfl (lv_at hl 0 rfl) ?_
          refine lv_iload hx hb dL_law_293 (lv_at hl 4 rfl) ?_
          refine lv_iconst (v := (1)) hx hb dL_law_295 (by decide) ?_
          refine lv_iadd hx hb dL_law_296 ?_
          obtain ⟨x53, hv, hf⟩ := ob_s hf
          refine hw_sl hx hb hX hbl hbA hD hv dL_law_297 ?_
          refine hw_aload_n (r := some b) hx hb dL_law_298 rfl (lv_at hl 0 rfl) ?_
          refine lv_iload hx hb dL_law_299 (lv_at hl 4 rfl) ?_
          refine lv_iconst (v := (2)) hx hb dL_law_301 (by decide) ?_
          refine lv_iadd hx hb dL_law_302 ?_
          obtain ⟨x54, hv, hf⟩ := ob_s hf
          refine hw_sl hx hb hX hbl hbA hD hv dL_law_303 ?_
          obtain ⟨b57, hv, hf⟩ := ob_s hf
          obtain ⟨e9, hk9⟩ := oK_of hv
          cases e9
          obtain ⟨r55, s56, hv, hf⟩ := ob_p hf
          refine hw_V (b := b57) (ci := 7) (T := TX6) (N := 23) (As := [.int (x53), .int (x54)]) (rest := [.int (r50)]) S hKn hRm hD (c_X6_pack l D G base E hv) (mo_X6_pack hv) hk9 rfl (by decide) gL_law_X6_pack rfl 2 (by decide +kernel) ⟨by rw [hfr]; decide, by rw [hlo]; decide⟩ rfl hl.1 (Nat.le_trans (cs_I cs_0) (by decide)) rfl dL_law_304 (fun H locs cells slots hD => ?_)
          refine W.eq (g2 := F0 m 307 ls [.int (r55), .int (r50)]) rfl ?_
          refine lv_icmp_eq (tgt := 752) hx hb dL_law_307 (by decide) (fun hc => ?_) (fun hc => ?_)
          · rw [if_pos hc] at hf
            exact hB752 _ ih (some b52) (some b57) v3 v4 _ _ _ _ _ _ hD (lv_sub hl [0, 1, 2, 3, 4] rfl) hf
          · rw [if_neg hc] at hf
            refine lv_iconst (v := (0)) hx hb dL_law_310 (by decide) ?_
            exact absurd (ret_eq hf).1 (by decide)
        rw [if_neg hc3] at hf
        by_cases hc4 : (x13 &&& (31 : Int32)) = (4 : Int32)
        · rw [if_pos hc4] at hf
          refine lv_tableIn (off := 273) (tgt := 312) hx hb dL_law_39 (by rw [hc4]; decide) (by rw [hc4]; decide) (by rw [hc4]; rfl) (by decide) ?_
          refine hw_aload_n (r := v1) hx hb dL_law_312 rfl (lv_at hl 1 rfl) ?_
          refine hw_aload_n (r := some b) hx hb dL_law_313 rfl (lv_at hl 0 rfl) ?_
          refine lv_iload hx hb dL_law_314 (lv_at hl 4 rfl) ?_
          refine lv_iconst (v := (1)) hx hb dL_law_316 (by decide) ?_
          refine lv_iadd hx hb dL_law_317 ?_
          obtain ⟨x58, hv, hf⟩ := ob_s hf
          refine hw_sl hx hb hX hbl hbA hD hv dL_law_318 ?_
          refine hw_aload_n (r := some b) hx hb dL_law_319 rfl (lv_at hl 0 rfl) ?_
          refine lv_iload hx hb dL_law_320 (lv_at hl 4 rfl) ?_
          refine lv_iconst (v := (2)) hx hb dL_law_322 (by decide) ?_
          refine lv_iadd hx hb dL_law_323 ?_
          obtain ⟨x59, hv, hf⟩ := ob_s hf
          refine hw_sl hx hb hX hbl hbA hD hv dL_law_324 ?_
          obtain ⟨b62, hv, hf⟩ := ob_s hf
          obtain ⟨e9, hk9⟩ := oK_of hv
          cases e9
          obtain ⟨r60, s61, hv, hf⟩ := ob_p hf
          refine hw_V (b := b62) (ci := 6) (T := TX5) (N := 8) (As := [.int (x58), .int (x59)]) (rest := []) S hKn hRm hD (c_X5_common l D G base E hv) (mo_X5_common hv) hk9 rfl (by decide) gL_law_X5_common rfl 2 (by decide +kernel) ⟨by rw [hfr]; decide, by rw [hlo]; decide⟩ rfl hl.1 (Nat.le_trans cs_0 (by decide)) rfl dL_law_325 (fun H locs cells slots hD => ?_)
          refine W.eq (g2 := F0 m 328 ls [.int (r60)]) rfl ?_
          refine hw_aload_n (r := v2) hx hb dL_law_328 rfl (lv_at hl 2 rfl) ?_
          refine hw_aload_n (r := some b) hx hb dL_law_329 rfl (lv_at hl 0 rfl) ?_
          refine lv_iload hx hb dL_law_330 (lv_at hl 4 rfl) ?_
          refine lv_iconst (v := (1)) hx hb dL_law_332 (by decide) ?_
          refine lv_iadd hx hb dL_law_333 ?_
          obtain ⟨x63, hv, hf⟩ := ob_s hf
          refine hw_sl hx hb hX hbl hbA hD hv dL_law_334 ?_
          refine hw_aload_n (r := some b) hx hb dL_law_335 rfl (lv_at hl 0 rfl) ?_
          refine lv_iload hx hb dL_law_336 (lv_at hl 4 rfl) ?_
          refine lv_iconst (v := (2)) hx hb dL_law_338 (by decide) ?_
          refine lv_iadd hx hb dL_law_339 ?_
          obtain ⟨x64, hv, hf⟩ := ob_s hf
          refine hw_sl hx hb hX hbl hbA hD hv dL_law_340 ?_
          obtain ⟨b67, hv, hf⟩ := ob_s hf
          obtain ⟨e9, hk9⟩ := oK_of hv
          cases e9
          obtain ⟨r65, s66, hv, hf⟩ := ob_p hf
          refine hw_V (b := b67) (ci := 7) (T := TX6) (N := 23) (As := [.int (x63), .int (x64)]) (rest := [.int (r60)]) S hKn hRm hD (c_X6_common l D G base E hv) (mo_X6_common hv) hk9 rfl (by decide) gL_law_X6_common rfl 2 (by decide +kernel) ⟨by rw [hfr]; decide, by rw [hlo]; decide⟩ rfl hl.1 (Nat.le_trans (cs_I cs_0) (by decide)) rfl dL_law_341 (fun H locs cells slots hD => ?_)
          refine W.eq (g2 := F0 m 344 ls [.int (r65), .int (r60)]) rfl ?_
          refine lv_icmp_eq (tgt := 752) hx hb dL_law_344 (by decide) (fun hc => ?_) (fun hc => ?_)
          · rw [if_pos hc] at hf
            exact hB752 _ ih (some b62) (some b67) v3 v4 _ _ _ _ _ _ hD (lv_sub hl [0, 1, 2, 3, 4] rfl) hf
          · rw [if_neg hc] at hf
            refine lv_iconst (v := (0)) hx hb dL_law_347 (by decide) ?_
            exact absurd (ret_eq hf).1 (by decide)
        rw [if_neg hc4] at hf
        by_cases hc5 : (x13 &&& (31 : Int32)) = (5 : Int32)
        · rw [if_pos hc5] at hf
          refine lv_tableIn (off := 310) (tgt := 349) hx hb dL_law_39 (by rw [hc5]; decide) (by rw [hc5]; decide) (by rw [hc5]; rfl) (by decide) ?_
          refine hw_aload_n (r := v1) hx hb dL_law_349 rfl (lv_at hl 1 rfl) ?_
          refine hw_aload_n (r := some b) hx hb dL_law_350 rfl (lv_at hl 0 rfl) ?_
          refine lv_iload hx hb dL_law_351 (lv_at hl 4 rfl) ?_
          refine lv_iconst (v := (1)) hx hb dL_law_353 (by decide) ?_
          refine lv_iadd hx hb dL_law_354 ?_
          obtain ⟨x68, hv, hf⟩ := ob_s hf
          refine hw_sl hx hb hX hbl hbA hD hv dL_law_355 ?_
          refine hw_aload_n (r := some b) hx hb dL_law_356 rfl (lv_at hl 0 rfl) ?_
          refine lv_iload hx hb dL_law_357 (lv_at hl 4 rfl) ?_
          refine lv_iconst (v := (2)) hx hb dL_law_359 (by decide) ?_
          refine lv_iadd hx hb dL_law_360 ?_
          obtain ⟨x69, hv, hf⟩ := ob_s hf
          refine hw_sl hx hb hX hbl hbA hD hv dL_law_361 ?_
          refine hw_aload_n (r := v3) hx hb dL_law_362 rfl (lv_at hl 3 rfl) ?_
          obtain ⟨r70, s71, hv, hf⟩ := ob_p hf
          refine hw_SW (As := [va_rf (v1), .int (x68), .int (x69), va_rf (v3)]) (rest := []) S hKn hKX hRm hD (c_L_share l hlt D G base E hv) (mo_L_share hv) gL_law_L_share rfl 4 (by decide +kernel) ⟨by rw [hfr]; decide, by rw [hlo]; decide⟩ rfl hl.1 (Nat.le_trans cs_0 (by decide)) rfl dL_law_363 (fun H locs cells slots hD => ?_)
          refine W.eq (g2 := F0 m 366 ls [.int (r70)]) rfl ?_
          refine hs_istore (i := 5) (lv' := [(5, .int (r70)), (0, .ref b), (1, va_rf (v1)), (2, va_rf (v2)), (3, va_rf (v3)), (4, .int (v4))]) hx hb dL_law_366 hl (by decide) (st_okS (st_okR (st_okR (st_okR (st_okI st_ok0))))) rfl (fun ls hl => ?_)
          refine hw_aload_n (r := v2) hx hb dL_law_368 rfl (lv_at hl 3 rfl) ?_
          refine hw_aload_n (r := some b) hx hb dL_law_369 rfl (lv_at hl 1 rfl) ?_
          refine lv_iload hx hb dL_law_370 (lv_at hl 5 rfl) ?_
          refine lv_iconst (v := (1)) hx hb dL_law_372 (by decide) ?_
          refine lv_iadd hx hb dL_law_373 ?_
          obtain ⟨x72, hv, hf⟩ := ob_s hf
          refine hw_sl hx hb hX hbl hbA hD hv dL_law_374 ?_
          refine hw_aload_n (r := some b) hx hb dL_law_375 rfl (lv_at hl 1 rfl) ?_
          refine lv_iload hx hb dL_law_376 (lv_at hl 5 rfl) ?_
          refine lv_iconst (v := (2)) hx hb dL_law_378 (by decide) ?_
          refine lv_iadd hx hb dL_law_379 ?_
          obtain ⟨x73, hv, hf⟩ := ob_s hf
          refine hw_sl hx hb hX hbl hbA hD hv dL_law_380 ?_
          obtain ⟨b76, hv, hf⟩ := ob_s hf
          obtain ⟨e9, hk9⟩ := oK_of hv
          cases e9
          obtain ⟨r74, s75, hv, hf⟩ := ob_p hf
          refine hw_V (b := b76) (ci := 7) (T := TX6) (N := 23) (As := [.int (x72), .int (x73)]) (rest := []) S hKn hRm hD (c_X6_share l D G base E hv) (mo_X6_share hv) hk9 rfl (by decide) gL_law_X6_share rfl 2 (by decide +kernel) ⟨by rw [hfr]; decide, by rw [hlo]; decide⟩ rfl hl.1 (Nat.le_trans cs_0 (by decide)) rfl dL_law_381 (fun H locs cells slots hD => ?_)
          refine W.eq (g2 := F0 m 384 ls [.int (r74)]) rfl ?_
          refine hs_istore (i := 6) (lv' := [(6, .int (r74)), (5, .int (r70)), (0, .ref b), (1, va_rf (v1)), (2, va_rf ((some b76))), (3, va_rf (v3)), (4, .int (v4))]) hx hb dL_law_384 hl (by decide) (st_okI (st_okS (st_okR (st_okR (st_okR (st_okI st_ok0)))))) rfl (fun ls hl => ?_)
          refine hw_aload_n (r := (some b76)) hx hb dL_law_386 rfl (lv_at hl 4 rfl) ?_
          obtain ⟨b79, hv, hf⟩ := ob_s hf
          obtain ⟨e9, hk9⟩ := oK_of hv
          cases e9
          obtain ⟨r77, s78, hv, hf⟩ := ob_p hf
          refine hw_V (b := b76) (ci := 7) (T := TX6) (N := 23) (As := []) (rest := []) S hKn hRm hD (c_X6_thrown l D G base E hv) (mo_X6_thrown hv) hk9 rfl (by decide) gL_law_X6_thrown rfl 0 (by decide +kernel) ⟨by rw [hfr]; decide, by rw [hlo]; decide⟩ rfl hl.1 (Nat.le_trans cs_0 (by decide)) rfl dL_law_387 (fun H locs cells slots hD => ?_)
          refine W.eq (g2 := F0 m 390 ls [.int (r77)]) rfl ?_
          refine lv_iload hx hb dL_law_390 (lv_at hl 1 rfl) ?_
          refine lv_icmp_eq (tgt := 397) hx hb dL_law_392 (by decide) (fun hc => ?_) (fun hc => ?_)
          · rw [if_pos hc] at hf
            refine lv_iload hx hb dL_law_397 (lv_at hl 1 rfl) ?_
            refine lv_if_ne (tgt := 414) hx hb dL_law_399 (by decide) (fun hc => ?_) (fun hc => ?_)
            · rw [if_neg hc] at hf
              exact hB414 _ ih v1 (some b76) v3 v4 _ _ _ _ _ _ hD (lv_sub hl [2, 3, 4, 5, 6] rfl) hf
            · rw [if_pos hc] at hf
              refine hw_aload_n (r := v3) hx hb dL_law_402 rfl (lv_at hl 5 rfl) ?_
              refine lv_iconst (v := (0)) hx hb dL_law_403 (by decide) ?_
              obtain ⟨x80, hv, hf⟩ := ob_s hf
              refine hw_jl S hKn hD hv dL_law_404 ?_
              refine lv_iload hx hb dL_law_405 (lv_at hl 0 rfl) ?_
              refine lv_i2l hx hb dL_law_407 rfl ?_
              refine W.lcmp hx hb dL_law_408 ?_
              refine lv_if_eq (tgt := 414) hx hb dL_law_409 (by decide) (fun hc => ?_) (fun hc => ?_)
              · rw [if_pos hc] at hf
                exact hB414 _ ih v1 (some b76) v3 v4 _ _ _ _ _ _ hD (lv_sub hl [2, 3, 4, 5, 6] rfl) hf
              · rw [if_neg hc] at hf
                refine lv_iconst (v := (0)) hx hb dL_law_412 (by decide) ?_
                exact absurd (ret_eq hf).1 (by decide)
          · rw [if_neg hc] at hf
            refine lv_iconst (v := (0)) hx hb dL_law_395 (by decide) ?_
            exact absurd (ret_eq hf).1 (by decide)
        rw [if_neg hc5] at hf
        by_cases hc6 : (x13 &&& (31 : Int32)) = (6 : Int32)
        · rw [if_pos hc6] at hf
          refine lv_tableIn (off := 378) (tgt := 417) hx hb dL_law_39 (by rw [hc6]; decide) (by rw [hc6]; decide) (by rw [hc6]; rfl) (by decide) ?_
          refine hw_aload_n (r := v1) hx hb dL_law_417 rfl (lv_at hl 1 rfl) ?_
          refine hw_aload_n (r := some b) hx hb dL_law_418 rfl (lv_at hl 0 rfl) ?_
          refine lv_iload hx hb dL_law_419 (lv_at hl 4 rfl) ?_
          refine lv_iconst (v := (1)) hx hb dL_law_421 (by decide) ?_
          refine lv_iadd hx hb dL_law_422 ?_
          obtain ⟨x81, hv, hf⟩ := ob_s hf
          refine hw_sl hx hb hX hbl hbA hD hv dL_law_423 ?_
          refine hw_aload_n (r := some b) hx hb dL_law_424 rfl (lv_at hl 0 rfl) ?_
          refine lv_iload hx hb dL_law_425 (lv_at hl 4 rfl) ?_
          refine lv_iconst (v := (2)) hx hb dL_law_427 (by decide) ?_
          refine lv_iadd hx hb dL_law_428 ?_
          obtain ⟨x82, hv, hf⟩ := ob_s hf
          refine hw_sl hx hb hX hbl hbA hD hv dL_law_429 ?_
          obtain ⟨b85, hv, hf⟩ := ob_s hf
          obtain ⟨e9, hk9⟩ := oK_of hv
          cases e9
          obtain ⟨r83, s84, hv, hf⟩ := ob_p hf
          refine hw_V (b := b85) (ci := 6) (T := TX5) (N := 8) (As := [.int (x81), .int (x82)]) (rest := []) S hKn hRm hD (c_X5_distance l D G base E hv) (mo_X5_distance hv) hk9 rfl (by decide) gL_law_X5_distance rfl 2 (by decide +kernel) ⟨by rw [hfr]; decide, by rw [hlo]; decide⟩ rfl hl.1 (Nat.le_trans cs_0 (by decide)) rfl dL_law_430 (fun H locs cells slots hD => ?_)
          refine W.eq (g2 := F0 m 433 ls [.int (r83)]) rfl ?_
          refine hw_aload_n (r := v2) hx hb dL_law_433 rfl (lv_at hl 2 rfl) ?_
          refine hw_aload_n (r := some b) hx hb dL_law_434 rfl (lv_at hl 0 rfl) ?_
          refine lv_iload hx hb dL_law_435 (lv_at hl 4 rfl) ?_
          refine lv_iconst (v := (1)) hx hb dL_law_437 (by decide) ?_
          refine lv_iadd hx hb dL_law_438 ?_
          obtain ⟨x86, hv, hf⟩ := ob_s hf
          refine hw_sl hx hb hX hbl hbA hD hv dL_law_439 ?_
          refine hw_aload_n (r := some b) hx hb dL_law_440 rfl (lv_at hl 0 rfl) ?_
          refine lv_iload hx hb dL_law_441 (lv_at hl 4 rfl) ?_
          refine lv_iconst (v := (2)) hx hb dL_law_443 (by decide) ?_
          refine lv_iadd hx hb dL_law_444 ?_
          obtain ⟨x87, hv, hf⟩ := ob_s hf
          refine hw_sl hx hb hX hbl hbA hD hv dL_law_445 ?_
          obtain ⟨b90, hv, hf⟩ := ob_s hf
          obtain ⟨e9, hk9⟩ := oK_of hv
          cases e9
          obtain ⟨r88, s89, hv, hf⟩ := ob_p hf
          refine hw_V (b := b90) (ci := 7) (T := TX6) (N := 23) (As := [.int (x86), .int (x87)]) (rest := [.int (r83)]) S hKn hRm hD (c_X6_distance l D G base E hv) (mo_X6_distance hv) hk9 rfl (by decide) gL_law_X6_distance rfl 2 (by decide +kernel) ⟨by rw [hfr]; decide, by rw [hlo]; decide⟩ rfl hl.1 (Nat.le_trans (cs_I cs_0) (by decide)) rfl dL_law_446 (fun H locs cells slots hD => ?_)
          refine W.eq (g2 := F0 m 449 ls [.int (r88), .int (r83)]) rfl ?_
          refine lv_icmp_eq (tgt := 752) hx hb dL_law_449 (by decide) (fun hc => ?_) (fun hc => ?_)
          · rw [if_pos hc] at hf
            exact hB752 _ ih (some b85) (some b90) v3 v4 _ _ _ _ _ _ hD (lv_sub hl [0, 1, 2, 3, 4] rfl) hf
          · rw [if_neg hc] at hf
            refine lv_iconst (v := (0)) hx hb dL_law_452 (by decide) ?_
            exact absurd (ret_eq hf).1 (by decide)
        rw [if_neg hc6] at hf
        by_cases hc7 : (x13 &&& (31 : Int32)) = (7 : Int32)
        · rw [if_pos hc7] at hf
          refine lv_tableIn (off := 415) (tgt := 454) hx hb dL_law_39 (by rw [hc7]; decide) (by rw [hc7]; decide) (by rw [hc7]; rfl) (by decide) ?_
          refine hw_aload_n (r := v1) hx hb dL_law_454 rfl (lv_at hl 1 rfl) ?_
          refine hw_aload_n (r := some b) hx hb dL_law_455 rfl (lv_at hl 0 rfl) ?_
          refine lv_iload hx hb dL_law_456 (lv_at hl 4 rfl) ?_
          refine lv_iconst (v := (1)) hx hb dL_law_458 (by decide) ?_
          refine lv_iadd hx hb dL_law_459 ?_
          obtain ⟨x91, hv, hf⟩ := ob_s hf
          refine hw_sl hx hb hX hbl hbA hD hv dL_law_460 ?_
          obtain ⟨b94, hv, hf⟩ := ob_s hf
          obtain ⟨e9, hk9⟩ := oK_of hv
          cases e9
          obtain ⟨r92, s93, hv, hf⟩ := ob_p hf
          refine hw_V (b := b94) (ci := 6) (T := TX5) (N := 8) (As := [.int (x91)]) (rest := []) S hKn hRm hD (c_X5_order l D G base E hv) (mo_X5_order hv) hk9 rfl (by decide) gL_law_X5_order rfl 1 (by decide +kernel) ⟨by rw [hfr]; decide, by rw [hlo]; decide⟩ rfl hl.1 (Nat.le_trans cs_0 (by decide)) rfl dL_law_461 (fun H locs cells slots hD => ?_)
          refine W.eq (g2 := F0 m 464 ls [.int (r92)]) rfl ?_
          refine hw_aload_n (r := v2) hx hb dL_law_464 rfl (lv_at hl 2 rfl) ?_
          refine hw_aload_n (r := some b) hx hb dL_law_465 rfl (lv_at hl 0 rfl) ?_
          refine lv_iload hx hb dL_law_466 (lv_at hl 4 rfl) ?_
          refine lv_iconst (v := (1)) hx hb dL_law_468 (by decide) ?_
          refine lv_iadd hx hb dL_law_469 ?_
          obtain ⟨x95, hv, hf⟩ := ob_s hf
          refine hw_sl hx hb hX hbl hbA hD hv dL_law_470 ?_
          obtain ⟨b98, hv, hf⟩ := ob_s hf
          obtain ⟨e9, hk9⟩ := oK_of hv
          cases e9
          obtain ⟨r96, s97, hv, hf⟩ := ob_p hf
          refine hw_V (b := b98) (ci := 7) (T := TX6) (N := 23) (As := [.int (x95)]) (rest := [.int (r92)]) S hKn hRm hD (c_X6_order l D G base E hv) (mo_X6_order hv) hk9 rfl (by decide) gL_law_X6_order rfl 1 (by decide +kernel) ⟨by rw [hfr]; decide, by rw [hlo]; decide⟩ rfl hl.1 (Nat.le_trans (cs_I cs_0) (by decide)) rfl dL_law_471 (fun H locs cells slots hD => ?_)
          refine W.eq (g2 := F0 m 474 ls [.int (r96), .int (r92)]) rfl ?_
          refine lv_icmp_eq (tgt := 752) hx hb dL_law_474 (by decide) (fun hc => ?_) (fun hc => ?_)
          · rw [if_pos hc] at hf
            exact hB752 _ ih (some b94) (some b98) v3 v4 _ _ _ _ _ _ hD (lv_sub hl [0, 1, 2, 3, 4] rfl) hf
          · rw [if_neg hc] at hf
            refine lv_iconst (v := (0)) hx hb dL_law_477 (by decide) ?_
            exact absurd (ret_eq hf).1 (by decide)
        rw [if_neg hc7] at hf
        by_cases hc8 : (x13 &&& (31 : Int32)) = (8 : Int32)
        · rw [if_pos hc8] at hf
          refine lv_tableIn (off := 440) (tgt := 479) hx hb dL_law_39 (by rw [hc8]; decide) (by rw [hc8]; decide) (by rw [hc8]; rfl) (by decide) ?_
          refine hw_aload_n (r := v1) hx hb dL_law_479 rfl (lv_at hl 1 rfl) ?_
          refine hw_aload_n (r := some b) hx hb dL_law_480 rfl (lv_at hl 0 rfl) ?_
          refine lv_iload hx hb dL_law_481 (lv_at hl 4 rfl) ?_
          refine lv_iconst (v := (1)) hx hb dL_law_483 (by decide) ?_
          refine lv_iadd hx hb dL_law_484 ?_
          obtain ⟨x99, hv, hf⟩ := ob_s hf
          refine hw_sl hx hb hX hbl hbA hD hv dL_law_485 ?_
          obtain ⟨b102, hv, hf⟩ := ob_s hf
          obtain ⟨e9, hk9⟩ := oK_of hv
          cases e9
          obtain ⟨r100, s101, hv, hf⟩ := ob_p hf
          refine hw_V (b := b102) (ci := 6) (T := TX5) (N := 8) (As := [.int (x99)]) (rest := []) S hKn hRm hD (c_X5_twin l D G base E hv) (mo_X5_twin hv) hk9 rfl (by decide) gL_law_X5_twin rfl 1 (by decide +kernel) ⟨by rw [hfr]; decide, by rw [hlo]; decide⟩ rfl hl.1 (Nat.le_trans cs_0 (by decide)) rfl dL_law_486 (fun H locs cells slots hD => ?_)
          refine W.eq (g2 := F0 m 489 ls [.int (r100)]) rfl ?_
          refine hw_aload_n (r := v2) hx hb dL_law_489 rfl (lv_at hl 2 rfl) ?_
          refine hw_aload_n (r := some b) hx hb dL_law_490 rfl (lv_at hl 0 rfl) ?_
          refine lv_iload hx hb dL_law_491 (lv_at hl 4 rfl) ?_
          refine lv_iconst (v := (1)) hx hb dL_law_493 (by decide) ?_
          refine lv_iadd hx hb dL_law_494 ?_
          obtain ⟨x103, hv, hf⟩ := ob_s hf
          refine hw_sl hx hb hX hbl hbA hD hv dL_law_495 ?_
          obtain ⟨b106, hv, hf⟩ := ob_s hf
          obtain ⟨e9, hk9⟩ := oK_of hv
          cases e9
          obtain ⟨r104, s105, hv, hf⟩ := ob_p hf
          refine hw_V (b := b106) (ci := 7) (T := TX6) (N := 23) (As := [.int (x103)]) (rest := [.int (r100)]) S hKn hRm hD (c_X6_twin l D G base E hv) (mo_X6_twin hv) hk9 rfl (by decide) gL_law_X6_twin rfl 1 (by decide +kernel) ⟨by rw [hfr]; decide, by rw [hlo]; decide⟩ rfl hl.1 (Nat.le_trans (cs_I cs_0) (by decide)) rfl dL_law_496 (fun H locs cells slots hD => ?_)
          refine W.eq (g2 := F0 m 499 ls [.int (r104), .int (r100)]) rfl ?_
          refine lv_icmp_eq (tgt := 752) hx hb dL_law_499 (by decide) (fun hc => ?_) (fun hc => ?_)
          · rw [if_pos hc] at hf
            exact hB752 _ ih (some b102) (some b106) v3 v4 _ _ _ _ _ _ hD (lv_sub hl [0, 1, 2, 3, 4] rfl) hf
          · rw [if_neg hc] at hf
            refine lv_iconst (v := (0)) hx hb dL_law_502 (by decide) ?_
            exact absurd (ret_eq hf).1 (by decide)
        rw [if_neg hc8] at hf
        by_cases hc9 : (x13 &&& (31 : Int32)) = (9 : Int32)
        · rw [if_pos hc9] at hf
          refine lv_tableIn (off := 465) (tgt := 504) hx hb dL_law_39 (by rw [hc9]; decide) (by rw [hc9]; decide) (by rw [hc9]; rfl) (by decide) ?_
          refine hw_aload_n (r := v1) hx hb dL_law_504 rfl (lv_at hl 1 rfl) ?_
          refine hw_aload_n (r := some b) hx hb dL_law_505 rfl (lv_at hl 0 rfl) ?_
          refine lv_iload hx hb dL_law_506 (lv_at hl 4 rfl) ?_
          refine lv_iconst (v := (1)) hx hb dL_law_508 (by decide) ?_
          refine lv_iadd hx hb dL_law_509 ?_
          obtain ⟨x107, hv, hf⟩ := ob_s hf
          refine hw_sl hx hb hX hbl hbA hD hv dL_law_510 ?_
          obtain ⟨b110, hv, hf⟩ := ob_s hf
          obtain ⟨e9, hk9⟩ := oK_of hv
          cases e9
          obtain ⟨r108, s109, hv, hf⟩ := ob_p hf
          refine hw_V (b := b110) (ci := 6) (T := TX5) (N := 8) (As := [.int (x107)]) (rest := []) S hKn hRm hD (c_X5_group l D G base E hv) (mo_X5_group hv) hk9 rfl (by decide) gL_law_X5_group rfl 1 (by decide +kernel) ⟨by rw [hfr]; decide, by rw [hlo]; decide⟩ rfl hl.1 (Nat.le_trans cs_0 (by decide)) rfl dL_law_511 (fun H locs cells slots hD => ?_)
          refine W.eq (g2 := F0 m 514 ls [.int (r108)]) rfl ?_
          refine hw_aload_n (r := v2) hx hb dL_law_514 rfl (lv_at hl 2 rfl) ?_
          refine hw_aload_n (r := some b) hx hb dL_law_515 rfl (lv_at hl 0 rfl) ?_
          refine lv_iload hx hb dL_law_516 (lv_at hl 4 rfl) ?_
          refine lv_iconst (v := (1)) hx hb dL_law_518 (by decide) ?_
          refine lv_iadd hx hb dL_law_519 ?_
          obtain ⟨x111, hv, hf⟩ := ob_s hf
          refine hw_sl hx hb hX hbl hbA hD hv dL_law_520 ?_
          obtain ⟨b114, hv, hf⟩ := ob_s hf
          obtain ⟨e9, hk9⟩ := oK_of hv
          cases e9
          obtain ⟨r112, s113, hv, hf⟩ := ob_p hf
          refine hw_V (b := b114) (ci := 7) (T := TX6) (N := 23) (As := [.int (x111)]) (rest := [.int (r108)]) S hKn hRm hD (c_X6_group l D G base E hv) (mo_X6_group hv) hk9 rfl (by decide) gL_law_X6_group rfl 1 (by decide +kernel) ⟨by rw [hfr]; decide, by rw [hlo]; decide⟩ rfl hl.1 (Nat.le_trans (cs_I cs_0) (by decide)) rfl dL_law_521 (fun H locs cells slots hD => ?_)
          refine W.eq (g2 := F0 m 524 ls [.int (r112), .int (r108)]) rfl ?_
          refine lv_icmp_eq (tgt := 752) hx hb dL_law_524 (by decide) (fun hc => ?_) (fun hc => ?_)
          · rw [if_pos hc] at hf
            exact hB752 _ ih (some b110) (some b114) v3 v4 _ _ _ _ _ _ hD (lv_sub hl [0, 1, 2, 3, 4] rfl) hf
          · rw [if_neg hc] at hf
            refine lv_iconst (v := (0)) hx hb dL_law_527 (by decide) ?_
            exact absurd (ret_eq hf).1 (by decide)
        rw [if_neg hc9] at hf
        by_cases hc10 : (x13 &&& (31 : Int32)) = (10 : Int32)
        · rw [if_pos hc10] at hf
          refine lv_tableIn (off := 490) (tgt := 529) hx hb dL_law_39 (by rw [hc10]; decide) (by rw [hc10]; decide) (by rw [hc10]; rfl) (by decide) ?_
          refine hw_aload_n (r := v1) hx hb dL_law_529 rfl (lv_at hl 1 rfl) ?_
          refine hw_aload_n (r := some b) hx hb dL_law_530 rfl (lv_at hl 0 rfl) ?_
          refine lv_iload hx hb dL_law_531 (lv_at hl 4 rfl) ?_
          refine lv_iconst (v := (1)) hx hb dL_law_533 (by decide) ?_
          refine lv_iadd hx hb dL_law_534 ?_
          obtain ⟨x115, hv, hf⟩ := ob_s hf
          refine hw_sl hx hb hX hbl hbA hD hv dL_law_535 ?_
          obtain ⟨b118, hv, hf⟩ := ob_s hf
          obtain ⟨e9, hk9⟩ := oK_of hv
          cases e9
          obtain ⟨r116, s117, hv, hf⟩ := ob_p hf
          refine hw_V (b := b118) (ci := 6) (T := TX5) (N := 8) (As := [.int (x115)]) (rest := []) S hKn hRm hD (c_X5_place l D G base E hv) (mo_X5_place hv) hk9 rfl (by decide) gL_law_X5_place rfl 1 (by decide +kernel) ⟨by rw [hfr]; decide, by rw [hlo]; decide⟩ rfl hl.1 (Nat.le_trans cs_0 (by decide)) rfl dL_law_536 (fun H locs cells slots hD => ?_)
          refine W.eq (g2 := F0 m 539 ls [.int (r116)]) rfl ?_
          refine hw_aload_n (r := v2) hx hb dL_law_539 rfl (lv_at hl 2 rfl) ?_
          refine hw_aload_n (r := some b) hx hb dL_law_540 rfl (lv_at hl 0 rfl) ?_
          refine lv_iload hx hb dL_law_541 (lv_at hl 4 rfl) ?_
          refine lv_iconst (v := (1)) hx hb dL_law_543 (by decide) ?_
          refine lv_iadd hx hb dL_law_544 ?_
          obtain ⟨x119, hv, hf⟩ := ob_s hf
          refine hw_sl hx hb hX hbl hbA hD hv dL_law_545 ?_
          obtain ⟨b122, hv, hf⟩ := ob_s hf
          obtain ⟨e9, hk9⟩ := oK_of hv
          cases e9
          obtain ⟨r120, s121, hv, hf⟩ := ob_p hf
          refine hw_V (b := b122) (ci := 7) (T := TX6) (N := 23) (As := [.int (x119)]) (rest := [.int (r116)]) S hKn hRm hD (c_X6_place l D G base E hv) (mo_X6_place hv) hk9 rfl (by decide) gL_law_X6_place rfl 1 (by decide +kernel) ⟨by rw [hfr]; decide, by rw [hlo]; decide⟩ rfl hl.1 (Nat.le_trans (cs_I cs_0) (by decide)) rfl dL_law_546 (fun H locs cells slots hD => ?_)
          refine W.eq (g2 := F0 m 549 ls [.int (r120), .int (r116)]) rfl ?_
          refine lv_icmp_eq (tgt := 752) hx hb dL_law_549 (by decide) (fun hc => ?_) (fun hc => ?_)
          · rw [if_pos hc] at hf
            exact hB752 _ ih (some b118) (some b122) v3 v4 _ _ _ _ _ _ hD (lv_sub hl [0, 1, 2, 3, 4] rfl) hf
          · rw [if_neg hc] at hf
            refine lv_iconst (v := (0)) hx hb dL_law_552 (by decide) ?_
            exact absurd (ret_eq hf).1 (by decide)
        rw [if_neg hc10] at hf
        by_cases hc11 : (x13 &&& (31 : Int32)) = (11 : Int32)
        · rw [if_pos hc11] at hf
          refine lv_tableIn (off := 515) (tgt := 554) hx hb dL_law_39 (by rw [hc11]; decide) (by rw [hc11]; decide) (by rw [hc11]; rfl) (by decide) ?_
          refine hw_aload_n (r := v1) hx hb dL_law_554 rfl (lv_at hl 1 rfl) ?_
          refine hw_aload_n (r := some b) hx hb dL_law_555 rfl (lv_at hl 0 rfl) ?_
          refine lv_iload hx hb dL_law_556 (lv_at hl 4 rfl) ?_
          refine lv_iconst (v := (1)) hx hb dL_law_558 (by decide) ?_
          refine lv_iadd hx hb dL_law_559 ?_
          obtain ⟨x123, hv, hf⟩ := ob_s hf
          refine hw_sl hx hb hX hbl hbA hD hv dL_law_560 ?_
          obtain ⟨b126, hv, hf⟩ := ob_s hf
          obtain ⟨e9, hk9⟩ := oK_of hv
          cases e9
          obtain ⟨r124, s125, hv, hf⟩ := ob_p hf
          refine hw_V (b := b126) (ci := 6) (T := TX5) (N := 8) (As := [.int (x123)]) (rest := []) S hKn hRm hD (c_X5_access l D G base E hv) (mo_X5_access hv) hk9 rfl (by decide) gL_law_X5_access rfl 1 (by decide +kernel) ⟨by rw [hfr]; decide, by rw [hlo]; decide⟩ rfl hl.1 (Nat.le_trans cs_0 (by decide)) rfl dL_law_561 (fun H locs cells slots hD => ?_)
          refine W.eq (g2 := F0 m 564 ls [.int (r124)]) rfl ?_
          refine hw_aload_n (r := v2) hx hb dL_law_564 rfl (lv_at hl 2 rfl) ?_
          refine hw_aload_n (r := some b) hx hb dL_law_565 rfl (lv_at hl 0 rfl) ?_
          refine lv_iload hx hb dL_law_566 (lv_at hl 4 rfl) ?_
          refine lv_iconst (v := (1)) hx hb dL_law_568 (by decide) ?_
          refine lv_iadd hx hb dL_law_569 ?_
          obtain ⟨x127, hv, hf⟩ := ob_s hf
          refine hw_sl hx hb hX hbl hbA hD hv dL_law_570 ?_
          obtain ⟨b130, hv, hf⟩ := ob_s hf
          obtain ⟨e9, hk9⟩ := oK_of hv
          cases e9
          obtain ⟨r128, s129, hv, hf⟩ := ob_p hf
          refine hw_V (b := b130) (ci := 7) (T := TX6) (N := 23) (As := [.int (x127)]) (rest := [.int (r124)]) S hKn hRm hD (c_X6_access l D G base E hv) (mo_X6_access hv) hk9 rfl (by decide) gL_law_X6_access rfl 1 (by decide +kernel) ⟨by rw [hfr]; decide, by rw [hlo]; decide⟩ rfl hl.1 (Nat.le_trans (cs_I cs_0) (by decide)) rfl dL_law_571 (fun H locs cells slots hD => ?_)
          refine W.eq (g2 := F0 m 574 ls [.int (r128), .int (r124)]) rfl ?_
          refine lv_icmp_eq (tgt := 752) hx hb dL_law_574 (by decide) (fun hc => ?_) (fun hc => ?_)
          · rw [if_pos hc] at hf
            exact hB752 _ ih (some b126) (some b130) v3 v4 _ _ _ _ _ _ hD (lv_sub hl [0, 1, 2, 3, 4] rfl) hf
          · rw [if_neg hc] at hf
            refine lv_iconst (v := (0)) hx hb dL_law_577 (by decide) ?_
            exact absurd (ret_eq hf).1 (by decide)
        rw [if_neg hc11] at hf
        by_cases hc12 : (x13 &&& (31 : Int32)) = (12 : Int32)
        · rw [if_pos hc12] at hf
          refine lv_tableIn (off := 540) (tgt := 579) hx hb dL_law_39 (by rw [hc12]; decide) (by rw [hc12]; decide) (by rw [hc12]; rfl) (by decide) ?_
          refine hw_aload_n (r := v1) hx hb dL_law_579 rfl (lv_at hl 1 rfl) ?_
          refine hw_aload_n (r := some b) hx hb dL_law_580 rfl (lv_at hl 0 rfl) ?_
          refine lv_iload hx hb dL_law_581 (lv_at hl 4 rfl) ?_
          refine lv_iconst (v := (1)) hx hb dL_law_583 (by decide) ?_
          refine lv_iadd hx hb dL_law_584 ?_
          obtain ⟨x131, hv, hf⟩ := ob_s hf
          refine hw_sl hx hb hX hbl hbA hD hv dL_law_585 ?_
          refine hw_aload_n (r := some b) hx hb dL_law_586 rfl (lv_at hl 0 rfl) ?_
          refine lv_iload hx hb dL_law_587 (lv_at hl 4 rfl) ?_
          refine lv_iconst (v := (2)) hx hb dL_law_589 (by decide) ?_
          refine lv_iadd hx hb dL_law_590 ?_
          obtain ⟨x132, hv, hf⟩ := ob_s hf
          refine hw_sl hx hb hX hbl hbA hD hv dL_law_591 ?_
          obtain ⟨b135, hv, hf⟩ := ob_s hf
          obtain ⟨e9, hk9⟩ := oK_of hv
          cases e9
          obtain ⟨r133, s134, hv, hf⟩ := ob_p hf
          refine hw_V (b := b135) (ci := 6) (T := TX5) (N := 8) (As := [.int (x131), .int (x132)]) (rest := []) S hKn hRm hD (c_X5_open l D G base E hv) (mo_X5_open hv) hk9 rfl (by decide) gL_law_X5_open rfl 2 (by decide +kernel) ⟨by rw [hfr]; decide, by rw [hlo]; decide⟩ rfl hl.1 (Nat.le_trans cs_0 (by decide)) rfl dL_law_592 (fun H locs cells slots hD => ?_)
          refine W.eq (g2 := F0 m 595 ls [.int (r133)]) rfl ?_
          refine hw_aload_n (r := v2) hx hb dL_law_595 rfl (lv_at hl 2 rfl) ?_
          refine hw_aload_n (r := some b) hx hb dL_law_596 rfl (lv_at hl 0 rfl) ?_
          refine lv_iload hx hb dL_law_597 (lv_at hl 4 rfl) ?_
          refine lv_iconst (v := (1)) hx hb dL_law_599 (by decide) ?_
          refine lv_iadd hx hb dL_law_600 ?_
          obtain ⟨x136, hv, hf⟩ := ob_s hf
          refine hw_sl hx hb hX hbl hbA hD hv dL_law_601 ?_
          refine hw_aload_n (r := some b) hx hb dL_law_602 rfl (lv_at hl 0 rfl) ?_
          refine lv_iload hx hb dL_law_603 (lv_at hl 4 rfl) ?_
          refine lv_iconst (v := (2)) hx hb dL_law_605 (by decide) ?_
          refine lv_iadd hx hb dL_law_606 ?_
          obtain ⟨x137, hv, hf⟩ := ob_s hf
          refine hw_sl hx hb hX hbl hbA hD hv dL_law_607 ?_
          obtain ⟨b140, hv, hf⟩ := ob_s hf
          obtain ⟨e9, hk9⟩ := oK_of hv
          cases e9
          obtain ⟨r138, s139, hv, hf⟩ := ob_p hf
          refine hw_V (b := b140) (ci := 7) (T := TX6) (N := 23) (As := [.int (x136), .int (x137)]) (rest := [.int (r133)]) S hKn hRm hD (c_X6_open l D G base E hv) (mo_X6_open hv) hk9 rfl (by decide) gL_law_X6_open rfl 2 (by decide +kernel) ⟨by rw [hfr]; decide, by rw [hlo]; decide⟩ rfl hl.1 (Nat.le_trans (cs_I cs_0) (by decide)) rfl dL_law_608 (fun H locs cells slots hD => ?_)
          refine W.eq (g2 := F0 m 611 ls [.int (r138), .int (r133)]) rfl ?_
          refine lv_icmp_eq (tgt := 752) hx hb dL_law_611 (by decide) (fun hc => ?_) (fun hc => ?_)
          · rw [if_pos hc] at hf
            exact hB752 _ ih (some b135) (some b140) v3 v4 _ _ _ _ _ _ hD (lv_sub hl [0, 1, 2, 3, 4] rfl) hf
          · rw [if_neg hc] at hf
            refine lv_iconst (v := (0)) hx hb dL_law_614 (by decide) ?_
            exact absurd (ret_eq hf).1 (by decide)
        rw [if_neg hc12] at hf
        by_cases hc13 : (x13 &&& (31 : Int32)) = (13 : Int32)
        · rw [if_pos hc13] at hf
          refine lv_tableIn (off := 577) (tgt := 616) hx hb dL_law_39 (by rw [hc13]; decide) (by rw [hc13]; decide) (by rw [hc13]; rfl) (by decide) ?_
          refine hw_aload_n (r := v1) hx hb dL_law_616 rfl (lv_at hl 1 rfl) ?_
          refine hw_aload_n (r := some b) hx hb dL_law_617 rfl (lv_at hl 0 rfl) ?_
          refine lv_iload hx hb dL_law_618 (lv_at hl 4 rfl) ?_
          refine lv_iconst (v := (1)) hx hb dL_law_620 (by decide) ?_
          refine lv_iadd hx hb dL_law_621 ?_
          obtain ⟨x141, hv, hf⟩ := ob_s hf
          refine hw_sl hx hb hX hbl hbA hD hv dL_law_622 ?_
          refine hw_aload_n (r := some b) hx hb dL_law_623 rfl (lv_at hl 0 rfl) ?_
          refine lv_iload hx hb dL_law_624 (lv_at hl 4 rfl) ?_
          refine lv_iconst (v := (2)) hx hb dL_law_626 (by decide) ?_
          refine lv_iadd hx hb dL_law_627 ?_
          obtain ⟨x142, hv, hf⟩ := ob_s hf
          refine hw_sl hx hb hX hbl hbA hD hv dL_law_628 ?_
          obtain ⟨b145, hv, hf⟩ := ob_s hf
          obtain ⟨e9, hk9⟩ := oK_of hv
          cases e9
          obtain ⟨r143, s144, hv, hf⟩ := ob_p hf
          refine hw_V (b := b145) (ci := 6) (T := TX5) (N := 8) (As := [.int (x141), .int (x142)]) (rest := []) S hKn hRm hD (c_X5_of l D G base E hv) (mo_X5_of hv) hk9 rfl (by decide) gL_law_X5_of rfl 2 (by decide +kernel) ⟨by rw [hfr]; decide, by rw [hlo]; decide⟩ rfl hl.1 (Nat.le_trans cs_0 (by decide)) rfl dL_law_629 (fun H locs cells slots hD => ?_)
          refine W.eq (g2 := F0 m 632 ls [.int (r143)]) rfl ?_
          refine hw_aload_n (r := v2) hx hb dL_law_632 rfl (lv_at hl 2 rfl) ?_
          refine hw_aload_n (r := some b) hx hb dL_law_633 rfl (lv_at hl 0 rfl) ?_
          refine lv_iload hx hb dL_law_634 (lv_at hl 4 rfl) ?_
          refine lv_iconst (v := (1)) hx hb dL_law_636 (by decide) ?_
          refine lv_iadd hx hb dL_law_637 ?_
          obtain ⟨x146, hv, hf⟩ := ob_s hf
          refine hw_sl hx hb hX hbl hbA hD hv dL_law_638 ?_
          refine hw_aload_n (r := some b) hx hb dL_law_639 rfl (lv_at hl 0 rfl) ?_
          refine lv_iload hx hb dL_law_640 (lv_at hl 4 rfl) ?_
          refine lv_iconst (v := (2)) hx hb dL_law_642 (by decide) ?_
          refine lv_iadd hx hb dL_law_643 ?_
          obtain ⟨x147, hv, hf⟩ := ob_s hf
          refine hw_sl hx hb hX hbl hbA hD hv dL_law_644 ?_
          obtain ⟨b150, hv, hf⟩ := ob_s hf
          obtain ⟨e9, hk9⟩ := oK_of hv
          cases e9
          obtain ⟨r148, s149, hv, hf⟩ := ob_p hf
          refine hw_V (b := b150) (ci := 7) (T := TX6) (N := 23) (As := [.int (x146), .int (x147)]) (rest := [.int (r143)]) S hKn hRm hD (c_X6_of l D G base E hv) (mo_X6_of hv) hk9 rfl (by decide) gL_law_X6_of rfl 2 (by decide +kernel) ⟨by rw [hfr]; decide, by rw [hlo]; decide⟩ rfl hl.1 (Nat.le_trans (cs_I cs_0) (by decide)) rfl dL_law_645 (fun H locs cells slots hD => ?_)
          refine W.eq (g2 := F0 m 648 ls [.int (r148), .int (r143)]) rfl ?_
          refine lv_icmp_eq (tgt := 752) hx hb dL_law_648 (by decide) (fun hc => ?_) (fun hc => ?_)
          · rw [if_pos hc] at hf
            exact hB752 _ ih (some b145) (some b150) v3 v4 _ _ _ _ _ _ hD (lv_sub hl [0, 1, 2, 3, 4] rfl) hf
          · rw [if_neg hc] at hf
            refine lv_iconst (v := (0)) hx hb dL_law_651 (by decide) ?_
            exact absurd (ret_eq hf).1 (by decide)
        rw [if_neg hc13] at hf
        by_cases hc14 : (x13 &&& (31 : Int32)) = (14 : Int32)
        · rw [if_pos hc14] at hf
          refine lv_tableIn (off := 614) (tgt := 653) hx hb dL_law_39 (by rw [hc14]; decide) (by rw [hc14]; decide) (by rw [hc14]; rfl) (by decide) ?_
          refine hw_aload_n (r := v1) hx hb dL_law_653 rfl (lv_at hl 1 rfl) ?_
          refine hw_aload_n (r := some b) hx hb dL_law_654 rfl (lv_at hl 0 rfl) ?_
          refine lv_iload hx hb dL_law_655 (lv_at hl 4 rfl) ?_
          refine lv_iconst (v := (1)) hx hb dL_law_657 (by decide) ?_
          refine lv_iadd hx hb dL_law_658 ?_
          obtain ⟨x151, hv, hf⟩ := ob_s hf
          refine hw_sl hx hb hX hbl hbA hD hv dL_law_659 ?_
          refine hw_aload_n (r := some b) hx hb dL_law_660 rfl (lv_at hl 0 rfl) ?_
          refine lv_iload hx hb dL_law_661 (lv_at hl 4 rfl) ?_
          refine lv_iconst (v := (2)) hx hb dL_law_663 (by decide) ?_
          refine lv_iadd hx hb dL_law_664 ?_
          obtain ⟨x152, hv, hf⟩ := ob_s hf
          refine hw_sl hx hb hX hbl hbA hD hv dL_law_665 ?_
          refine hw_aload_n (r := some b) hx hb dL_law_666 rfl (lv_at hl 0 rfl) ?_
          refine lv_iload hx hb dL_law_667 (lv_at hl 4 rfl) ?_
          refine lv_iconst (v := (3)) hx hb dL_law_669 (by decide) ?_
          refine lv_iadd hx hb dL_law_670 ?_
          obtain ⟨x153, hv, hf⟩ := ob_s hf
          refine hw_sl hx hb hX hbl hbA hD hv dL_law_671 ?_
          obtain ⟨b156, hv, hf⟩ := ob_s hf
          obtain ⟨e9, hk9⟩ := oK_of hv
          cases e9
          obtain ⟨r154, s155, hv, hf⟩ := ob_p hf
          refine hw_V (b := b156) (ci := 6) (T := TX5) (N := 8) (As := [.int (x151), .int (x152), .int (x153)]) (rest := []) S hKn hRm hD (c_X5_token l D G base E hv) (mo_X5_token hv) hk9 rfl (by decide) gL_law_X5_token rfl 3 (by decide +kernel) ⟨by rw [hfr]; decide, by rw [hlo]; decide⟩ rfl hl.1 (Nat.le_trans cs_0 (by decide)) rfl dL_law_672 (fun H locs cells slots hD => ?_)
          refine W.eq (g2 := F0 m 675 ls [.int (r154)]) rfl ?_
          refine hw_aload_n (r := v2) hx hb dL_law_675 rfl (lv_at hl 2 rfl) ?_
          refine hw_aload_n (r := some b) hx hb dL_law_676 rfl (lv_at hl 0 rfl) ?_
          refine lv_iload hx hb dL_law_677 (lv_at hl 4 rfl) ?_
          refine lv_iconst (v := (1)) hx hb dL_law_679 (by decide) ?_
          refine lv_iadd hx hb dL_law_680 ?_
          obtain ⟨x157, hv, hf⟩ := ob_s hf
          refine hw_sl hx hb hX hbl hbA hD hv dL_law_681 ?_
          refine hw_aload_n (r := some b) hx hb dL_law_682 rfl (lv_at hl 0 rfl) ?_
          refine lv_iload hx hb dL_law_683 (lv_at hl 4 rfl) ?_
          refine lv_iconst (v := (2)) hx hb dL_law_685 (by decide) ?_
          refine lv_iadd hx hb dL_law_686 ?_
          obtain ⟨x158, hv, hf⟩ := ob_s hf
          refine hw_sl hx hb hX hbl hbA hD hv dL_law_687 ?_
          refine hw_aload_n (r := some b) hx hb dL_law_688 rfl (lv_at hl 0 rfl) ?_
          refine lv_iload hx hb dL_law_689 (lv_at hl 4 rfl) ?_
          refine lv_iconst (v := (3)) hx hb dL_law_691 (by decide) ?_
          refine lv_iadd hx hb dL_law_692 ?_
          obtain ⟨x159, hv, hf⟩ := ob_s hf
          refine hw_sl hx hb hX hbl hbA hD hv dL_law_693 ?_
          obtain ⟨b162, hv, hf⟩ := ob_s hf
          obtain ⟨e9, hk9⟩ := oK_of hv
          cases e9
          obtain ⟨r160, s161, hv, hf⟩ := ob_p hf
          refine hw_V (b := b162) (ci := 7) (T := TX6) (N := 23) (As := [.int (x157), .int (x158), .int (x159)]) (rest := [.int (r154)]) S hKn hRm hD (c_X6_token l D G base E hv) (mo_X6_token hv) hk9 rfl (by decide) gL_law_X6_token rfl 3 (by decide +kernel) ⟨by rw [hfr]; decide, by rw [hlo]; decide⟩ rfl hl.1 (Nat.le_trans (cs_I cs_0) (by decide)) rfl dL_law_694 (fun H locs cells slots hD => ?_)
          refine W.eq (g2 := F0 m 697 ls [.int (r160), .int (r154)]) rfl ?_
          refine lv_icmp_eq (tgt := 752) hx hb dL_law_697 (by decide) (fun hc => ?_) (fun hc => ?_)
          · rw [if_pos hc] at hf
            exact hB752 _ ih (some b156) (some b162) v3 v4 _ _ _ _ _ _ hD (lv_sub hl [0, 1, 2, 3, 4] rfl) hf
          · rw [if_neg hc] at hf
            refine lv_iconst (v := (0)) hx hb dL_law_700 (by decide) ?_
            exact absurd (ret_eq hf).1 (by decide)
        rw [if_neg hc14] at hf
        by_cases hc15 : (x13 &&& (31 : Int32)) = (15 : Int32)
        · rw [if_pos hc15] at hf
          refine lv_tableIn (off := 663) (tgt := 702) hx hb dL_law_39 (by rw [hc15]; decide) (by rw [hc15]; decide) (by rw [hc15]; rfl) (by decide) ?_
          refine hw_aload_n (r := v1) hx hb dL_law_702 rfl (lv_at hl 1 rfl) ?_
          refine hw_aload_n (r := some b) hx hb dL_law_703 rfl (lv_at hl 0 rfl) ?_
          refine lv_iload hx hb dL_law_704 (lv_at hl 4 rfl) ?_
          refine lv_iconst (v := (1)) hx hb dL_law_706 (by decide) ?_
          refine lv_iadd hx hb dL_law_707 ?_
          obtain ⟨x163, hv, hf⟩ := ob_s hf
          refine hw_sl hx hb hX hbl hbA hD hv dL_law_708 ?_
          obtain ⟨b166, hv, hf⟩ := ob_s hf
          obtain ⟨e9, hk9⟩ := oK_of hv
          cases e9
          obtain ⟨r164, s165, hv, hf⟩ := ob_p hf
          refine hw_V (b := b166) (ci := 6) (T := TX5) (N := 8) (As := [.int (x163)]) (rest := []) S hKn hRm hD (c_X5_sum l D G base E hv) (mo_X5_sum hv) hk9 rfl (by decide) gL_law_X5_sum rfl 1 (by decide +kernel) ⟨by rw [hfr]; decide, by rw [hlo]; decide⟩ rfl hl.1 (Nat.le_trans cs_0 (by decide)) rfl dL_law_709 (fun H locs cells slots hD => ?_)
          refine W.eq (g2 := F0 m 712 ls [.int (r164)]) rfl ?_
          refine hw_aload_n (r := v2) hx hb dL_law_712 rfl (lv_at hl 2 rfl) ?_
          refine hw_aload_n (r := some b) hx hb dL_law_713 rfl (lv_at hl 0 rfl) ?_
          refine lv_iload hx hb dL_law_714 (lv_at hl 4 rfl) ?_
          refine lv_iconst (v := (1)) hx hb dL_law_716 (by decide) ?_
          refine lv_iadd hx hb dL_law_717 ?_
          obtain ⟨x167, hv, hf⟩ := ob_s hf
          refine hw_sl hx hb hX hbl hbA hD hv dL_law_718 ?_
          obtain ⟨b170, hv, hf⟩ := ob_s hf
          obtain ⟨e9, hk9⟩ := oK_of hv
          cases e9
          obtain ⟨r168, s169, hv, hf⟩ := ob_p hf
          refine hw_V (b := b170) (ci := 7) (T := TX6) (N := 23) (As := [.int (x167)]) (rest := [.int (r164)]) S hKn hRm hD (c_X6_sum l D G base E hv) (mo_X6_sum hv) hk9 rfl (by decide) gL_law_X6_sum rfl 1 (by decide +kernel) ⟨by rw [hfr]; decide, by rw [hlo]; decide⟩ rfl hl.1 (Nat.le_trans (cs_I cs_0) (by decide)) rfl dL_law_719 (fun H locs cells slots hD => ?_)
          refine W.eq (g2 := F0 m 722 ls [.int (r168), .int (r164)]) rfl ?_
          refine lv_icmp_eq (tgt := 752) hx hb dL_law_722 (by decide) (fun hc => ?_) (fun hc => ?_)
          · rw [if_pos hc] at hf
            exact hB752 _ ih (some b166) (some b170) v3 v4 _ _ _ _ _ _ hD (lv_sub hl [0, 1, 2, 3, 4] rfl) hf
          · rw [if_neg hc] at hf
            refine lv_iconst (v := (0)) hx hb dL_law_725 (by decide) ?_
            exact absurd (ret_eq hf).1 (by decide)
        rw [if_neg hc15] at hf
        by_cases hc16 : (x13 &&& (31 : Int32)) = (16 : Int32)
        · rw [if_pos hc16] at hf
          refine lv_tableIn (off := 688) (tgt := 727) hx hb dL_law_39 (by rw [hc16]; decide) (by rw [hc16]; decide) (by rw [hc16]; rfl) (by decide) ?_
          refine hw_aload_n (r := v1) hx hb dL_law_727 rfl (lv_at hl 1 rfl) ?_
          refine hw_aload_n (r := some b) hx hb dL_law_728 rfl (lv_at hl 0 rfl) ?_
          refine lv_iload hx hb dL_law_729 (lv_at hl 4 rfl) ?_
          refine lv_iconst (v := (1)) hx hb dL_law_731 (by decide) ?_
          refine lv_iadd hx hb dL_law_732 ?_
          obtain ⟨x171, hv, hf⟩ := ob_s hf
          refine hw_sl hx hb hX hbl hbA hD hv dL_law_733 ?_
          obtain ⟨b174, hv, hf⟩ := ob_s hf
          obtain ⟨e9, hk9⟩ := oK_of hv
          cases e9
          obtain ⟨r172, s173, hv, hf⟩ := ob_p hf
          refine hw_V (b := b174) (ci := 6) (T := TX5) (N := 8) (As := [.int (x171)]) (rest := []) S hKn hRm hD (c_X5_count l D G base E hv) (mo_X5_count hv) hk9 rfl (by decide) gL_law_X5_count rfl 1 (by decide +kernel) ⟨by rw [hfr]; decide, by rw [hlo]; decide⟩ rfl hl.1 (Nat.le_trans cs_0 (by decide)) rfl dL_law_734 (fun H locs cells slots hD => ?_)
          refine W.eq (g2 := F0 m 737 ls [.int (r172)]) rfl ?_
          refine hw_aload_n (r := v2) hx hb dL_law_737 rfl (lv_at hl 2 rfl) ?_
          refine hw_aload_n (r := some b) hx hb dL_law_738 rfl (lv_at hl 0 rfl) ?_
          refine lv_iload hx hb dL_law_739 (lv_at hl 4 rfl) ?_
          refine lv_iconst (v := (1)) hx hb dL_law_741 (by decide) ?_
          refine lv_iadd hx hb dL_law_742 ?_
          obtain ⟨x175, hv, hf⟩ := ob_s hf
          refine hw_sl hx hb hX hbl hbA hD hv dL_law_743 ?_
          obtain ⟨b178, hv, hf⟩ := ob_s hf
          obtain ⟨e9, hk9⟩ := oK_of hv
          cases e9
          obtain ⟨r176, s177, hv, hf⟩ := ob_p hf
          refine hw_V (b := b178) (ci := 7) (T := TX6) (N := 23) (As := [.int (x175)]) (rest := [.int (r172)]) S hKn hRm hD (c_X6_count l D G base E hv) (mo_X6_count hv) hk9 rfl (by decide) gL_law_X6_count rfl 1 (by decide +kernel) ⟨by rw [hfr]; decide, by rw [hlo]; decide⟩ rfl hl.1 (Nat.le_trans (cs_I cs_0) (by decide)) rfl dL_law_744 (fun H locs cells slots hD => ?_)
          refine W.eq (g2 := F0 m 747 ls [.int (r176), .int (r172)]) rfl ?_
          refine lv_icmp_eq (tgt := 752) hx hb dL_law_747 (by decide) (fun hc => ?_) (fun hc => ?_)
          · rw [if_pos hc] at hf
            exact hB752 _ ih (some b174) (some b178) v3 v4 _ _ _ _ _ _ hD (lv_sub hl [0, 1, 2, 3, 4] rfl) hf
          · rw [if_neg hc] at hf
            refine lv_iconst (v := (0)) hx hb dL_law_750 (by decide) ?_
            exact absurd (ret_eq hf).1 (by decide)
        rw [if_neg hc16] at hf
        have hto := tb_out (x := (x13 &&& (31 : Int32))) (n := 16) (by decide) (fun k hk => by
          have hk9 : k = 0 ∨ k = 1 ∨ k = 2 ∨ k = 3 ∨ k = 4 ∨ k = 5 ∨ k = 6 ∨ k = 7 ∨ k = 8 ∨ k = 9 ∨ k = 10 ∨ k = 11 ∨ k = 12 ∨ k = 13 ∨ k = 14 ∨ k = 15 ∨ k = 16 := by omega
          rcases hk9 with rfl | rfl | rfl | rfl | rfl | rfl | rfl | rfl | rfl | rfl | rfl | rfl | rfl | rfl | rfl | rfl | rfl
          · exact hc0
          · exact hc1
          · exact hc2
          · exact hc3
          · exact hc4
          · exact hc5
          · exact hc6
          · exact hc7
          · exact hc8
          · exact hc9
          · exact hc10
          · exact hc11
          · exact hc12
          · exact hc13
          · exact hc14
          · exact hc15
          · exact hc16)
        refine lv_tableOut (tgt := 752) hx hb dL_law_39 hto (by decide) ?_
        exact hB752 _ ih v1 v2 v3 v4 _ _ _ _ _ _ hD (lv_sub hl [0, 1, 2, 3, 4] rfl) hf
  unfold g_L_law at hf
  obtain ⟨x1, s2, hv, hf⟩ := ob_p hf
  refine hw_nw (C := RX5) (T := TX5) (N := 8) S hKn hRm hD hv rfl (by decide) inX5 tyX5 tyX5_ok wd0 wd1 wd2 dfX5 dL_law_0 (fun H hD => ?_)
  generalize cells + 1 = cells, slots + 8 = slots at hD ⊢
  refine lv_dup hx hb dL_law_3 (va_rf_cat _) ?_
  obtain ⟨b5, hv, hf⟩ := ob_s hf
  obtain ⟨e9, hk9⟩ := oK_of hv
  cases e9
  obtain ⟨r3, s4, hv, hf⟩ := ob_p hf
  refine hw_I (b := b5) (As := []) (rest := [va_rf ((some b5))]) S hKn hRm hD (c_X5_init l D G base E hv) (mo_X5_init hv) gL_law_X5_init rfl 0 wd2 wd3 wd4 rfl (by decide +kernel) ⟨by rw [hfr]; decide, by rw [hlo]; decide⟩ rfl hl.1 (Nat.le_trans (cs_A cs_0) (by decide)) rfl dL_law_4 (fun H locs cells slots hD => ?_)
  refine W.eq (g2 := F0 m 7 ls [va_rf ((some b5))]) rfl ?_
  refine hs_astore_n (i := 1) (lv' := [(1, va_rf ((some b5))), (0, .ref b)]) hx hb dL_law_7 rfl hl (by decide) (st_okS st_ok0) rfl (fun ls hl => ?_)
  obtain ⟨x6, s7, hv, hf⟩ := ob_p hf
  refine hw_nw (C := RX6) (T := TX6) (N := 23) S hKn hRm hD hv rfl (by decide) inX6 tyX6 tyX6_ok wd5 wd6 wd7 dfX6 dL_law_8 (fun H hD => ?_)
  generalize cells + 1 = cells, slots + 23 = slots at hD ⊢
  refine lv_dup hx hb dL_law_11 (va_rf_cat _) ?_
  obtain ⟨b10, hv, hf⟩ := ob_s hf
  obtain ⟨e9, hk9⟩ := oK_of hv
  cases e9
  obtain ⟨r8, s9, hv, hf⟩ := ob_p hf
  refine hw_I (b := b10) (As := []) (rest := [va_rf ((some b10))]) S hKn hRm hD (c_X6_init l D G base E hv) (mo_X6_init hv) gL_law_X6_init rfl 0 wd7 wd8 wd9 rfl (by decide +kernel) ⟨by rw [hfr]; decide, by rw [hlo]; decide⟩ rfl hl.1 (Nat.le_trans (cs_A cs_0) (by decide)) rfl dL_law_12 (fun H locs cells slots hD => ?_)
  refine W.eq (g2 := F0 m 15 ls [va_rf ((some b10))]) rfl ?_
  refine hs_astore_n (i := 2) (lv' := [(2, va_rf ((some b10))), (1, va_rf ((some b5))), (0, .ref b)]) hx hb dL_law_15 rfl hl (by decide) (st_okR (st_okS st_ok0)) rfl (fun ls hl => ?_)
  refine lv_iconst (v := (1)) hx hb dL_law_16 (by decide) ?_
  obtain ⟨x11, s12, hv, hf⟩ := ob_p hf
  refine hw_naj S hKn hRm hD hv wd10 dL_law_17 (fun H hD => ?_)
  generalize cells + 1 = cells, slots + Int32.toNatClampNeg (1 : Int32) = slots at hD ⊢
  refine hs_astore_n (i := 3) (lv' := [(3, va_rf (x11)), (2, va_rf ((some b10))), (1, va_rf ((some b5))), (0, .ref b)]) hx hb dL_law_19 rfl hl (by decide) (st_okR (st_okR (st_okS st_ok0))) rfl (fun ls hl => ?_)
  refine lv_iconst (v := (0)) hx hb dL_law_20 (by decide) ?_
  refine hs_istore (i := 4) (lv' := [(4, .int ((0 : Int32))), (3, va_rf (x11)), (2, va_rf ((some b10))), (1, va_rf ((some b5))), (0, .ref b)]) hx hb dL_law_21 hl (by decide) (st_okR (st_okR (st_okR (st_okS st_ok0)))) rfl (fun ls hl => ?_)
  exact hL23 _ (some b5) (some b10) x11 (0 : Int32) _ _ _ _ _ _ hD (lv_sub hl [4, 3, 2, 1, 0] rfl) hf
