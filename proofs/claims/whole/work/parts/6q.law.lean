/-! THE LAW: every script comes to its end with 1 -/
theorem wp_sl {β : Type} {P : β → PS → Prop} {f : Int32 → Option (β × PS)} {L j k : Nat} {xs : Nat → Int32} {i : Int32} (hi : i = nI (j + k)) (hL : j + k < L) (hl : L ≤ 2560) (w : wp (f (xs (j + k))) P) : wp ((oSl L xs i).bind f) P := by
  have hc : (nI (j + k)).toNatClampNeg = j + k := nI_clamp (by omega)
  have e : oSl L xs i = some (xs (j + k)) := by
    subst hi
    unfold oSl
    rw [hc, if_neg]
    rintro (z | z)
    · exact nI_pos (by omega) z
    · omega
  rw [e]
  exact w
def LI (E : PE) (A Ma : Nat → Nat) (m la t : Nat) (σ : PS) (st : AS) : Prop := CIs E σ A st t ∧ (∃ I X, MB E σ σ m Ma I X ∧ MV st I X) ∧ AST st ∧ (sK σ la = some 101 ∧ sL σ la = 1) ∧ t ≤ 30
section LAW
variable {E : PE} {σ τ : PS} {A Ma : Nat → Nat} {m la t n : Nat} {kd : Nat → Nat} {bs : Nat → List Nat} {S : Option PK} {I : Nat → Int32} {X : Nat → Nat → Int32} {st : AS}
theorem MB.keep (h : MB E σ σ m Ma I X) (hf : Fc E σ τ) : MB E τ τ m Ma I X := by
  obtain ⟨-, -, hk, hA, hI, hX⟩ := h
  obtain ⟨dm, du⟩ := hf.2.2 m 7 hk (by decide) (fun z => z 7 hk rfl)
  refine ⟨Fo.rf hf.wf, ⟨rfl, rfl, rfl⟩, hf.k hk, fun k hk' => ?_, fun k => by rw [dm.2.1]; exact hI k, fun k hk' i => ?_⟩
  · obtain ⟨a1, a2, a3⟩ := hA k hk'
    have da := du k (Ma k) 100 a1 a2 (Nat.le_refl _)
    exact ⟨by rw [dm.2.2.1]; exact a1, hf.k a2, by rw [da.1]; exact a3⟩
  · obtain ⟨a1, a2, a3⟩ := hA k hk'
    have da := du k (Ma k) 100 a1 a2 (Nat.le_refl _)
    rw [da.2.2.2.1]
    exact hX k hk' i
theorem CI.ko {B : Nat → Prop} (h : CI E σ A n kd bs S t) (hf : Fo E σ τ B) (hB : ∀ b k, B b → sK σ b = some k → k = 7) : CI E τ A n kd bs S t := by
  obtain ⟨F, Es, h⟩ := h
  refine ⟨F, Es, ?_⟩
  cases S with
  | none =>
    obtain ⟨h0, tw, Gl, P, h1, ⟨LL, GA, gd, c, h2⟩, h3⟩ := h
    exact ⟨h0, tw, Gl, P, h1, ⟨LL, GA, gd, c.ko hf hB, h2⟩, h3⟩
  | some s =>
    obtain ⟨h0, h7, G, P, Ln, ⟨LL, GA, gd, c, h2⟩, h3⟩ := h
    exact ⟨h0, h7, G, P, Ln, ⟨LL, GA, gd, c.ko hf hB, h2⟩, h3⟩
/-- behind both calls -/
theorem LI.of {st' : AS} {t' : Nat} {I' : Nat → Int32} {X' : Nat → Nat → Int32} {s1 s2 : PS} (hla : sK σ la = some 101 ∧ sL σ la = 1) (hm : sK s1 m = some 7) (hf : Fc E σ s1) (hc : CIs E s1 A st' t') (ht : t' ≤ 30) (hA : AST st') (hM : MB E s1 s2 m Ma I' X') (hv : MV st' I' X') : LI E A Ma m la t' s2 st' := by
  have hk2 := hM.1.k (hf.k hla.1)
  refine ⟨CI.ko hc hM.1 (fun b k z hb => ?_), ⟨I', X', hM.re, hv⟩, hA, ⟨hk2, ?_⟩, ht⟩
  · have z : b = m := z
    rw [z] at hb
    exact Option.some.inj (hb.symm.trans hm)
  · rw [(hM.1.j (hf.k hla.1)).1, (hf.j hla.1).1]
    exact hla.2
theorem CI.kx (h : CI E σ A n kd bs S t) : sK σ (A 0) = some 6 := by obtain ⟨F, Es, LL, GA, gd, tw, c, -⟩ := h.rd; exact c.kx
theorem lw_cmp {L j : Nat} (hL : L ≤ 2560) (hj : j ≤ 10000) : (nI L - (5 : Int32) < nI j) ↔ L < j + 5 := by
  by_cases z : 5 ≤ L
  · have e : nI L - (5 : Int32) = nI (L - 5) := pk_sub (a := L) (b := 5) z
    rw [e, nI_ltI (by omega) (by omega)]
    omega
  · have h1 : nI L - (5 : Int32) < 0 := by
      have hc : L = 0 ∨ L = 1 ∨ L = 2 ∨ L = 3 ∨ L = 4 := by omega
      rcases hc with c | c | c | c | c <;> rw [c] <;> decide
    have h2 : (0 : Int32) ≤ nI j := nI_pos' (by omega)
    exact ⟨fun _ => by omega, fun _ => Int32.lt_of_lt_of_le h1 h2⟩
theorem lg_refl (x : Int64) : lg_cmp x x = 0 := by unfold lg_cmp; simp
/-- what the law has used when j calls are done -/
def RmL (E : PE) (σ0 σ : PS) (j t : Nat) : Prop := sN σ ≤ sN σ0 + 200 * j + 6 * t ∧ sS σ ≤ sS σ0 + 9800 * j + 1212 * t
theorem RmL.step {σ0 : PS} {j t' u : Nat} (h : RmL E σ0 σ j t) (g : Bg σ τ t t' u) (hu : u ≤ 200) : RmL E σ0 τ (j + 1) t' := by
  obtain ⟨h1, h2⟩ := h
  obtain ⟨-, g1, g2, -⟩ := g
  exact ⟨by omega, by omega⟩
theorem sp_law {L : Nat} {xs : Nat → Int32} {σ0 : PS} (hE : 10000 ≤ E.1) (hL : L ≤ 2560) (hr1 : sN σ0 + 110000 ≤ E.2.1) (hr2 : sS σ0 + 5200000 ≤ E.2.2.1) : ∀ (c f j t : Nat) (σ : PS) (st : AS), j + c = 512 → c < f → LI E A Ma m la t σ st → RmL E σ0 σ j t →
    wp (f_L_law_L23 E xs L f (some (A 0)) (some m) (some la) (nI (5 * j)) σ) (fun r τ => r = 1 ∧ ∃ j t, j ≤ 512 ∧ t ≤ 30 ∧ RmL E σ0 τ j t)
  | c, f, j, t, σ, st, hj, hf, hI, hrm => by
    obtain ⟨f, rfl⟩ : ∃ z, f = z + 1 := ⟨f - 1, by omega⟩
    rw [f_L_law_L23]
    by_cases zL : L < 5 * j + 5
    · exact wp_t ((lw_cmp hL (by omega)).mpr zL) (wp_ret ⟨rfl, j, t, by omega, hI.2.2.2.2, hrm⟩)
    refine wp_f (fun y => zL ((lw_cmp hL (by omega)).mp y)) (wp_sl (j := 5 * j) (k := 0) rfl (by omega) hL ?_)
    obtain ⟨c, rfl⟩ : ∃ z, c = z + 1 := ⟨c - 1, by omega⟩
    obtain ⟨n, kd, bs, S⟩ := st
    obtain ⟨hci, ⟨I, X, hmb, hmv⟩, hA, hla, ht⟩ := hI
    have hci : CI E σ A n kd bs S t := hci
    have hn : n ≤ 30 := hA.1.1
    have hE1 : 1000 ≤ E.1 := by omega
    have hE2 : 2000 ≤ E.1 := by omega
    obtain ⟨q1, q2⟩ := id hrm
    have hr1' := hr1
    have hr2' := hr2
    have hr1 : sN σ + 1000 ≤ E.2.1 := by omega
    have hr2 : sS σ + 60000 ≤ E.2.2.1 := by omega
    have hO : Ok E σ := ⟨by omega, by omega⟩
    have hkx := hci.kx
    have hkm := hmb.k
    have hw := hci.wf
    have o1 : nI (5 * j) + (1 : Int32) = nI (5 * j + 1) := nI_1 _
    have o2 : nI (5 * j) + (2 : Int32) = nI (5 * j + 2) := nI_add _ 2
    have o3 : nI (5 * j) + (3 : Int32) = nI (5 * j + 3) := nI_add _ 3
    have o4 : nI (5 * j) + (4 : Int32) = nI (5 * j + 4) := nI_add _ 4
    have o5 : nI (5 * j) + (5 : Int32) = nI (5 * (j + 1)) := nI_add _ 5
    have next : ∀ (s2 : PS) (st' : AS) (t' : Nat), LI E A Ma m la t' s2 st' → Bg σ s2 t t' 200 → wp (f_L_law_B752 E xs L (f_L_law_L23 E xs L f) (some (A 0)) (some m) (some la) (nI (5 * j)) s2) (fun r τ => r = 1 ∧ ∃ j t, j ≤ 512 ∧ t ≤ 30 ∧ RmL E σ0 τ j t) := by
      intro s2 st' t' hI' hB
      unfold f_L_law_B752
      rw [o5]
      exact sp_law hE hL hr1' hr2' c f (j + 1) t' s2 st' (by omega) (by omega) hI' (hrm.step hB (Nat.le_refl _))
    have rdn : ∀ (s2 : PS) (I' : Nat → Int32) (X' : Nat → Nat → Int32), MB E σ s2 m Ma I' X' → MV (n, kd, bs, S) I' X' → LI E A Ma m la t s2 (n, kd, bs, S) ∧ Bg σ s2 t t 200 := by
      intro s2 I' X' h1 h2
      refine ⟨LI.of hla hkm (Fc.rf hw) hci ht hA h1 h2, ?_⟩
      have e := h1.2.1
      exact ⟨⟨by omega, by omega⟩, by omega, by omega, fun z => z⟩
    generalize hop : xs (5 * j + 0) &&& (31 : Int32) = op
    by_cases c0 : op = (0 : Int32)
    · refine wp_t c0 (wp_sl (j := 5 * j) (k := 1) o1 (by omega) hL (wp_K rfl hkx (wp_bd (sp_entry hA hci hr1 hr2 (xs (5 * j + 1))) ?_)))
      rintro r s1 ⟨rfl, hFc, t1, hc1, hB⟩
      have hm1 := hmb.keep hFc
      have hO1 : Ok E s1 := ⟨by have := hB.2.1; have := hB.2.2.2 ht; omega, by have := hB.2.2.1; have := hB.2.2.2 ht; omega⟩
      refine wp_sl (j := 5 * j) (k := 1) o1 (by omega) hL (wp_K rfl hm1.k (wp_bd (sp_entry6  hO1 hA hm1 hmv (xs (5 * j + 1))) ?_))
      rintro r s2 ⟨rfl, I2, X2, hm2, hv2⟩
      have e2 := hm2.2.1
      exact wp_t rfl (next s2 _ t1 (LI.of hla hm1.k hFc hc1 (hB.2.2.2 ht) (hA.entry _) hm2 hv2) (by obtain ⟨⟨b1, b2⟩, b3, b4, b5⟩ := hB; exact ⟨⟨by omega, by omega⟩, by omega, by omega, b5⟩))
    refine wp_f c0 ?_
    by_cases c1 : op = (1 : Int32)
    · refine wp_t c1 (wp_sl (j := 5 * j) (k := 1) o1 (by omega) hL (wp_sl (j := 5 * j) (k := 2) o2 (by omega) hL (wp_sl (j := 5 * j) (k := 3) o3 (by omega) hL (wp_sl (j := 5 * j) (k := 4) o4 (by omega) hL (wp_K rfl hkx (wp_bd (sp_octets hE1 hA hci hr1 hr2 (xs (5 * j + 1)) (xs (5 * j + 2)) _) ?_))))))
      rintro r s1 ⟨rfl, hFc, t1, hc1, hB⟩
      have hm1 := hmb.keep hFc
      have hO1 : Ok E s1 := ⟨by have := hB.2.1; have := hB.2.2.2 ht; omega, by have := hB.2.2.1; have := hB.2.2.2 ht; omega⟩
      refine wp_sl (j := 5 * j) (k := 1) o1 (by omega) hL (wp_sl (j := 5 * j) (k := 2) o2 (by omega) hL (wp_sl (j := 5 * j) (k := 3) o3 (by omega) hL (wp_sl (j := 5 * j) (k := 4) o4 (by omega) hL (wp_K rfl hm1.k (wp_bd (sp_octets6 hE1 hO1 hA hm1 hmv (xs (5 * j + 1)) (xs (5 * j + 2)) _) ?_)))))
      rintro r s2 ⟨rfl, I2, X2, hm2, hv2⟩
      have e2 := hm2.2.1
      exact wp_t rfl (next s2 _ t1 (LI.of hla hm1.k hFc hc1 (hB.2.2.2 ht) (hA.octets _ _ _) hm2 hv2) (by obtain ⟨⟨b1, b2⟩, b3, b4, b5⟩ := hB; exact ⟨⟨by omega, by omega⟩, by omega, by omega, b5⟩))
    refine wp_f c1 ?_
    by_cases c2 : op = (2 : Int32)
    · refine wp_t c2 (wp_sl (j := 5 * j) (k := 1) o1 (by omega) hL (wp_sl (j := 5 * j) (k := 2) o2 (by omega) hL (wp_sl (j := 5 * j) (k := 3) o3 (by omega) hL (wp_K rfl hkx (wp_bd (sp_change hE1 hA hci hr1 hr2 (xs (5 * j + 1)) (xs (5 * j + 2)) (xs (5 * j + 3))) ?_)))))
      rintro r s1 ⟨rfl, hFc, t1, hc1, hB⟩
      have hm1 := hmb.keep hFc
      have hO1 : Ok E s1 := ⟨by have := hB.2.1; have := hB.2.2.2 ht; omega, by have := hB.2.2.1; have := hB.2.2.2 ht; omega⟩
      refine wp_sl (j := 5 * j) (k := 1) o1 (by omega) hL (wp_sl (j := 5 * j) (k := 2) o2 (by omega) hL (wp_sl (j := 5 * j) (k := 3) o3 (by omega) hL (wp_K rfl hm1.k (wp_bd (sp_change6 hE hO1 hA hm1 hmv (xs (5 * j + 1)) (xs (5 * j + 2)) (xs (5 * j + 3))) ?_))))
      rintro r s2 ⟨rfl, I2, X2, hm2, hv2⟩
      have e2 := hm2.2.1
      exact wp_t rfl (next s2 _ t1 (LI.of hla hm1.k hFc hc1 (hB.2.2.2 ht) (hA.change _ _ _) hm2 hv2) (by obtain ⟨⟨b1, b2⟩, b3, b4, b5⟩ := hB; exact ⟨⟨by omega, by omega⟩, by omega, by omega, b5⟩))
    refine wp_f c2 ?_
    by_cases c3 : op = (3 : Int32)
    · refine wp_t c3 (wp_sl (j := 5 * j) (k := 1) o1 (by omega) hL (wp_sl (j := 5 * j) (k := 2) o2 (by omega) hL (wp_K rfl hkx (wp_bd (sp_pack hE1 hA hci ht hr1 hr2 (xs (5 * j + 1)) (xs (5 * j + 2))) ?_))))
      rintro r s1 ⟨rfl, hFc, t1, hc1, hB⟩
      have hm1 := hmb.keep hFc
      have hO1 : Ok E s1 := ⟨by have := hB.2.1; have := hB.2.2.2 ht; omega, by have := hB.2.2.1; have := hB.2.2.2 ht; omega⟩
      refine wp_sl (j := 5 * j) (k := 1) o1 (by omega) hL (wp_sl (j := 5 * j) (k := 2) o2 (by omega) hL (wp_K rfl hm1.k (wp_bd (sp_pack6 hE hO1 hA hm1 hmv (xs (5 * j + 1)) (xs (5 * j + 2))) ?_)))
      rintro r s2 ⟨rfl, I2, X2, hm2, hv2⟩
      have e2 := hm2.2.1
      exact wp_t rfl (next s2 _ t1 (LI.of hla hm1.k hFc hc1 (hB.2.2.2 ht) (hA.pack _ _) hm2 hv2) (by obtain ⟨⟨b1, b2⟩, b3, b4, b5⟩ := hB; exact ⟨⟨by omega, by omega⟩, by omega, by omega, b5⟩))
    refine wp_f c3 ?_
    by_cases c4 : op = (4 : Int32)
    · refine wp_t c4 (wp_sl (j := 5 * j) (k := 1) o1 (by omega) hL (wp_sl (j := 5 * j) (k := 2) o2 (by omega) hL (wp_K rfl hkx (wp_rd (sp_common hE1 hn hO hci (xs (5 * j + 1)) (xs (5 * j + 2))) ?_))))
      refine wp_sl (j := 5 * j) (k := 1) o1 (by omega) hL (wp_sl (j := 5 * j) (k := 2) o2 (by omega) hL (wp_K rfl hkm (wp_bd (sp_common6 hE1 hO hA hmb hmv (xs (5 * j + 1)) (xs (5 * j + 2))) ?_)))
      rintro r s2 ⟨rfl, I2, X2, hm2, hv2⟩
      exact wp_t rfl (next s2 _ t (rdn s2 I2 X2 hm2 hv2).1 (rdn s2 I2 X2 hm2 hv2).2)
    refine wp_f c4 ?_
    by_cases c5 : op = (5 : Int32)
    · have hls := sp_Lshare (v := xs (5 * j + 1)) (w := xs (5 * j + 2)) hE1 hA hci hla.1 hla.2 (by omega) (by omega)
      refine wp_t c5 (wp_sl (j := 5 * j) (k := 1) o1 (by omega) hL (wp_sl (j := 5 * j) (k := 2) o2 (by omega) hL (?_)))
      cases ha : aShare (xs (5 * j + 1)) (xs (5 * j + 2)) (n, kd, bs, S) with
      | some a =>
        rw [ha] at hls
        have hci2 : CI E (pJ la 0 a.toInt64 σ) A n kd bs S t := hci
        have hmb2 : MB E (pJ la 0 a.toInt64 σ) (pJ la 0 a.toInt64 σ) m Ma I X := ⟨Fo.rf hci2.wf, ⟨rfl, rfl, rfl⟩, hmb.2.2.1, hmb.2.2.2.1, hmb.2.2.2.2.1, hmb.2.2.2.2.2⟩
        have hO2 : Ok E (pJ la 0 a.toInt64 σ) := hO
        refine wp_rd hls (wp_sl (j := 5 * j) (k := 1) o1 (by omega) hL (wp_sl (j := 5 * j) (k := 2) o2 (by omega) hL (wp_K rfl hmb2.k (wp_bd (sp_share6 hE1 hO2 hA hmb2 hmv (xs (5 * j + 1)) (xs (5 * j + 2))) ?_))))
        rintro r s2 ⟨I2, X2, hm2, hv2, ⟨a', ha', rfl, h17⟩ | ⟨ha', h17⟩⟩
        · rw [ha] at ha'
          cases ha'
          refine wp_K rfl hm2.k (wp_rd (sp_thrown hO2 hm2) ?_)
          rw [h17]
          have hk2 : sK s2 la = some 101 := hm2.1.k hla.1
          have hl2 : sL s2 la = 1 := by rw [(hm2.1.j hla.1).1]; exact hla.2
          have ej : oJl (some la) (0 : Int32) s2 = some a.toInt64 := by
            unfold oJl oX
            rw [oK_ok hk2]
            show ((if (0 : Int32) < 0 ∨ sL s2 la ≤ (0 : Int32).toNatClampNeg then none else some la).bind fun b => some (sJ s2 b (0 : Int32).toNatClampNeg)) = _
            rw [hl2, hm2.2.1.2.2]
            show some (if la = la ∧ 0 = 0 then a.toInt64 else sJ σ la 0) = _
            rw [if_pos ⟨rfl, rfl⟩]
          refine wp_t rfl (wp_t rfl ?_)
          rw [ej]
          refine wp_t (lg_refl _) ?_
          unfold f_L_law_B414
          have e3 : sN s2 = sN σ := hm2.2.1.1
          have e4 : sS s2 = sS σ := hm2.2.1.2.1
          refine next s2 _ t ⟨CI.ko hci2 hm2.1 (fun b k z hb => ?_), ⟨I2, X2, hm2.re, hv2⟩, hA, ⟨hk2, hl2⟩, ht⟩ ⟨⟨by omega, by omega⟩, by omega, by omega, fun z => z⟩
          have z : b = m := z
          rw [z] at hb
          exact Option.some.inj (hb.symm.trans hkm)
        · rw [ha] at ha'; cases ha'
      | none =>
        rw [ha] at hls
        have hci2 : CI E (pT σ) A n kd bs S t := hci.ko (Fo.pT (A := fun _ => False) hw) (fun _ _ z => z.elim)
        have hmb2 : MB E (pT σ) (pT σ) m Ma I X := hmb.keep (Fo.pT hw)
        have hO2 : Ok E (pT σ) := ⟨by show sN σ + 1 ≤ _; omega, by show sS σ + 6 ≤ _; omega⟩
        refine wp_rd hls (wp_sl (j := 5 * j) (k := 1) o1 (by omega) hL (wp_sl (j := 5 * j) (k := 2) o2 (by omega) hL (wp_K rfl hmb2.k (wp_bd (sp_share6 hE1 hO2 hA hmb2 hmv (xs (5 * j + 1)) (xs (5 * j + 2))) ?_))))
        rintro r s2 ⟨I2, X2, hm2, hv2, ⟨a', ha', rfl, h17⟩ | ⟨ha', h17⟩⟩
        · rw [ha] at ha'; cases ha'
        · refine wp_K rfl hm2.k (wp_rd (sp_thrown hO2 hm2) ?_)
          rw [h17]
          refine wp_t rfl (wp_f ne01 ?_)
          unfold f_L_law_B414
          have e2 := hm2.2.1
          have e3 : sN s2 = sN σ + 1 := e2.1
          have e4 : sS s2 = sS σ + 6 := e2.2.1
          exact next s2 _ t (LI.of (s1 := pT σ) (st' := (n, kd, bs, S)) hla hkm (Fo.pT hw) hci2 ht hA hm2 hv2) ⟨⟨by omega, by omega⟩, by omega, by omega, fun z => z⟩
    refine wp_f c5 ?_
    by_cases c6 : op = (6 : Int32)
    · refine wp_t c6 (wp_sl (j := 5 * j) (k := 1) o1 (by omega) hL (wp_sl (j := 5 * j) (k := 2) o2 (by omega) hL (wp_K rfl hkx (wp_rd (sp_distance hE1 hn hO hci (xs (5 * j + 1)) (xs (5 * j + 2))) ?_))))
      refine wp_sl (j := 5 * j) (k := 1) o1 (by omega) hL (wp_sl (j := 5 * j) (k := 2) o2 (by omega) hL (wp_K rfl hkm (wp_bd (sp_distance6 hE1 hO hA hmb hmv (xs (5 * j + 1)) (xs (5 * j + 2))) ?_)))
      rintro r s2 ⟨rfl, I2, X2, hm2, hv2⟩
      exact wp_t rfl (next s2 _ t (rdn s2 I2 X2 hm2 hv2).1 (rdn s2 I2 X2 hm2 hv2).2)
    refine wp_f c6 ?_
    by_cases c7 : op = (7 : Int32)
    · refine wp_t c7 (wp_sl (j := 5 * j) (k := 1) o1 (by omega) hL (wp_K rfl hkx (wp_rd (sp_order hE1 hA hO hci (xs (5 * j + 1))) ?_)))
      refine wp_sl (j := 5 * j) (k := 1) o1 (by omega) hL (wp_K rfl hkm (wp_rd (sp_order6  hO hA hmb hmv (xs (5 * j + 1))) ?_))
      exact wp_t rfl (next σ _ t (rdn σ I X hmb hmv).1 (rdn σ I X hmb hmv).2)
    refine wp_f c7 ?_
    by_cases c8 : op = (8 : Int32)
    · refine wp_t c8 (wp_sl (j := 5 * j) (k := 1) o1 (by omega) hL (wp_K rfl hkx (wp_rd (sp_twin hn hO hci (xs (5 * j + 1))) ?_)))
      refine wp_sl (j := 5 * j) (k := 1) o1 (by omega) hL (wp_K rfl hkm (wp_rd (sp_twin6  hO hA hmb hmv (xs (5 * j + 1))) ?_))
      exact wp_t rfl (next σ _ t (rdn σ I X hmb hmv).1 (rdn σ I X hmb hmv).2)
    refine wp_f c8 ?_
    by_cases c9 : op = (9 : Int32)
    · refine wp_t c9 (wp_sl (j := 5 * j) (k := 1) o1 (by omega) hL (wp_K rfl hkx (wp_rd (sp_group hE1 hA hO hci (xs (5 * j + 1))) ?_)))
      refine wp_sl (j := 5 * j) (k := 1) o1 (by omega) hL (wp_K rfl hkm (wp_rd (sp_group6 hE1 hO hA hmb hmv (xs (5 * j + 1))) ?_))
      exact wp_t rfl (next σ _ t (rdn σ I X hmb hmv).1 (rdn σ I X hmb hmv).2)
    refine wp_f c9 ?_
    by_cases c10 : op = (10 : Int32)
    · refine wp_t c10 (wp_sl (j := 5 * j) (k := 1) o1 (by omega) hL (wp_K rfl hkx (wp_rd (sp_place hE1 hA hO hci (xs (5 * j + 1))) ?_)))
      refine wp_sl (j := 5 * j) (k := 1) o1 (by omega) hL (wp_K rfl hkm (wp_rd (sp_place6 hE1 hO hA hmb hmv (xs (5 * j + 1))) ?_))
      exact wp_t rfl (next σ _ t (rdn σ I X hmb hmv).1 (rdn σ I X hmb hmv).2)
    refine wp_f c10 ?_
    by_cases c11 : op = (11 : Int32)
    · refine wp_t c11 (wp_sl (j := 5 * j) (k := 1) o1 (by omega) hL (wp_K rfl hkx (wp_rd (sp_access hE1 hA hO hci (xs (5 * j + 1))) ?_)))
      refine wp_sl (j := 5 * j) (k := 1) o1 (by omega) hL (wp_K rfl hkm (wp_rd (sp_access6 hE1 hO hA hmb hmv (xs (5 * j + 1))) ?_))
      exact wp_t rfl (next σ _ t (rdn σ I X hmb hmv).1 (rdn σ I X hmb hmv).2)
    refine wp_f c11 ?_
    by_cases c12 : op = (12 : Int32)
    · refine wp_t c12 (wp_sl (j := 5 * j) (k := 1) o1 (by omega) hL (wp_sl (j := 5 * j) (k := 2) o2 (by omega) hL (wp_K rfl hkx (wp_rd (sp_open hE1 hA hO hci (xs (5 * j + 1)) (xs (5 * j + 2))) ?_))))
      refine wp_sl (j := 5 * j) (k := 1) o1 (by omega) hL (wp_sl (j := 5 * j) (k := 2) o2 (by omega) hL (wp_K rfl hkm (wp_bd (sp_open6 hE1 hO hA hmb hmv (xs (5 * j + 1)) (xs (5 * j + 2))) ?_)))
      rintro r s2 ⟨rfl, I2, X2, hm2, hv2⟩
      exact wp_t rfl (next s2 _ t (rdn s2 I2 X2 hm2 hv2).1 (rdn s2 I2 X2 hm2 hv2).2)
    refine wp_f c12 ?_
    by_cases c13 : op = (13 : Int32)
    · refine wp_t c13 (wp_sl (j := 5 * j) (k := 1) o1 (by omega) hL (wp_sl (j := 5 * j) (k := 2) o2 (by omega) hL (wp_K rfl hkx (wp_rd (sp_of hE1 hA hO hci (xs (5 * j + 1)) (xs (5 * j + 2))) ?_))))
      refine wp_sl (j := 5 * j) (k := 1) o1 (by omega) hL (wp_sl (j := 5 * j) (k := 2) o2 (by omega) hL (wp_K rfl hkm (wp_rd (sp_of6 hE2 hO hA hmb hmv (xs (5 * j + 1)) (xs (5 * j + 2))) ?_)))
      exact wp_t rfl (next σ _ t (rdn σ I X hmb hmv).1 (rdn σ I X hmb hmv).2)
    refine wp_f c13 ?_
    by_cases c14 : op = (14 : Int32)
    · refine wp_t c14 (wp_sl (j := 5 * j) (k := 1) o1 (by omega) hL (wp_sl (j := 5 * j) (k := 2) o2 (by omega) hL (wp_sl (j := 5 * j) (k := 3) o3 (by omega) hL (wp_K rfl hkx (wp_rd (sp_token hE1 hA hO hci (xs (5 * j + 1)) (xs (5 * j + 2)) (xs (5 * j + 3))) ?_)))))
      refine wp_sl (j := 5 * j) (k := 1) o1 (by omega) hL (wp_sl (j := 5 * j) (k := 2) o2 (by omega) hL (wp_sl (j := 5 * j) (k := 3) o3 (by omega) hL (wp_K rfl hkm (wp_rd (sp_token6 hE1 hO hA hmb hmv (xs (5 * j + 1)) (xs (5 * j + 2)) (xs (5 * j + 3))) ?_))))
      exact wp_t rfl (next σ _ t (rdn σ I X hmb hmv).1 (rdn σ I X hmb hmv).2)
    refine wp_f c14 ?_
    by_cases c15 : op = (15 : Int32)
    · refine wp_t c15 (wp_sl (j := 5 * j) (k := 1) o1 (by omega) hL (wp_K rfl hkx (wp_bd (sp_sum hE1 hA hci hr1 hr2 (xs (5 * j + 1))) ?_)))
      rintro r s1 ⟨rfl, hFc, t1, hc1, hB⟩
      have hm1 := hmb.keep hFc
      have hO1 : Ok E s1 := ⟨by have := hB.2.1; have := hB.2.2.2 ht; omega, by have := hB.2.2.1; have := hB.2.2.2 ht; omega⟩
      refine wp_sl (j := 5 * j) (k := 1) o1 (by omega) hL (wp_K rfl hm1.k (wp_bd (sp_sum6 hE1 hO1 hA hm1 hmv (xs (5 * j + 1))) ?_))
      rintro r s2 ⟨rfl, I2, X2, hm2, hv2⟩
      have e2 := hm2.2.1
      exact wp_t rfl (next s2 _ t1 (LI.of hla hm1.k hFc hc1 (hB.2.2.2 ht) (hA) hm2 hv2) (by obtain ⟨⟨b1, b2⟩, b3, b4, b5⟩ := hB; exact ⟨⟨by omega, by omega⟩, by omega, by omega, b5⟩))
    refine wp_f c15 ?_
    by_cases c16 : op = (16 : Int32)
    · refine wp_t c16 (wp_sl (j := 5 * j) (k := 1) o1 (by omega) hL (wp_K rfl hkx (wp_rd (sp_count hE1 hA hO hci (xs (5 * j + 1))) ?_)))
      refine wp_sl (j := 5 * j) (k := 1) o1 (by omega) hL (wp_K rfl hkm (wp_rd (sp_count6 hE2 hO hA hmb hmv (xs (5 * j + 1))) ?_))
      exact wp_t rfl (next σ _ t (rdn σ I X hmb hmv).1 (rdn σ I X hmb hmv).2)
    refine wp_f c16 ?_
    exact next σ _ t (rdn σ I X hmb hmv).1 (rdn σ I X hmb hmv).2
termination_by c => c
theorem law_pure {L : Nat} {xs : Nat → Int32} {σ0 : PS} (hE : 10000 ≤ E.1) (hL : L ≤ 2560) (hw : Wf E σ0) (h1 : sN σ0 + 162966 ≤ E.2.1) (h2 : sS σ0 + 8607208 ≤ E.2.2.1) : ∃ τ, g_L_law E xs L σ0 = some (1, τ) ∧ sN τ ≤ sN σ0 + 162966 ∧ sS τ ≤ sS σ0 + 8607208 := by
  have key : wp (g_L_law E xs L σ0) (fun r τ => r = 1 ∧ sN τ ≤ sN σ0 + 162966 ∧ sS τ ≤ sS σ0 + 8607208) := by
    unfold g_L_law
    refine wp_nw (by omega) (by omega) ?_
    refine wp_K rfl sK_new (wp_bd (sp_X5init (E := E) (σ := pN 6 8 σ0) (x := sN σ0) (hw.pN 6 8) sK_new (by show sN σ0 + 1 + 10 ≤ _; omega) (by show sS σ0 + 8 + 1367 ≤ _; omega) (fun _ => 0) (fun _ => [])) ?_)
    rintro _ s4 ⟨⟨A, hA0, hc⟩, w4, f4, g4⟩
    have n4 : sN s4 ≤ sN σ0 + 11 := by have := g4.2.2.1; have e : sN (pN 6 8 σ0) = sN σ0 + 1 := rfl; omega
    have m4 : sS s4 ≤ sS σ0 + 1375 := by have := g4.2.2.2; have e : sS (pN 6 8 σ0) = sS σ0 + 8 := rfl; omega
    refine wp_nw (by omega) (by omega) ?_
    refine wp_K rfl sK_new (wp_bd (sp_X6init (E := E) (σ := pN 7 23 s4) (m := sN s4) (w4.pN 7 23) sK_new (fun k => sI_new) (by show sN s4 + 1 + 15 ≤ _; omega) (by show sS s4 + 23 + 165964 ≤ _; omega) (fun _ => 0) (fun _ => [])) ?_)
    rintro _ s9 ⟨⟨Ma, hm⟩, f9, g9⟩
    have n9 : sN s9 ≤ sN σ0 + 27 := by have := g9.2.2.1; have e : sN (pN 7 23 s4) = sN s4 + 1 := rfl; omega
    have m9 : sS s9 ≤ sS σ0 + 167362 := by have := g9.2.2.2; have e : sS (pN 7 23 s4) = sS s4 + 23 := rfl; omega
    have hc4 : CI E (pN 7 23 s4) A 0 (fun _ => 0) (fun _ => []) none 0 := hc.ko (Fo.pN (A := fun _ => False) w4 7 23) (fun _ _ z => z.elim)
    have hc9 : CI E s9 A 0 (fun _ => 0) (fun _ => []) none 0 := hc4.ko f9 (fun b k z hb => by
      have z : b = sN s4 := z
      rw [z, sK_new] at hb
      exact (Option.some.inj hb).symm)
    have w9 := hc9.wf
    refine wp_na (n := 1) rfl (by decide) (by omega) (by omega) ?_
    have hc12 : CI E (pN 101 1 s9) A 0 (fun _ => 0) (fun _ => []) none 0 := hc9.ko (Fo.pN (A := fun _ => False) w9 101 1) (fun _ _ z => z.elim)
    have hm12 := hm.keep (Fo.pN w9 101 1)
    rw [← hA0]
    refine wp_mono (sp_law (A := A) (Ma := Ma) (m := sN s4) (la := sN s9) (xs := xs) (σ0 := pN 101 1 s9) hE hL (by show sN s9 + 1 + 110000 ≤ _; omega) (by show sS s9 + 1 + 5200000 ≤ _; omega) 512 E.1 0 0 (pN 101 1 s9) (0, (fun _ => 0), (fun _ => []), none) rfl (by omega) ⟨hc12, ⟨_, _, hm12, MV.zero⟩, ⟨⟨by decide, fun e he => absurd he (Nat.not_lt_zero _)⟩, fun s hs => nomatch hs⟩, ⟨sK_new, sL_new⟩, by decide⟩ ⟨by omega, by omega⟩) ?_
    rintro r τ ⟨rfl, j, t, hj, ht, q1, q2⟩
    have e1 : sN (pN 101 1 s9) = sN s9 + 1 := rfl
    have e2 : sS (pN 101 1 s9) = sS s9 + 1 := rfl
    exact ⟨rfl, by omega, by omega⟩
  obtain ⟨a, τ, e, rfl, k⟩ := key
  exact ⟨τ, e, k⟩
end LAW
