/-! share: its answers, and its throw -/
def f_X5_share_B16 (E : PE) (σ : PS) : Option (Int32 × PS) :=
  some ((-1 : Int32), σ)
def g_X5_share (E : PE) (v0 : Option Nat) (v1 : Int32) (v2 : Int32) (σ : PS) : Option (Int32 × PS) :=
  (oK 6 v0 σ).bind fun b3 =>
  bd (f_X5_isEntry E v0 v1 σ) fun r1 s2 =>
  if r1 = 0 then
    f_X5_share_B16 E s2
  else
    (oK 6 v0 s2).bind fun b6 =>
    bd (f_X5_isEntry E v0 v2 s2) fun r4 s5 =>
    if r4 = 0 then
      f_X5_share_B16 E s5
    else
      (oGr 6 0 v0 s5).bind fun x7 =>
      (oK 0 x7 s5).bind fun b10 =>
      bd (f_Jx4a65c_get_915e3 E x7 v1 s5) fun r8 s9 =>
      (oCa 2 r8 s9).bind fun u11 =>
      (oGr 6 0 v0 s9).bind fun x12 =>
      (oK 0 x12 s9).bind fun b15 =>
      bd (f_Jx4a65c_get_915e3 E x12 v2 s9) fun r13 s14 =>
      (oCa 2 r13 s14).bind fun u16 =>
      bd (f_X5_commonMarks E r8 r13 s14) fun r17 s18 =>
      (oK 2 r8 s18).bind fun b21 =>
      bd (f_X1_markCount E r8 s18) fun r19 s20 =>
      (oK 2 r13 s20).bind fun b24 =>
      bd (f_X1_markCount E r13 s20) fun r22 s23 =>
      if 0 < (r19 + r22) - r17 then
        (oDv ((100 : Int32) * r17) ((r19 + r22) - r17)).bind fun x25 =>
        some (x25, s23)
      else
        none
def f_X5_share (E : PE) (v0 : Option Nat) (v1 : Int32) (v2 : Int32) (σ : PS) : Option (Int32 × PS) := oM E σ (g_X5_share E v0 v1 v2 σ)
theorem mo_X5_share {E : PE} {v0 : Option Nat} {v1 : Int32} {v2 : Int32} {σ τ : PS} {rv : Int32} (h : f_X5_share E v0 v1 v2 σ = some (rv, τ)) : sN σ ≤ sN τ ∧ sS σ ≤ sS τ ∧ sN τ ≤ E.2.1 ∧ sS τ ≤ E.2.2.1 := (oM_of h).2
def f_X5_shareT_B16 (E : PE) (σ : PS) : Option (Unit × PS) :=
  none
def g_X5_shareT (E : PE) (v0 : Option Nat) (v1 : Int32) (v2 : Int32) (σ : PS) : Option (Unit × PS) :=
  (oK 6 v0 σ).bind fun b3 =>
  bd (f_X5_isEntry E v0 v1 σ) fun r1 s2 =>
  if r1 = 0 then
    f_X5_shareT_B16 E s2
  else
    (oK 6 v0 s2).bind fun b6 =>
    bd (f_X5_isEntry E v0 v2 s2) fun r4 s5 =>
    if r4 = 0 then
      f_X5_shareT_B16 E s5
    else
      (oGr 6 0 v0 s5).bind fun x7 =>
      (oK 0 x7 s5).bind fun b10 =>
      bd (f_Jx4a65c_get_915e3 E x7 v1 s5) fun r8 s9 =>
      (oCa 2 r8 s9).bind fun u11 =>
      (oGr 6 0 v0 s9).bind fun x12 =>
      (oK 0 x12 s9).bind fun b15 =>
      bd (f_Jx4a65c_get_915e3 E x12 v2 s9) fun r13 s14 =>
      (oCa 2 r13 s14).bind fun u16 =>
      bd (f_X5_commonMarks E r8 r13 s14) fun r17 s18 =>
      (oK 2 r8 s18).bind fun b21 =>
      bd (f_X1_markCount E r8 s18) fun r19 s20 =>
      (oK 2 r13 s20).bind fun b24 =>
      bd (f_X1_markCount E r13 s20) fun r22 s23 =>
      if 0 < (r19 + r22) - r17 then
        (oDv ((100 : Int32) * r17) ((r19 + r22) - r17)).bind fun x25 =>
        none
      else
        some ((), s23)
def f_X5_shareT (E : PE) (v0 : Option Nat) (v1 : Int32) (v2 : Int32) (σ : PS) : Option (Unit × PS) := oM E σ (g_X5_shareT E v0 v1 v2 σ)
theorem mo_X5_shareT {E : PE} {v0 : Option Nat} {v1 : Int32} {v2 : Int32} {σ τ : PS} {rv : Unit} (h : f_X5_shareT E v0 v1 v2 σ = some (rv, τ)) : sN σ ≤ sN τ ∧ sS σ ≤ sS τ ∧ sN τ ≤ E.2.1 ∧ sS τ ≤ E.2.2.1 := (oM_of h).2
/-! a thrown exception's cell; the law's own share -/
def pT (σ : PS) : PS := ((sN σ + 1, sS σ + 6, sK σ, sL σ), σ.2)
def eA (E : PE) (σ : PS) : PE := (E.1, sN σ, sS σ, E.2.2.2)
def eT (E : PE) (σ : PS) : PE := (E.1, sN σ + 1, sS σ + 6, E.2.2.2)
def g_L_share (E : PE) (v0 : Option Nat) (v1 v2 : Int32) (v3 : Option Nat) (σ : PS) : Option (Int32 × PS) := match f_X5_share (eA E σ) v0 v1 v2 σ with
  | some q => (oJs v3 0 q.1.toInt64 q.2).bind fun t => some (0, t)
  | none => match f_X5_shareT (eT E σ) v0 v1 v2 σ with
    | some q => if sN q.2 = sN σ ∧ sS q.2 = sS σ then some (1, pT q.2) else none
    | none => none
def f_L_share (E : PE) (v0 : Option Nat) (v1 v2 : Int32) (v3 : Option Nat) (σ : PS) : Option (Int32 × PS) := oM E σ (g_L_share E v0 v1 v2 v3 σ)
theorem mo_L_share {E : PE} {v0 : Option Nat} {v1 v2 : Int32} {v3 : Option Nat} {σ τ : PS} {rv : Int32} (h : f_L_share E v0 v1 v2 v3 σ = some (rv, τ)) : sN σ ≤ sN τ ∧ sS σ ≤ sS τ ∧ sN τ ≤ E.2.1 ∧ sS τ ≤ E.2.2.1 := (oM_of h).2
def oSl (L : Nat) (xs : Nat → Int32) (i : Int32) : Option Int32 := if i < 0 ∨ L ≤ i.toNatClampNeg then none else some (xs i.toNatClampNeg)
theorem Wf.pT {E : PE} {σ : PS} (h : Wf E σ) : Wf E (pT σ) := by
  obtain ⟨h1, h2, h3, h4, h5⟩ := h
  exact ⟨fun b k hb => Nat.lt_succ_of_lt (h1 b k hb), h2, Nat.lt_succ_of_lt h3, h4, h5⟩
theorem Fo.pT {E : PE} {σ : PS} {A : Nat → Prop} (h : Wf E σ) : Fo E σ (pT σ) A := ⟨h.pT, fun _ _ hb => ⟨hb, fun _ => dEq.rf⟩, fun _ _ _ _ _ => ⟨dEq.rf, fun _ _ _ _ _ _ => dEq.rf⟩⟩
section CPS
variable {E : PE} {σ τ : PS} {A : Nat → Nat} {n : Nat} {kd : Nat → Nat} {bs : Nat → List Nat} {S : Option PK} {t : Nat}
theorem sp_markCount {e num k tw : Nat} {b : List Nat} (hO : Ok E σ) (h : isE σ e num k b tw) (hb : b.length ≤ 60) : f_X1_markCount E (some e) σ = some (nI (b.length - 2), σ) := by
  obtain ⟨ba, ma, ⟨h1, h2, h3, h4, h5, h6, -⟩, -⟩ := h
  refine oM_rd hO ?_
  unfold g_X1_markCount
  refine e_gi rfl h1 ?_
  first
    | rw [h4]
    | rw [h5]
    | rw [h3]
  by_cases z : 2 < b.length
  · have e1 : nI b.length - (2 : Int32) = nI (b.length - 2) := pk_sub (a := b.length) (b := 2) (by omega)
    have e3 : (0 : Int32) < nI (b.length - 2) := show nI 0 < nI (b.length - 2) from nI_lt (by omega) (by omega)
    rw [e1, if_pos e3]
  · have e2 : b.length - 2 = 0 := by omega
    rw [e2]
    have hc : b.length = 0 ∨ b.length = 1 ∨ b.length = 2 := by omega
    rcases hc with c | c | c <;> rw [c] <;> rfl
theorem sp_share5 (hE : 1000 ≤ E.1) (hA : AST (n, kd, bs, S)) (hO : Ok E σ) (h : CI E σ A n kd bs S t) (v w : Int32) : f_X5_share E (some (A 0)) v w σ = (aShare v w (n, kd, bs, S)).map (fun a => (a, σ)) ∧ (aShare v w (n, kd, bs, S) = none → f_X5_shareT E (some (A 0)) v w σ = some ((), σ)) := by
  have hn : n ≤ 30 := hA.1.1
  obtain ⟨F, Es, LL, GA, gd, tw, c, h1, -, -⟩ := h.rd
  have hl : (LL 1).length = n := CB.lenE h1
  have i1 := sp_isEntry hO c v
  have i2 := sp_isEntry hO c w
  rw [hl] at i1 i2
  unfold aShare
  rcases in2 v (L := n) (by omega) with ⟨e1, e2⟩ | ⟨e1, e2, j, j1', rfl⟩
  · rw [if_pos e1]
    refine ⟨oM_rd hO ?_, fun z => nomatch z⟩
    unfold g_X5_share f_X5_share_B16
    refine e_K rfl c.kx (bd_rd i1 ?_)
    rw [e2, if_pos rfl]
  · rw [if_neg e1]
    rcases in2 w (L := n) (by omega) with ⟨d1, d2⟩ | ⟨d1, d2, k, k1', rfl⟩
    · rw [if_pos d1]
      refine ⟨oM_rd hO ?_, fun z => nomatch z⟩
      unfold g_X5_share f_X5_share_B16
      refine e_K rfl c.kx (bd_rd i1 ?_)
      rw [e2, if_neg ne01]
      refine e_K rfl c.kx (bd_rd i2 ?_)
      rw [d2, if_pos rfl]
    · rw [if_neg d1, cl_nI (show j < 2 ^ 31 by omega), cl_nI (show k < 2 ^ 31 by omega)]
      have hca := common_le1 (bs j) (bs k)
      have hla : (bs j).length ≤ 60 := (hA.1.2 j j1').2.1
      have hlb : (bs k).length ≤ 60 := (hA.1.2 k k1').2.1
      have m1 := sp_markCount hO (c.e j1') hla
      have m2 := sp_markCount hO (c.e k1') hlb
      have es : nI ((bs j).length - 2) + nI ((bs k).length - 2) - nI (commonN (bs j) (bs k)) = nI (shAll (bs j) (bs k)) := by rw [nI_add, pk_sub (by omega)]; rfl
      have hsl : shAll (bs j) (bs k) ≤ 200 := by unfold shAll; omega
      by_cases z : shAll (bs j) (bs k) = 0
      · have zn : ¬ (0 : Int32) < nI (shAll (bs j) (bs k)) := by rw [z]; decide
        refine ⟨?_, fun _ => oM_rd hO ?_⟩
        · rw [if_pos z]
          unfold f_X5_share
          have : g_X5_share E (some (A 0)) (nI j) (nI k) σ = none := by
            unfold g_X5_share
            refine e_K rfl c.kx (bd_rd i1 ?_)
            rw [e2, if_neg ne01]
            refine e_K rfl c.kx (bd_rd i2 ?_)
            rw [d2, if_neg ne01]
            refine e_gr rfl c.kx (e_K c.f0 (c.l j1).1 ?_)
            rw [c.f0]
            refine bd_rd (c.getE hO h1 j1') (e_ca rfl (c.ke j1') (e_gr rfl c.kx (e_K c.f0 (c.l j1).1 ?_)))
            rw [c.f0]
            refine bd_rd (c.getE hO h1 k1') (e_ca rfl (c.ke k1') (bd_rd (sp_commonMarks (by omega) hO (c.e j1') (c.e k1')) (e_K rfl (c.ke j1') (bd_rd m1 (e_K rfl (c.ke k1') (bd_rd m2 ?_))))))
            rw [es]
            exact e_f zn rfl
          rw [this]
          rfl
        · unfold g_X5_shareT
          refine e_K rfl c.kx (bd_rd i1 ?_)
          rw [e2, if_neg ne01]
          refine e_K rfl c.kx (bd_rd i2 ?_)
          rw [d2, if_neg ne01]
          refine e_gr rfl c.kx (e_K c.f0 (c.l j1).1 ?_)
          rw [c.f0]
          refine bd_rd (c.getE hO h1 j1') (e_ca rfl (c.ke j1') (e_gr rfl c.kx (e_K c.f0 (c.l j1).1 ?_)))
          rw [c.f0]
          refine bd_rd (c.getE hO h1 k1') (e_ca rfl (c.ke k1') (bd_rd (sp_commonMarks (by omega) hO (c.e j1') (c.e k1')) (e_K rfl (c.ke j1') (bd_rd m1 (e_K rfl (c.ke k1') (bd_rd m2 ?_))))))
          rw [es]
          exact e_f zn rfl
      · have zn : ¬ nI (shAll (bs j) (bs k)) = 0 := fun y => z ((nI_eq (b := 0) (by omega) (by omega)).mp y)
        have zp : (0 : Int32) < nI (shAll (bs j) (bs k)) := show nI 0 < nI (shAll (bs j) (bs k)) from nI_lt (by omega) (by omega)
        have e100 : (100 : Int32) * nI (commonN (bs j) (bs k)) = nI (100 * commonN (bs j) (bs k)) := pk_mul 100 _
        have ed : oDv ((100 : Int32) * nI (commonN (bs j) (bs k))) (nI (shAll (bs j) (bs k))) = some (nI (100 * commonN (bs j) (bs k) / shAll (bs j) (bs k))) := by
          rw [e100]
          unfold oDv
          rw [if_neg zn, pk_div (by omega) (by omega) (by omega)]
        rw [if_neg (show ¬ shAll ((n, kd, bs, S).2.2.1 j) ((n, kd, bs, S).2.2.1 k) = 0 from z)]
        refine ⟨oM_rd hO ?_, fun y => nomatch y⟩
        unfold g_X5_share
        refine e_K rfl c.kx (bd_rd i1 ?_)
        rw [e2, if_neg ne01]
        refine e_K rfl c.kx (bd_rd i2 ?_)
        rw [d2, if_neg ne01]
        refine e_gr rfl c.kx (e_K c.f0 (c.l j1).1 ?_)
        rw [c.f0]
        refine bd_rd (c.getE hO h1 j1') (e_ca rfl (c.ke j1') (e_gr rfl c.kx (e_K c.f0 (c.l j1).1 ?_)))
        rw [c.f0]
        refine bd_rd (c.getE hO h1 k1') (e_ca rfl (c.ke k1') (bd_rd (sp_commonMarks (by omega) hO (c.e j1') (c.e k1')) (e_K rfl (c.ke j1') (bd_rd m1 (e_K rfl (c.ke k1') (bd_rd m2 ?_))))))
        rw [es]
        refine e_t zp ?_
        rw [ed]
        rfl
/-- the law's own share -/
def lsR (la : Nat) (σ : PS) : Option Int32 → Int32 × PS
  | some a => (0, pJ la 0 a.toInt64 σ)
  | none => (1, pT σ)
theorem sp_Lshare {la : Nat} (hE : 1000 ≤ E.1) (hA : AST (n, kd, bs, S)) (h : CI E σ A n kd bs S t) (hk : sK σ la = some 101) (hl : sL σ la = 1) (h1 : sN σ + 1 ≤ E.2.1) (h2 : sS σ + 6 ≤ E.2.2.1) (v w : Int32) : f_L_share E (some (A 0)) v w (some la) σ = some (lsR la σ (aShare v w (n, kd, bs, S))) := by
  have hA1 : CI (eA E σ) σ A n kd bs S t := h
  have hT1 : CI (eT E σ) σ A n kd bs S t := h
  obtain ⟨s1, -⟩ := sp_share5 (E := eA E σ) hE hA ⟨Nat.le_refl _, Nat.le_refl _⟩ hA1 v w
  obtain ⟨-, s2⟩ := sp_share5 (E := eT E σ) hE hA ⟨Nat.le_succ _, Nat.le_add_right _ _⟩ hT1 v w
  unfold f_L_share g_L_share
  cases ha : aShare v w (n, kd, bs, S) with
  | some a =>
    rw [ha] at s1
    rw [s1]
    refine oM_to (σ' := pJ la 0 a.toInt64 σ) ?_ (Nat.le_refl _) (Nat.le_refl _) (Nat.le_of_succ_le h1) (by show sS σ ≤ _; omega)
    show (oJs (some la) 0 a.toInt64 σ).bind (fun t => some ((0 : Int32), t)) = _
    have : oJs (some la) 0 a.toInt64 σ = some (pJ la 0 a.toInt64 σ) := by
      unfold oJs oX
      rw [oK_ok hk]
      show ((if (0 : Int32) < 0 ∨ sL σ la ≤ (0 : Int32).toNatClampNeg then none else some la).bind fun a1 => some (pJ a1 (0 : Int32).toNatClampNeg a.toInt64 σ)) = _
      rw [hl]
      rfl
    rw [this]
    rfl
  | none =>
    rw [ha] at s1
    rw [s1, s2 ha]
    refine oM_to (σ' := pT σ) ?_ (Nat.le_succ _) (Nat.le_add_right _ _) h1 h2
    show (if sN σ = sN σ ∧ sS σ = sS σ then some ((1 : Int32), pT σ) else none) = _
    rw [if_pos ⟨rfl, rfl⟩]
end CPS
