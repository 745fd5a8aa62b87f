/-! THE PURE FUNCTIONS, out of the decoded code, by wip/gen.py -/
def bd {α β : Type} (x : Option (α × PS)) (f : α → PS → Option β) : Option β := x.bind fun q => f q.1 q.2
theorem ob_p {α β : Type} {x : Option (α × PS)} {f : α → PS → Option β} {y : β} (h : bd x f = some y) : ∃ a s, x = some (a, s) ∧ f a s = some y := by
  cases x with
  | none => cases h
  | some q => exact ⟨q.1, q.2, rfl, h⟩
def g_Jxa1e45_init_da8c8 (E : PE) (v0 : Option Nat) (σ : PS) : Option (Unit × PS) :=
  (oK 0 v0 σ).bind fun b1 =>
  some ((), σ)
def f_Jxa1e45_init_da8c8 (E : PE) (v0 : Option Nat) (σ : PS) : Option (Unit × PS) := oM E σ (g_Jxa1e45_init_da8c8 E v0 σ)
theorem mo_Jxa1e45_init_da8c8 {E : PE} {v0 : Option Nat} {σ τ : PS} {rv : Unit} (h : f_Jxa1e45_init_da8c8 E v0 σ = some (rv, τ)) : sN σ ≤ sN τ ∧ sS σ ≤ sS τ ∧ sN τ ≤ E.2.1 ∧ sS τ ≤ E.2.2.1 := (oM_of h).2
def g_Jxc12de_init_da8c8 (E : PE) (v0 : Option Nat) (σ : PS) : Option (Unit × PS) :=
  (oK 0 v0 σ).bind fun b3 =>
  bd (f_Jxa1e45_init_da8c8 E v0 σ) fun _ s2 =>
  (oPi 0 0 v0 (0 : Int32) s2).bind fun s4 =>
  some ((), s4)
def f_Jxc12de_init_da8c8 (E : PE) (v0 : Option Nat) (σ : PS) : Option (Unit × PS) := oM E σ (g_Jxc12de_init_da8c8 E v0 σ)
theorem mo_Jxc12de_init_da8c8 {E : PE} {v0 : Option Nat} {σ τ : PS} {rv : Unit} (h : f_Jxc12de_init_da8c8 E v0 σ = some (rv, τ)) : sN σ ≤ sN τ ∧ sS σ ≤ sS τ ∧ sN τ ≤ E.2.1 ∧ sS τ ≤ E.2.2.1 := (oM_of h).2
def g_Jx4a65c_init_da8c8 (E : PE) (v0 : Option Nat) (σ : PS) : Option (Unit × PS) :=
  (oK 0 v0 σ).bind fun b3 =>
  bd (f_Jxc12de_init_da8c8 E v0 σ) fun _ s2 =>
  (oPr 0 1 v0 (some E.2.2.2.1) s2).bind fun s4 =>
  some ((), s4)
def f_Jx4a65c_init_da8c8 (E : PE) (v0 : Option Nat) (σ : PS) : Option (Unit × PS) := oM E σ (g_Jx4a65c_init_da8c8 E v0 σ)
theorem mo_Jx4a65c_init_da8c8 {E : PE} {v0 : Option Nat} {σ τ : PS} {rv : Unit} (h : f_Jx4a65c_init_da8c8 E v0 σ = some (rv, τ)) : sN σ ≤ sN τ ∧ sS σ ≤ sS τ ∧ sN τ ≤ E.2.1 ∧ sS τ ≤ E.2.2.1 := (oM_of h).2
def g_X0_init (E : PE) (v0 : Option Nat) (σ : PS) : Option (Unit × PS) :=
  (oK 1 v0 σ).bind fun b1 =>
  bd (oNw E 0 3 σ) fun x2 s3 =>
  (oK 0 x2 s3).bind fun b6 =>
  bd (f_Jx4a65c_init_da8c8 E x2 s3) fun _ s5 =>
  (oPr 1 0 v0 x2 s5).bind fun s7 =>
  bd (oNa E 100 (49 : Int32) s7) fun x8 s9 =>
  (oPr 1 1 v0 x8 s9).bind fun s10 =>
  bd (oNa E 100 (896 : Int32) s10) fun x11 s12 =>
  (oPr 1 2 v0 x11 s12).bind fun s13 =>
  some ((), s13)
def f_X0_init (E : PE) (v0 : Option Nat) (σ : PS) : Option (Unit × PS) := oM E σ (g_X0_init E v0 σ)
theorem mo_X0_init {E : PE} {v0 : Option Nat} {σ τ : PS} {rv : Unit} (h : f_X0_init E v0 σ = some (rv, τ)) : sN σ ≤ sN τ ∧ sS σ ≤ sS τ ∧ sN τ ≤ E.2.1 ∧ sS τ ≤ E.2.2.1 := (oM_of h).2
def g_X3_init (E : PE) (v0 : Option Nat) (σ : PS) : Option (Unit × PS) :=
  (oK 4 v0 σ).bind fun b1 =>
  bd (oNa E 100 (400 : Int32) σ) fun x2 s3 =>
  (oPr 4 0 v0 x2 s3).bind fun s4 =>
  (oPi 4 1 v0 (0 : Int32) s4).bind fun s5 =>
  (oPi 4 2 v0 (0 : Int32) s5).bind fun s6 =>
  (oPi 4 3 v0 (0 : Int32) s6).bind fun s7 =>
  some ((), s7)
def f_X3_init (E : PE) (v0 : Option Nat) (σ : PS) : Option (Unit × PS) := oM E σ (g_X3_init E v0 σ)
theorem mo_X3_init {E : PE} {v0 : Option Nat} {σ τ : PS} {rv : Unit} (h : f_X3_init E v0 σ = some (rv, τ)) : sN σ ≤ sN τ ∧ sS σ ≤ sS τ ∧ sN τ ≤ E.2.1 ∧ sS τ ≤ E.2.2.1 := (oM_of h).2
def g_X5_init (E : PE) (v0 : Option Nat) (σ : PS) : Option (Unit × PS) :=
  (oK 6 v0 σ).bind fun b1 =>
  bd (oNw E 0 3 σ) fun x2 s3 =>
  (oK 0 x2 s3).bind fun b6 =>
  bd (f_Jx4a65c_init_da8c8 E x2 s3) fun _ s5 =>
  (oPr 6 0 v0 x2 s5).bind fun s7 =>
  bd (oNw E 0 3 s7) fun x8 s9 =>
  (oK 0 x8 s9).bind fun b12 =>
  bd (f_Jx4a65c_init_da8c8 E x8 s9) fun _ s11 =>
  (oPr 6 1 v0 x8 s11).bind fun s13 =>
  bd (oNw E 0 3 s13) fun x14 s15 =>
  (oK 0 x14 s15).bind fun b18 =>
  bd (f_Jx4a65c_init_da8c8 E x14 s15) fun _ s17 =>
  (oPr 6 2 v0 x14 s17).bind fun s19 =>
  bd (oNw E 0 3 s19) fun x20 s21 =>
  (oK 0 x20 s21).bind fun b24 =>
  bd (f_Jx4a65c_init_da8c8 E x20 s21) fun _ s23 =>
  (oPr 6 3 v0 x20 s23).bind fun s25 =>
  bd (oNw E 1 3 s25) fun x26 s27 =>
  (oK 1 x26 s27).bind fun b30 =>
  bd (f_X0_init E x26 s27) fun _ s29 =>
  (oPr 6 4 v0 x26 s29).bind fun s31 =>
  bd (oNw E 4 4 s31) fun x32 s33 =>
  (oK 4 x32 s33).bind fun b36 =>
  bd (f_X3_init E x32 s33) fun _ s35 =>
  (oPr 6 5 v0 x32 s35).bind fun s37 =>
  (oPi 6 6 v0 (0 : Int32) s37).bind fun s38 =>
  (oPi 6 7 v0 (0 : Int32) s38).bind fun s39 =>
  some ((), s39)
def f_X5_init (E : PE) (v0 : Option Nat) (σ : PS) : Option (Unit × PS) := oM E σ (g_X5_init E v0 σ)
theorem mo_X5_init {E : PE} {v0 : Option Nat} {σ τ : PS} {rv : Unit} (h : f_X5_init E v0 σ = some (rv, τ)) : sN σ ≤ sN τ ∧ sS σ ≤ sS τ ∧ sN τ ≤ E.2.1 ∧ sS τ ≤ E.2.2.1 := (oM_of h).2
def f_X5_isKind_B15 (E : PE) (w0 : Int32) (σ : PS) : Option (Int32 × PS) :=
  if w0 = 0 ∨ w0 = 1 then some (w0, σ) else none
def f_X5_isKind_B14 (E : PE) (σ : PS) : Option (Int32 × PS) :=
  f_X5_isKind_B15 E (0 : Int32) σ
def g_X5_isKind (E : PE) (v0 : Int32) (σ : PS) : Option (Int32 × PS) :=
  if v0 < 0 then
    f_X5_isKind_B14 E σ
  else
    if (6 : Int32) ≤ v0 then
      f_X5_isKind_B14 E σ
    else
      f_X5_isKind_B15 E (1 : Int32) σ
def f_X5_isKind (E : PE) (v0 : Int32) (σ : PS) : Option (Int32 × PS) := oM E σ (g_X5_isKind E v0 σ)
theorem mo_X5_isKind {E : PE} {v0 : Int32} {σ τ : PS} {rv : Int32} (h : f_X5_isKind E v0 σ = some (rv, τ)) : sN σ ≤ sN τ ∧ sS σ ≤ sS τ ∧ sN τ ≤ E.2.1 ∧ sS τ ≤ E.2.2.1 := (oM_of h).2
def g_Jx4a65c_size_8abf5 (E : PE) (v0 : Option Nat) (σ : PS) : Option (Int32 × PS) :=
  (oGi 0 2 v0 σ).bind fun x1 =>
  some (x1, σ)
def f_Jx4a65c_size_8abf5 (E : PE) (v0 : Option Nat) (σ : PS) : Option (Int32 × PS) := oM E σ (g_Jx4a65c_size_8abf5 E v0 σ)
theorem mo_Jx4a65c_size_8abf5 {E : PE} {v0 : Option Nat} {σ τ : PS} {rv : Int32} (h : f_Jx4a65c_size_8abf5 E v0 σ = some (rv, τ)) : sN σ ≤ sN τ ∧ sS σ ≤ sS τ ∧ sN τ ≤ E.2.1 ∧ sS τ ≤ E.2.2.1 := (oM_of h).2
def g_X1_init (E : PE) (v0 : Option Nat) (v1 : Int32) (v2 : Int32) (σ : PS) : Option (Unit × PS) :=
  (oK 2 v0 σ).bind fun b1 =>
  bd (oNa E 100 (60 : Int32) σ) fun x2 s3 =>
  (oPr 2 2 v0 x2 s3).bind fun s4 =>
  bd (oNa E 100 (32 : Int32) s4) fun x5 s6 =>
  (oPr 2 3 v0 x5 s6).bind fun s7 =>
  (oPi 2 4 v0 (0 : Int32) s7).bind fun s8 =>
  (oPi 2 0 v0 v1 s8).bind fun s9 =>
  (oPi 2 1 v0 v2 s9).bind fun s10 =>
  (oPi 2 5 v0 v1 s10).bind fun s11 =>
  some ((), s11)
def f_X1_init (E : PE) (v0 : Option Nat) (v1 : Int32) (v2 : Int32) (σ : PS) : Option (Unit × PS) := oM E σ (g_X1_init E v0 v1 v2 σ)
theorem mo_X1_init {E : PE} {v0 : Option Nat} {v1 : Int32} {v2 : Int32} {σ τ : PS} {rv : Unit} (h : f_X1_init E v0 v1 v2 σ = some (rv, τ)) : sN σ ≤ sN τ ∧ sS σ ≤ sS τ ∧ sN τ ≤ E.2.1 ∧ sS τ ≤ E.2.2.1 := (oM_of h).2
def g_J8_hugeLength_7cf53 (E : PE) (v0 : Int32) (v1 : Int32) (σ : PS) : Option (Int32 × PS) :=
  if 0 ≤ v0 + v1 then
    if (2147483639 : Int32) < v0 + v1 then
      some (v0 + v1, σ)
    else
      some ((2147483639 : Int32), σ)
  else
    none
def f_J8_hugeLength_7cf53 (E : PE) (v0 : Int32) (v1 : Int32) (σ : PS) : Option (Int32 × PS) := oM E σ (g_J8_hugeLength_7cf53 E v0 v1 σ)
theorem mo_J8_hugeLength_7cf53 {E : PE} {v0 : Int32} {v1 : Int32} {σ τ : PS} {rv : Int32} (h : f_J8_hugeLength_7cf53 E v0 v1 σ = some (rv, τ)) : sN σ ≤ sN τ ∧ sS σ ≤ sS τ ∧ sN τ ≤ E.2.1 ∧ sS τ ≤ E.2.2.1 := (oM_of h).2
def f_J8_newLength_cabcc_B21 (E : PE) (v0 : Int32) (v1 : Int32) (σ : PS) : Option (Int32 × PS) :=
  bd (f_J8_hugeLength_7cf53 E v0 v1 σ) fun r1 s2 =>
  some (r1, s2)
def g_J8_newLength_cabcc (E : PE) (v0 : Int32) (v1 : Int32) (v2 : Int32) (σ : PS) : Option (Int32 × PS) :=
  if v0 + (if v1 < v2 then v2 else v1) ≤ (0 : Int32) then
    f_J8_newLength_cabcc_B21 E v0 v1 σ
  else
    if (2147483639 : Int32) < v0 + (if v1 < v2 then v2 else v1) then
      f_J8_newLength_cabcc_B21 E v0 v1 σ
    else
      some (v0 + (if v1 < v2 then v2 else v1), σ)
def f_J8_newLength_cabcc (E : PE) (v0 : Int32) (v1 : Int32) (v2 : Int32) (σ : PS) : Option (Int32 × PS) := oM E σ (g_J8_newLength_cabcc E v0 v1 v2 σ)
theorem mo_J8_newLength_cabcc {E : PE} {v0 : Int32} {v1 : Int32} {v2 : Int32} {σ τ : PS} {rv : Int32} (h : f_J8_newLength_cabcc E v0 v1 v2 σ = some (rv, τ)) : sN σ ≤ sN τ ∧ sS σ ≤ sS τ ∧ sN τ ≤ E.2.1 ∧ sS τ ≤ E.2.2.1 := (oM_of h).2
def f_J7_copyOf_6403c_B24 (E : PE) (v0 : Option Nat) (v1 : Int32) (w0 : Option Nat) (σ : PS) : Option ((Option Nat) × PS) :=
  (oLn E v0 σ).bind fun x3 =>
  (oCp v0 (0 : Int32) w0 (0 : Int32) (if v1 < x3 then v1 else x3) σ).bind fun s4 =>
  some (w0, s4)
def g_J7_copyOf_6403c (E : PE) (v0 : Option Nat) (v1 : Int32) (v2 : Option Nat) (σ : PS) : Option ((Option Nat) × PS) :=
  if v2 = some E.2.2.2.2 then
    bd (oNa E 102 v1 σ) fun x1 s2 =>
    f_J7_copyOf_6403c_B24 E v0 v1 x1 s2
  else
    none
def f_J7_copyOf_6403c (E : PE) (v0 : Option Nat) (v1 : Int32) (v2 : Option Nat) (σ : PS) : Option ((Option Nat) × PS) := oM E σ (g_J7_copyOf_6403c E v0 v1 v2 σ)
theorem mo_J7_copyOf_6403c {E : PE} {v0 : Option Nat} {v1 : Int32} {v2 : Option Nat} {σ τ : PS} {rv : Option Nat} (h : f_J7_copyOf_6403c E v0 v1 v2 σ = some (rv, τ)) : sN σ ≤ sN τ ∧ sS σ ≤ sS τ ∧ sN τ ≤ E.2.1 ∧ sS τ ≤ E.2.2.1 := (oM_of h).2
def g_J7_copyOf_1904c (E : PE) (v0 : Option Nat) (v1 : Int32) (σ : PS) : Option ((Option Nat) × PS) :=
  (oGc E v0 σ).bind fun x1 =>
  bd (f_J7_copyOf_6403c E v0 v1 x1 σ) fun r2 s3 =>
  some (r2, s3)
def f_J7_copyOf_1904c (E : PE) (v0 : Option Nat) (v1 : Int32) (σ : PS) : Option ((Option Nat) × PS) := oM E σ (g_J7_copyOf_1904c E v0 v1 σ)
theorem mo_J7_copyOf_1904c {E : PE} {v0 : Option Nat} {v1 : Int32} {σ τ : PS} {rv : Option Nat} (h : f_J7_copyOf_1904c E v0 v1 σ = some (rv, τ)) : sN σ ≤ sN τ ∧ sS σ ≤ sS τ ∧ sN τ ≤ E.2.1 ∧ sS τ ≤ E.2.2.1 := (oM_of h).2
def f_Jx4a65c_grow_92f84_B20 (E : PE) (v0 : Option Nat) (v1 : Int32) (v2 : Int32) (σ : PS) : Option ((Option Nat) × PS) :=
  bd (f_J8_newLength_cabcc E v2 (v1 - v2) (v2 >>> ((1 : Int32) &&& 31)) σ) fun r7 s8 =>
  (oGr 0 1 v0 s8).bind fun x9 =>
  bd (f_J7_copyOf_1904c E x9 r7 s8) fun r10 s11 =>
  (oPr 0 1 v0 r10 s11).bind fun s12 =>
  some (r10, s12)
def g_Jx4a65c_grow_92f84 (E : PE) (v0 : Option Nat) (v1 : Int32) (σ : PS) : Option ((Option Nat) × PS) :=
  (oGr 0 1 v0 σ).bind fun x1 =>
  (oLn E x1 σ).bind fun x2 =>
  if 0 < x2 then
    f_Jx4a65c_grow_92f84_B20 E v0 v1 x2 σ
  else
    (oGr 0 1 v0 σ).bind fun x3 =>
    if x3 = some E.2.2.2.1 then
      bd (oNa E 102 (if (10 : Int32) < v1 then v1 else (10 : Int32)) σ) fun x4 s5 =>
      (oPr 0 1 v0 x4 s5).bind fun s6 =>
      some (x4, s6)
    else
      f_Jx4a65c_grow_92f84_B20 E v0 v1 x2 σ
def f_Jx4a65c_grow_92f84 (E : PE) (v0 : Option Nat) (v1 : Int32) (σ : PS) : Option ((Option Nat) × PS) := oM E σ (g_Jx4a65c_grow_92f84 E v0 v1 σ)
theorem mo_Jx4a65c_grow_92f84 {E : PE} {v0 : Option Nat} {v1 : Int32} {σ τ : PS} {rv : Option Nat} (h : f_Jx4a65c_grow_92f84 E v0 v1 σ = some (rv, τ)) : sN σ ≤ sN τ ∧ sS σ ≤ sS τ ∧ sN τ ≤ E.2.1 ∧ sS τ ≤ E.2.2.1 := (oM_of h).2
def g_Jx4a65c_grow_d5877 (E : PE) (v0 : Option Nat) (σ : PS) : Option ((Option Nat) × PS) :=
  (oGi 0 2 v0 σ).bind fun x1 =>
  (oK 0 v0 σ).bind fun b4 =>
  bd (f_Jx4a65c_grow_92f84 E v0 (x1 + (1 : Int32)) σ) fun r2 s3 =>
  some (r2, s3)
def f_Jx4a65c_grow_d5877 (E : PE) (v0 : Option Nat) (σ : PS) : Option ((Option Nat) × PS) := oM E σ (g_Jx4a65c_grow_d5877 E v0 σ)
theorem mo_Jx4a65c_grow_d5877 {E : PE} {v0 : Option Nat} {σ τ : PS} {rv : Option Nat} (h : f_Jx4a65c_grow_d5877 E v0 σ = some (rv, τ)) : sN σ ≤ sN τ ∧ sS σ ≤ sS τ ∧ sN τ ≤ E.2.1 ∧ sS τ ≤ E.2.2.1 := (oM_of h).2
def f_Jx4a65c_add_72be8_B11 (E : PE) (v0 : Option Nat) (v1 : Option Nat) (v2 : Option Nat) (v3 : Int32) (σ : PS) : Option (Unit × PS) :=
  (oQs v2 v3 v1 σ).bind fun s5 =>
  (oPi 0 2 v0 (v3 + (1 : Int32)) s5).bind fun s6 =>
  some ((), s6)
def g_Jx4a65c_add_72be8 (E : PE) (v0 : Option Nat) (v1 : Option Nat) (v2 : Option Nat) (v3 : Int32) (σ : PS) : Option (Unit × PS) :=
  (oLn E v2 σ).bind fun x1 =>
  if v3 = x1 then
    (oK 0 v0 σ).bind fun b4 =>
    bd (f_Jx4a65c_grow_d5877 E v0 σ) fun r2 s3 =>
    f_Jx4a65c_add_72be8_B11 E v0 v1 r2 v3 s3
  else
    f_Jx4a65c_add_72be8_B11 E v0 v1 v2 v3 σ
def f_Jx4a65c_add_72be8 (E : PE) (v0 : Option Nat) (v1 : Option Nat) (v2 : Option Nat) (v3 : Int32) (σ : PS) : Option (Unit × PS) := oM E σ (g_Jx4a65c_add_72be8 E v0 v1 v2 v3 σ)
theorem mo_Jx4a65c_add_72be8 {E : PE} {v0 : Option Nat} {v1 : Option Nat} {v2 : Option Nat} {v3 : Int32} {σ τ : PS} {rv : Unit} (h : f_Jx4a65c_add_72be8 E v0 v1 v2 v3 σ = some (rv, τ)) : sN σ ≤ sN τ ∧ sS σ ≤ sS τ ∧ sN τ ≤ E.2.1 ∧ sS τ ≤ E.2.2.1 := (oM_of h).2
def g_Jx4a65c_add_9ea2d (E : PE) (v0 : Option Nat) (v1 : Option Nat) (σ : PS) : Option (Int32 × PS) :=
  (oGi 0 0 v0 σ).bind fun x1 =>
  (oPi 0 0 v0 (x1 + (1 : Int32)) σ).bind fun s2 =>
  (oGr 0 1 v0 s2).bind fun x3 =>
  (oGi 0 2 v0 s2).bind fun x4 =>
  (oK 0 v0 s2).bind fun b7 =>
  bd (f_Jx4a65c_add_72be8 E v0 v1 x3 x4 s2) fun _ s6 =>
  some ((1 : Int32), s6)
def f_Jx4a65c_add_9ea2d (E : PE) (v0 : Option Nat) (v1 : Option Nat) (σ : PS) : Option (Int32 × PS) := oM E σ (g_Jx4a65c_add_9ea2d E v0 v1 σ)
theorem mo_Jx4a65c_add_9ea2d {E : PE} {v0 : Option Nat} {v1 : Option Nat} {σ τ : PS} {rv : Int32} (h : f_Jx4a65c_add_9ea2d E v0 v1 σ = some (rv, τ)) : sN σ ≤ sN τ ∧ sS σ ≤ sS τ ∧ sN τ ≤ E.2.1 ∧ sS τ ≤ E.2.2.1 := (oM_of h).2
def g_X5_entry (E : PE) (v0 : Option Nat) (v1 : Int32) (σ : PS) : Option (Int32 × PS) :=
  bd (f_X5_isKind E v1 σ) fun r1 s2 =>
  if r1 = 0 then
    some ((-1 : Int32), s2)
  else
    (oGr 6 0 v0 s2).bind fun x3 =>
    (oK 0 x3 s2).bind fun b6 =>
    bd (f_Jx4a65c_size_8abf5 E x3 s2) fun r4 s5 =>
    if r4 < (30 : Int32) then
      (oGr 6 0 v0 s5).bind fun x7 =>
      bd (oNw E 2 6 s5) fun x8 s9 =>
      (oK 2 x8 s9).bind fun b12 =>
      bd (f_X1_init E x8 r4 v1 s9) fun _ s11 =>
      (oK 0 x7 s11).bind fun b15 =>
      bd (f_Jx4a65c_add_9ea2d E x7 x8 s11) fun r13 s14 =>
      (oPi 6 6 v0 (0 : Int32) s14).bind fun s16 =>
      some (r4, s16)
    else
      some ((-3 : Int32), s5)
def f_X5_entry (E : PE) (v0 : Option Nat) (v1 : Int32) (σ : PS) : Option (Int32 × PS) := oM E σ (g_X5_entry E v0 v1 σ)
theorem mo_X5_entry {E : PE} {v0 : Option Nat} {v1 : Int32} {σ τ : PS} {rv : Int32} (h : f_X5_entry E v0 v1 σ = some (rv, τ)) : sN σ ≤ sN τ ∧ sS σ ≤ sS τ ∧ sN τ ≤ E.2.1 ∧ sS τ ≤ E.2.2.1 := (oM_of h).2
def f_X5_isEntry_B20 (E : PE) (w0 : Int32) (σ : PS) : Option (Int32 × PS) :=
  if w0 = 0 ∨ w0 = 1 then some (w0, σ) else none
def f_X5_isEntry_B19 (E : PE) (σ : PS) : Option (Int32 × PS) :=
  f_X5_isEntry_B20 E (0 : Int32) σ
def g_X5_isEntry (E : PE) (v0 : Option Nat) (v1 : Int32) (σ : PS) : Option (Int32 × PS) :=
  if v1 < 0 then
    f_X5_isEntry_B19 E σ
  else
    (oGr 6 0 v0 σ).bind fun x1 =>
    (oK 0 x1 σ).bind fun b4 =>
    bd (f_Jx4a65c_size_8abf5 E x1 σ) fun r2 s3 =>
    if r2 ≤ v1 then
      f_X5_isEntry_B19 E s3
    else
      f_X5_isEntry_B20 E (1 : Int32) s3
def f_X5_isEntry (E : PE) (v0 : Option Nat) (v1 : Int32) (σ : PS) : Option (Int32 × PS) := oM E σ (g_X5_isEntry E v0 v1 σ)
theorem mo_X5_isEntry {E : PE} {v0 : Option Nat} {v1 : Int32} {σ τ : PS} {rv : Int32} (h : f_X5_isEntry E v0 v1 σ = some (rv, τ)) : sN σ ≤ sN τ ∧ sS σ ≤ sS τ ∧ sN τ ≤ E.2.1 ∧ sS τ ≤ E.2.2.1 := (oM_of h).2
def f_J3_checkIndex_8e157_B9 (E : PE) (v0 : Int32) (v1 : Int32) (v2 : Option Nat) (σ : PS) : Option (Int32 × PS) :=
  none
def g_J3_checkIndex_8e157 (E : PE) (v0 : Int32) (v1 : Int32) (v2 : Option Nat) (σ : PS) : Option (Int32 × PS) :=
  if v0 < 0 then
    f_J3_checkIndex_8e157_B9 E v0 v1 v2 σ
  else
    if v0 < v1 then
      some (v0, σ)
    else
      f_J3_checkIndex_8e157_B9 E v0 v1 v2 σ
def f_J3_checkIndex_8e157 (E : PE) (v0 : Int32) (v1 : Int32) (v2 : Option Nat) (σ : PS) : Option (Int32 × PS) := oM E σ (g_J3_checkIndex_8e157 E v0 v1 v2 σ)
theorem mo_J3_checkIndex_8e157 {E : PE} {v0 : Int32} {v1 : Int32} {v2 : Option Nat} {σ τ : PS} {rv : Int32} (h : f_J3_checkIndex_8e157 E v0 v1 v2 σ = some (rv, τ)) : sN σ ≤ sN τ ∧ sS σ ≤ sS τ ∧ sN τ ≤ E.2.1 ∧ sS τ ≤ E.2.2.1 := (oM_of h).2
def g_J15_checkIndex_7cf53 (E : PE) (v0 : Int32) (v1 : Int32) (σ : PS) : Option (Int32 × PS) :=
  bd (f_J3_checkIndex_8e157 E v0 v1 none σ) fun r1 s2 =>
  some (r1, s2)
def f_J15_checkIndex_7cf53 (E : PE) (v0 : Int32) (v1 : Int32) (σ : PS) : Option (Int32 × PS) := oM E σ (g_J15_checkIndex_7cf53 E v0 v1 σ)
theorem mo_J15_checkIndex_7cf53 {E : PE} {v0 : Int32} {v1 : Int32} {σ τ : PS} {rv : Int32} (h : f_J15_checkIndex_7cf53 E v0 v1 σ = some (rv, τ)) : sN σ ≤ sN τ ∧ sS σ ≤ sS τ ∧ sN τ ≤ E.2.1 ∧ sS τ ≤ E.2.2.1 := (oM_of h).2
def g_Jx4a65c_elementData_915e3 (E : PE) (v0 : Option Nat) (v1 : Int32) (σ : PS) : Option ((Option Nat) × PS) :=
  (oGr 0 1 v0 σ).bind fun x1 =>
  (oQl x1 v1 σ).bind fun x2 =>
  some (x2, σ)
def f_Jx4a65c_elementData_915e3 (E : PE) (v0 : Option Nat) (v1 : Int32) (σ : PS) : Option ((Option Nat) × PS) := oM E σ (g_Jx4a65c_elementData_915e3 E v0 v1 σ)
theorem mo_Jx4a65c_elementData_915e3 {E : PE} {v0 : Option Nat} {v1 : Int32} {σ τ : PS} {rv : Option Nat} (h : f_Jx4a65c_elementData_915e3 E v0 v1 σ = some (rv, τ)) : sN σ ≤ sN τ ∧ sS σ ≤ sS τ ∧ sN τ ≤ E.2.1 ∧ sS τ ≤ E.2.2.1 := (oM_of h).2
def g_Jx4a65c_get_915e3 (E : PE) (v0 : Option Nat) (v1 : Int32) (σ : PS) : Option ((Option Nat) × PS) :=
  (oGi 0 2 v0 σ).bind fun x1 =>
  bd (f_J15_checkIndex_7cf53 E v1 x1 σ) fun r2 s3 =>
  (oK 0 v0 s3).bind fun b6 =>
  bd (f_Jx4a65c_elementData_915e3 E v0 v1 s3) fun r4 s5 =>
  some (r4, s5)
def f_Jx4a65c_get_915e3 (E : PE) (v0 : Option Nat) (v1 : Int32) (σ : PS) : Option ((Option Nat) × PS) := oM E σ (g_Jx4a65c_get_915e3 E v0 v1 σ)
theorem mo_Jx4a65c_get_915e3 {E : PE} {v0 : Option Nat} {v1 : Int32} {σ τ : PS} {rv : Option Nat} (h : f_Jx4a65c_get_915e3 E v0 v1 σ = some (rv, τ)) : sN σ ≤ sN τ ∧ sS σ ≤ sS τ ∧ sN τ ≤ E.2.1 ∧ sS τ ≤ E.2.2.1 := (oM_of h).2
def f_X1_countMarks_L23 (E : PE) : Nat → Option Nat → Int32 → PS → Option (Unit × PS)
  | 0, _, _, _ => none
  | n + 1, v0, v1, σ =>
    (oGi 2 4 v0 σ).bind fun x3 =>
    if x3 ≤ v1 + (2 : Int32) then
      some ((), σ)
    else
      (oGr 2 3 v0 σ).bind fun x4 =>
      (oGr 2 2 v0 σ).bind fun x5 =>
      (oAl x5 v1 σ).bind fun x6 =>
      (oGr 2 2 v0 σ).bind fun x7 =>
      (oAl x7 (v1 + (1 : Int32)) σ).bind fun x8 =>
      (oGr 2 2 v0 σ).bind fun x9 =>
      (oAl x9 (v1 + (2 : Int32)) σ).bind fun x10 =>
      (oAl x4 (((((7 : Int32) * x6) + ((5 : Int32) * x8)) + ((3 : Int32) * x10)) &&& (31 : Int32)) σ).bind fun x11 =>
      (oAs x4 (((((7 : Int32) * x6) + ((5 : Int32) * x8)) + ((3 : Int32) * x10)) &&& (31 : Int32)) (x11 + (1 : Int32)) σ).bind fun s12 =>
      f_X1_countMarks_L23 E n v0 (v1 + 1) s12
def f_X1_countMarks_L2 (E : PE) : Nat → Option Nat → Int32 → PS → Option (Unit × PS)
  | 0, _, _, _ => none
  | n + 1, v0, v1, σ =>
    if (32 : Int32) ≤ v1 then
      f_X1_countMarks_L23 E E.1 v0 (0 : Int32) σ
    else
      (oGr 2 3 v0 σ).bind fun x1 =>
      (oAs x1 v1 (0 : Int32) σ).bind fun s2 =>
      f_X1_countMarks_L2 E n v0 (v1 + 1) s2
def g_X1_countMarks (E : PE) (v0 : Option Nat) (σ : PS) : Option (Unit × PS) :=
  f_X1_countMarks_L2 E E.1 v0 (0 : Int32) σ
def f_X1_countMarks (E : PE) (v0 : Option Nat) (σ : PS) : Option (Unit × PS) := oM E σ (g_X1_countMarks E v0 σ)
theorem mo_X1_countMarks {E : PE} {v0 : Option Nat} {σ τ : PS} {rv : Unit} (h : f_X1_countMarks E v0 σ = some (rv, τ)) : sN σ ≤ sN τ ∧ sS σ ≤ sS τ ∧ sN τ ≤ E.2.1 ∧ sS τ ≤ E.2.2.1 := (oM_of h).2
def f_X1_append_B55 (E : PE) (v0 : Option Nat) (σ : PS) : Option (Unit × PS) :=
  (oK 2 v0 σ).bind fun b9 =>
  bd (f_X1_countMarks E v0 σ) fun _ s8 =>
  some ((), s8)
def f_X1_append_L3 (E : PE) : Nat → Option Nat → Int32 → Int64 → Int32 → PS → Option (Unit × PS)
  | 0, _, _, _, _, _ => none
  | n + 1, v0, v1, v2, v4, σ =>
    if v1 ≤ v4 then
      f_X1_append_B55 E v0 σ
    else
      (oGi 2 4 v0 σ).bind fun x1 =>
      if (60 : Int32) ≤ x1 then
        f_X1_append_B55 E v0 σ
      else
        (oGr 2 2 v0 σ).bind fun x2 =>
        (oGi 2 4 v0 σ).bind fun x3 =>
        (oAs x2 x3 ((((v2.toUInt64 >>> (((8 : Int32) * v4).toInt64.toUInt64 &&& Int64.toUInt64 63)).toInt64).toInt32) &&& (255 : Int32)) σ).bind fun s4 =>
        (oGi 2 4 v0 s4).bind fun x5 =>
        (oPi 2 4 v0 (x5 + (1 : Int32)) s4).bind fun s6 =>
        f_X1_append_L3 E n v0 v1 v2 (v4 + 1) s6
def g_X1_append (E : PE) (v0 : Option Nat) (v1 : Int32) (v2 : Int64) (σ : PS) : Option (Unit × PS) :=
  f_X1_append_L3 E E.1 v0 v1 v2 (0 : Int32) σ
def f_X1_append (E : PE) (v0 : Option Nat) (v1 : Int32) (v2 : Int64) (σ : PS) : Option (Unit × PS) := oM E σ (g_X1_append E v0 v1 v2 σ)
theorem mo_X1_append {E : PE} {v0 : Option Nat} {v1 : Int32} {v2 : Int64} {σ τ : PS} {rv : Unit} (h : f_X1_append E v0 v1 v2 σ = some (rv, τ)) : sN σ ≤ sN τ ∧ sS σ ≤ sS τ ∧ sN τ ≤ E.2.1 ∧ sS τ ≤ E.2.2.1 := (oM_of h).2
def f_X5_octets_B19 (E : PE) (σ : PS) : Option (Int32 × PS) :=
  some ((-1 : Int32), σ)
def g_X5_octets (E : PE) (v0 : Option Nat) (v1 : Int32) (v2 : Int32) (v3 : Int64) (σ : PS) : Option (Int32 × PS) :=
  (oK 6 v0 σ).bind fun b3 =>
  bd (f_X5_isEntry E v0 v1 σ) fun r1 s2 =>
  if r1 = 0 then
    f_X5_octets_B19 E s2
  else
    if v2 < (1 : Int32) then
      f_X5_octets_B19 E s2
    else
      if v2 ≤ (8 : Int32) then
        (oGr 6 0 v0 s2).bind fun x4 =>
        (oK 0 x4 s2).bind fun b7 =>
        bd (f_Jx4a65c_get_915e3 E x4 v1 s2) fun r5 s6 =>
        (oCa 2 r5 s6).bind fun u8 =>
        (oGi 2 4 r5 s6).bind fun x9 =>
        if x9 + v2 ≤ (60 : Int32) then
          (oK 2 r5 s6).bind fun b12 =>
          bd (f_X1_append E r5 v2 v3 s6) fun _ s11 =>
          (oPi 6 6 v0 (0 : Int32) s11).bind fun s13 =>
          (oGi 2 4 r5 s13).bind fun x14 =>
          some (x14, s13)
        else
          some ((-3 : Int32), s6)
      else
        f_X5_octets_B19 E s2
def f_X5_octets (E : PE) (v0 : Option Nat) (v1 : Int32) (v2 : Int32) (v3 : Int64) (σ : PS) : Option (Int32 × PS) := oM E σ (g_X5_octets E v0 v1 v2 v3 σ)
theorem mo_X5_octets {E : PE} {v0 : Option Nat} {v1 : Int32} {v2 : Int32} {v3 : Int64} {σ τ : PS} {rv : Int32} (h : f_X5_octets E v0 v1 v2 v3 σ = some (rv, τ)) : sN σ ≤ sN τ ∧ sS σ ≤ sS τ ∧ sN τ ≤ E.2.1 ∧ sS τ ≤ E.2.2.1 := (oM_of h).2
def f_X5_isByteOf_B35 (E : PE) (w0 : Int32) (σ : PS) : Option (Int32 × PS) :=
  if w0 = 0 ∨ w0 = 1 then some (w0, σ) else none
def f_X5_isByteOf_B34 (E : PE) (σ : PS) : Option (Int32 × PS) :=
  f_X5_isByteOf_B35 E (0 : Int32) σ
def g_X5_isByteOf (E : PE) (v0 : Option Nat) (v1 : Int32) (v2 : Int32) (σ : PS) : Option (Int32 × PS) :=
  (oK 6 v0 σ).bind fun b3 =>
  bd (f_X5_isEntry E v0 v1 σ) fun r1 s2 =>
  if r1 = 0 then
    f_X5_isByteOf_B34 E s2
  else
    if v2 < 0 then
      f_X5_isByteOf_B34 E s2
    else
      (oGr 6 0 v0 s2).bind fun x4 =>
      (oK 0 x4 s2).bind fun b7 =>
      bd (f_Jx4a65c_get_915e3 E x4 v1 s2) fun r5 s6 =>
      (oCa 2 r5 s6).bind fun u8 =>
      (oGi 2 4 r5 s6).bind fun x9 =>
      if x9 ≤ v2 then
        f_X5_isByteOf_B34 E s6
      else
        f_X5_isByteOf_B35 E (1 : Int32) s6
def f_X5_isByteOf (E : PE) (v0 : Option Nat) (v1 : Int32) (v2 : Int32) (σ : PS) : Option (Int32 × PS) := oM E σ (g_X5_isByteOf E v0 v1 v2 σ)
theorem mo_X5_isByteOf {E : PE} {v0 : Option Nat} {v1 : Int32} {v2 : Int32} {σ τ : PS} {rv : Int32} (h : f_X5_isByteOf E v0 v1 v2 σ = some (rv, τ)) : sN σ ≤ sN τ ∧ sS σ ≤ sS τ ∧ sN τ ≤ E.2.1 ∧ sS τ ≤ E.2.2.1 := (oM_of h).2
def f_X1_replace_B23 (E : PE) (σ : PS) : Option (Unit × PS) :=
  some ((), σ)
def g_X1_replace (E : PE) (v0 : Option Nat) (v1 : Int32) (v2 : Int32) (σ : PS) : Option (Unit × PS) :=
  if v1 < 0 then
    f_X1_replace_B23 E σ
  else
    (oGi 2 4 v0 σ).bind fun x1 =>
    if x1 ≤ v1 then
      f_X1_replace_B23 E σ
    else
      (oGr 2 2 v0 σ).bind fun x2 =>
      (oAs x2 v1 v2 σ).bind fun s3 =>
      (oK 2 v0 s3).bind fun b6 =>
      bd (f_X1_countMarks E v0 s3) fun _ s5 =>
      f_X1_replace_B23 E s5
def f_X1_replace (E : PE) (v0 : Option Nat) (v1 : Int32) (v2 : Int32) (σ : PS) : Option (Unit × PS) := oM E σ (g_X1_replace E v0 v1 v2 σ)
theorem mo_X1_replace {E : PE} {v0 : Option Nat} {v1 : Int32} {v2 : Int32} {σ τ : PS} {rv : Unit} (h : f_X1_replace E v0 v1 v2 σ = some (rv, τ)) : sN σ ≤ sN τ ∧ sS σ ≤ sS τ ∧ sN τ ≤ E.2.1 ∧ sS τ ≤ E.2.2.1 := (oM_of h).2
def f_X1_isKept_B16 (E : PE) (w0 : Int32) (σ : PS) : Option (Int32 × PS) :=
  if w0 = 0 ∨ w0 = 1 then some (w0, σ) else none
def g_X1_isKept (E : PE) (v0 : Option Nat) (σ : PS) : Option (Int32 × PS) :=
  (oGi 2 5 v0 σ).bind fun x1 =>
  (oGi 2 0 v0 σ).bind fun x2 =>
  if x1 = x2 then
    f_X1_isKept_B16 E (1 : Int32) σ
  else
    f_X1_isKept_B16 E (0 : Int32) σ
def f_X1_isKept (E : PE) (v0 : Option Nat) (σ : PS) : Option (Int32 × PS) := oM E σ (g_X1_isKept E v0 σ)
theorem mo_X1_isKept {E : PE} {v0 : Option Nat} {σ τ : PS} {rv : Int32} (h : f_X1_isKept E v0 σ = some (rv, τ)) : sN σ ≤ sN τ ∧ sS σ ≤ sS τ ∧ sN τ ≤ E.2.1 ∧ sS τ ≤ E.2.2.1 := (oM_of h).2
def f_X5_lastGroupOf_L10 (E : PE) : Nat → Option Nat → Int32 → Int32 → PS → Option (Int32 × PS)
  | 0, _, _, _, _ => none
  | n + 1, v0, v1, v2, σ =>
    if v2 < 0 then
      some ((-1 : Int32), σ)
    else
      (oGr 6 1 v0 σ).bind fun x5 =>
      (oK 0 x5 σ).bind fun b8 =>
      bd (f_Jx4a65c_get_915e3 E x5 v2 σ) fun r6 s7 =>
      (oCa 3 r6 s7).bind fun u9 =>
      (oGi 3 2 r6 s7).bind fun x10 =>
      if x10 = v1 then
        some (v2, s7)
      else
        f_X5_lastGroupOf_L10 E n v0 v1 (v2 + (-1)) s7
def g_X5_lastGroupOf (E : PE) (v0 : Option Nat) (v1 : Int32) (σ : PS) : Option (Int32 × PS) :=
  (oGr 6 1 v0 σ).bind fun x1 =>
  (oK 0 x1 σ).bind fun b4 =>
  bd (f_Jx4a65c_size_8abf5 E x1 σ) fun r2 s3 =>
  f_X5_lastGroupOf_L10 E E.1 v0 v1 (r2 - (1 : Int32)) s3
def f_X5_lastGroupOf (E : PE) (v0 : Option Nat) (v1 : Int32) (σ : PS) : Option (Int32 × PS) := oM E σ (g_X5_lastGroupOf E v0 v1 σ)
theorem mo_X5_lastGroupOf {E : PE} {v0 : Option Nat} {v1 : Int32} {σ τ : PS} {rv : Int32} (h : f_X5_lastGroupOf E v0 v1 σ = some (rv, τ)) : sN σ ≤ sN τ ∧ sS σ ≤ sS τ ∧ sN τ ≤ E.2.1 ∧ sS τ ≤ E.2.2.1 := (oM_of h).2
def f_X5_isGroup_B20 (E : PE) (w0 : Int32) (σ : PS) : Option (Int32 × PS) :=
  if w0 = 0 ∨ w0 = 1 then some (w0, σ) else none
def f_X5_isGroup_B19 (E : PE) (σ : PS) : Option (Int32 × PS) :=
  f_X5_isGroup_B20 E (0 : Int32) σ
def g_X5_isGroup (E : PE) (v0 : Option Nat) (v1 : Int32) (σ : PS) : Option (Int32 × PS) :=
  if v1 < 0 then
    f_X5_isGroup_B19 E σ
  else
    (oGr 6 1 v0 σ).bind fun x1 =>
    (oK 0 x1 σ).bind fun b4 =>
    bd (f_Jx4a65c_size_8abf5 E x1 σ) fun r2 s3 =>
    if r2 ≤ v1 then
      f_X5_isGroup_B19 E s3
    else
      f_X5_isGroup_B20 E (1 : Int32) s3
def f_X5_isGroup (E : PE) (v0 : Option Nat) (v1 : Int32) (σ : PS) : Option (Int32 × PS) := oM E σ (g_X5_isGroup E v0 v1 σ)
theorem mo_X5_isGroup {E : PE} {v0 : Option Nat} {v1 : Int32} {σ τ : PS} {rv : Int32} (h : f_X5_isGroup E v0 v1 σ = some (rv, τ)) : sN σ ≤ sN τ ∧ sS σ ≤ sS τ ∧ sN τ ≤ E.2.1 ∧ sS τ ≤ E.2.2.1 := (oM_of h).2
def f_X2_bytesBefore_B43 (E : PE) (v2 : Int32) (σ : PS) : Option (Int32 × PS) :=
  some (v2, σ)
def f_X2_bytesBefore_L4 (E : PE) : Nat → Option Nat → Int32 → Int32 → Int32 → PS → Option (Int32 × PS)
  | 0, _, _, _, _, _ => none
  | n + 1, v0, v1, v2, v3, σ =>
    if v1 ≤ v3 then
      f_X2_bytesBefore_B43 E v2 σ
    else
      (oGr 3 0 v0 σ).bind fun x1 =>
      (oK 0 x1 σ).bind fun b4 =>
      bd (f_Jx4a65c_size_8abf5 E x1 σ) fun r2 s3 =>
      if r2 ≤ v3 then
        f_X2_bytesBefore_B43 E v2 s3
      else
        (oGr 3 0 v0 s3).bind fun x5 =>
        (oK 0 x5 s3).bind fun b8 =>
        bd (f_Jx4a65c_get_915e3 E x5 v3 s3) fun r6 s7 =>
        (oCa 2 r6 s7).bind fun u9 =>
        (oGi 2 4 r6 s7).bind fun x10 =>
        f_X2_bytesBefore_L4 E n v0 v1 (v2 + x10) (v3 + 1) s7
def g_X2_bytesBefore (E : PE) (v0 : Option Nat) (v1 : Int32) (σ : PS) : Option (Int32 × PS) :=
  f_X2_bytesBefore_L4 E E.1 v0 v1 (0 : Int32) (0 : Int32) σ
def f_X2_bytesBefore (E : PE) (v0 : Option Nat) (v1 : Int32) (σ : PS) : Option (Int32 × PS) := oM E σ (g_X2_bytesBefore E v0 v1 σ)
theorem mo_X2_bytesBefore {E : PE} {v0 : Option Nat} {v1 : Int32} {σ τ : PS} {rv : Int32} (h : f_X2_bytesBefore E v0 v1 σ = some (rv, τ)) : sN σ ≤ sN τ ∧ sS σ ≤ sS τ ∧ sN τ ≤ E.2.1 ∧ sS τ ≤ E.2.2.1 := (oM_of h).2
def g_X2_byteCount (E : PE) (v0 : Option Nat) (σ : PS) : Option (Int32 × PS) :=
  (oGr 3 0 v0 σ).bind fun x1 =>
  (oK 0 x1 σ).bind fun b4 =>
  bd (f_Jx4a65c_size_8abf5 E x1 σ) fun r2 s3 =>
  (oK 3 v0 s3).bind fun b7 =>
  bd (f_X2_bytesBefore E v0 r2 s3) fun r5 s6 =>
  some (r5, s6)
def f_X2_byteCount (E : PE) (v0 : Option Nat) (σ : PS) : Option (Int32 × PS) := oM E σ (g_X2_byteCount E v0 σ)
theorem mo_X2_byteCount {E : PE} {v0 : Option Nat} {σ τ : PS} {rv : Int32} (h : f_X2_byteCount E v0 σ = some (rv, τ)) : sN σ ≤ sN τ ∧ sS σ ≤ sS τ ∧ sN τ ≤ E.2.1 ∧ sS τ ≤ E.2.2.1 := (oM_of h).2
def f_Jx4a65c_isEmpty_aae02_B12 (E : PE) (w0 : Int32) (σ : PS) : Option (Int32 × PS) :=
  if w0 = 0 ∨ w0 = 1 then some (w0, σ) else none
def g_Jx4a65c_isEmpty_aae02 (E : PE) (v0 : Option Nat) (σ : PS) : Option (Int32 × PS) :=
  (oGi 0 2 v0 σ).bind fun x1 =>
  if x1 = 0 then
    f_Jx4a65c_isEmpty_aae02_B12 E (1 : Int32) σ
  else
    f_Jx4a65c_isEmpty_aae02_B12 E (0 : Int32) σ
def f_Jx4a65c_isEmpty_aae02 (E : PE) (v0 : Option Nat) (σ : PS) : Option (Int32 × PS) := oM E σ (g_Jx4a65c_isEmpty_aae02 E v0 σ)
theorem mo_Jx4a65c_isEmpty_aae02 {E : PE} {v0 : Option Nat} {σ τ : PS} {rv : Int32} (h : f_Jx4a65c_isEmpty_aae02 E v0 σ = some (rv, τ)) : sN σ ≤ sN τ ∧ sS σ ≤ sS τ ∧ sN τ ≤ E.2.1 ∧ sS τ ≤ E.2.2.1 := (oM_of h).2
def g_X4_init (E : PE) (v0 : Option Nat) (σ : PS) : Option (Unit × PS) :=
  (oK 5 v0 σ).bind fun b1 =>
  bd (oNa E 100 (400 : Int32) σ) fun x2 s3 =>
  (oPr 5 0 v0 x2 s3).bind fun s4 =>
  bd (oNa E 100 (400 : Int32) s4) fun x5 s6 =>
  (oPr 5 1 v0 x5 s6).bind fun s7 =>
  bd (oNa E 100 (400 : Int32) s7) fun x8 s9 =>
  (oPr 5 2 v0 x8 s9).bind fun s10 =>
  (oPi 5 3 v0 (0 : Int32) s10).bind fun s11 =>
  (oPi 5 4 v0 (0 : Int32) s11).bind fun s12 =>
  some ((), s12)
def f_X4_init (E : PE) (v0 : Option Nat) (σ : PS) : Option (Unit × PS) := oM E σ (g_X4_init E v0 σ)
theorem mo_X4_init {E : PE} {v0 : Option Nat} {σ τ : PS} {rv : Unit} (h : f_X4_init E v0 σ = some (rv, τ)) : sN σ ≤ sN τ ∧ sS σ ≤ sS τ ∧ sN τ ≤ E.2.1 ∧ sS τ ≤ E.2.2.1 := (oM_of h).2
def g_X2_init (E : PE) (v0 : Option Nat) (σ : PS) : Option (Unit × PS) :=
  (oK 3 v0 σ).bind fun b1 =>
  bd (oNw E 0 3 σ) fun x2 s3 =>
  (oK 0 x2 s3).bind fun b6 =>
  bd (f_Jx4a65c_init_da8c8 E x2 s3) fun _ s5 =>
  (oPr 3 0 v0 x2 s5).bind fun s7 =>
  bd (oNw E 5 5 s7) fun x8 s9 =>
  (oK 5 x8 s9).bind fun b12 =>
  bd (f_X4_init E x8 s9) fun _ s11 =>
  (oPr 3 1 v0 x8 s11).bind fun s13 =>
  (oPi 3 2 v0 (0 : Int32) s13).bind fun s14 =>
  (oPi 3 3 v0 (0 : Int32) s14).bind fun s15 =>
  some ((), s15)
def f_X2_init (E : PE) (v0 : Option Nat) (σ : PS) : Option (Unit × PS) := oM E σ (g_X2_init E v0 σ)
theorem mo_X2_init {E : PE} {v0 : Option Nat} {σ τ : PS} {rv : Unit} (h : f_X2_init E v0 σ = some (rv, τ)) : sN σ ≤ sN τ ∧ sS σ ≤ sS τ ∧ sN τ ≤ E.2.1 ∧ sS τ ≤ E.2.2.1 := (oM_of h).2
def f_Jx4a65c_fastRemove_b59b0_B34 (E : PE) (v0 : Option Nat) (v1 : Option Nat) (v3 : Int32) (σ : PS) : Option (Unit × PS) :=
  (oPi 0 2 v0 v3 σ).bind fun s5 =>
  (oQs v1 v3 none s5).bind fun s6 =>
  some ((), s6)
def g_Jx4a65c_fastRemove_b59b0 (E : PE) (v0 : Option Nat) (v1 : Option Nat) (v2 : Int32) (σ : PS) : Option (Unit × PS) :=
  (oGi 0 0 v0 σ).bind fun x1 =>
  (oPi 0 0 v0 (x1 + (1 : Int32)) σ).bind fun s2 =>
  (oGi 0 2 v0 s2).bind fun x3 =>
  if x3 - (1 : Int32) ≤ v2 then
    f_Jx4a65c_fastRemove_b59b0_B34 E v0 v1 (x3 - (1 : Int32)) s2
  else
    (oCp v1 (v2 + (1 : Int32)) v1 v2 ((x3 - (1 : Int32)) - v2) s2).bind fun s4 =>
    f_Jx4a65c_fastRemove_b59b0_B34 E v0 v1 (x3 - (1 : Int32)) s4
def f_Jx4a65c_fastRemove_b59b0 (E : PE) (v0 : Option Nat) (v1 : Option Nat) (v2 : Int32) (σ : PS) : Option (Unit × PS) := oM E σ (g_Jx4a65c_fastRemove_b59b0 E v0 v1 v2 σ)
theorem mo_Jx4a65c_fastRemove_b59b0 {E : PE} {v0 : Option Nat} {v1 : Option Nat} {v2 : Int32} {σ τ : PS} {rv : Unit} (h : f_Jx4a65c_fastRemove_b59b0 E v0 v1 v2 σ = some (rv, τ)) : sN σ ≤ sN τ ∧ sS σ ≤ sS τ ∧ sN τ ≤ E.2.1 ∧ sS τ ≤ E.2.2.1 := (oM_of h).2
def g_Jx4a65c_remove_915e3 (E : PE) (v0 : Option Nat) (v1 : Int32) (σ : PS) : Option ((Option Nat) × PS) :=
  (oGi 0 2 v0 σ).bind fun x1 =>
  bd (f_J15_checkIndex_7cf53 E v1 x1 σ) fun r2 s3 =>
  (oGr 0 1 v0 s3).bind fun x4 =>
  (oQl x4 v1 s3).bind fun x5 =>
  (oK 0 v0 s3).bind fun b8 =>
  bd (f_Jx4a65c_fastRemove_b59b0 E v0 x4 v1 s3) fun _ s7 =>
  some (x5, s7)
def f_Jx4a65c_remove_915e3 (E : PE) (v0 : Option Nat) (v1 : Int32) (σ : PS) : Option ((Option Nat) × PS) := oM E σ (g_Jx4a65c_remove_915e3 E v0 v1 σ)
theorem mo_Jx4a65c_remove_915e3 {E : PE} {v0 : Option Nat} {v1 : Int32} {σ τ : PS} {rv : Option Nat} (h : f_Jx4a65c_remove_915e3 E v0 v1 σ = some (rv, τ)) : sN σ ≤ sN τ ∧ sS σ ≤ sS τ ∧ sN τ ≤ E.2.1 ∧ sS τ ≤ E.2.2.1 := (oM_of h).2
def f_Jx4a65c_clear_da8c8_L27 (E : PE) : Nat → Option Nat → Int32 → Int32 → PS → Option (Unit × PS)
  | 0, _, _, _, _ => none
  | n + 1, v1, v2, v3, σ =>
    if v2 ≤ v3 then
      some ((), σ)
    else
      (oQs v1 v3 none σ).bind fun s6 =>
      f_Jx4a65c_clear_da8c8_L27 E n v1 v2 (v3 + 1) s6
def g_Jx4a65c_clear_da8c8 (E : PE) (v0 : Option Nat) (σ : PS) : Option (Unit × PS) :=
  (oGi 0 0 v0 σ).bind fun x1 =>
  (oPi 0 0 v0 (x1 + (1 : Int32)) σ).bind fun s2 =>
  (oGr 0 1 v0 s2).bind fun x3 =>
  (oGi 0 2 v0 s2).bind fun x4 =>
  (oPi 0 2 v0 (0 : Int32) s2).bind fun s5 =>
  f_Jx4a65c_clear_da8c8_L27 E E.1 x3 x4 (0 : Int32) s5
def f_Jx4a65c_clear_da8c8 (E : PE) (v0 : Option Nat) (σ : PS) : Option (Unit × PS) := oM E σ (g_Jx4a65c_clear_da8c8 E v0 σ)
theorem mo_Jx4a65c_clear_da8c8 {E : PE} {v0 : Option Nat} {σ τ : PS} {rv : Unit} (h : f_Jx4a65c_clear_da8c8 E v0 σ = some (rv, τ)) : sN σ ≤ sN τ ∧ sS σ ≤ sS τ ∧ sN τ ≤ E.2.1 ∧ sS τ ≤ E.2.2.1 := (oM_of h).2
def g_X4_clear (E : PE) (v0 : Option Nat) (σ : PS) : Option (Unit × PS) :=
  (oPi 5 3 v0 (0 : Int32) σ).bind fun s1 =>
  (oPi 5 4 v0 (0 : Int32) s1).bind fun s2 =>
  some ((), s2)
def f_X4_clear (E : PE) (v0 : Option Nat) (σ : PS) : Option (Unit × PS) := oM E σ (g_X4_clear E v0 σ)
theorem mo_X4_clear {E : PE} {v0 : Option Nat} {σ τ : PS} {rv : Unit} (h : f_X4_clear E v0 σ = some (rv, τ)) : sN σ ≤ sN τ ∧ sS σ ≤ sS τ ∧ sN τ ≤ E.2.1 ∧ sS τ ≤ E.2.2.1 := (oM_of h).2
def g_X2_begin (E : PE) (v0 : Option Nat) (v1 : Int32) (σ : PS) : Option (Unit × PS) :=
  (oPi 3 2 v0 v1 σ).bind fun s1 =>
  (oPi 3 3 v0 (0 : Int32) s1).bind fun s2 =>
  (oGr 3 0 v0 s2).bind fun x3 =>
  (oK 0 x3 s2).bind fun b6 =>
  bd (f_Jx4a65c_clear_da8c8 E x3 s2) fun _ s5 =>
  (oGr 3 1 v0 s5).bind fun x7 =>
  (oK 5 x7 s5).bind fun b10 =>
  bd (f_X4_clear E x7 s5) fun _ s9 =>
  some ((), s9)
def f_X2_begin (E : PE) (v0 : Option Nat) (v1 : Int32) (σ : PS) : Option (Unit × PS) := oM E σ (g_X2_begin E v0 v1 σ)
theorem mo_X2_begin {E : PE} {v0 : Option Nat} {v1 : Int32} {σ τ : PS} {rv : Unit} (h : f_X2_begin E v0 v1 σ = some (rv, τ)) : sN σ ≤ sN τ ∧ sS σ ≤ sS τ ∧ sN τ ≤ E.2.1 ∧ sS τ ≤ E.2.2.1 := (oM_of h).2
def f_X5_freshGroup_B39 (E : PE) (v1 : Int32) (w0 : Option Nat) (σ : PS) : Option ((Option Nat) × PS) :=
  (oK 3 w0 σ).bind fun b21 =>
  bd (f_X2_begin E w0 v1 σ) fun _ s20 =>
  some (w0, s20)
def g_X5_freshGroup (E : PE) (v0 : Option Nat) (v1 : Int32) (σ : PS) : Option ((Option Nat) × PS) :=
  (oGr 6 2 v0 σ).bind fun x1 =>
  (oK 0 x1 σ).bind fun b4 =>
  bd (f_Jx4a65c_isEmpty_aae02 E x1 σ) fun r2 s3 =>
  if r2 = 0 then
    (oGr 6 2 v0 s3).bind fun x5 =>
    (oGr 6 2 v0 s3).bind fun x6 =>
    (oK 0 x6 s3).bind fun b9 =>
    bd (f_Jx4a65c_size_8abf5 E x6 s3) fun r7 s8 =>
    (oK 0 x5 s8).bind fun b12 =>
    bd (f_Jx4a65c_remove_915e3 E x5 (r7 - (1 : Int32)) s8) fun r10 s11 =>
    (oCa 3 r10 s11).bind fun u13 =>
    f_X5_freshGroup_B39 E v1 r10 s11
  else
    bd (oNw E 3 4 s3) fun x14 s15 =>
    (oK 3 x14 s15).bind fun b18 =>
    bd (f_X2_init E x14 s15) fun _ s17 =>
    f_X5_freshGroup_B39 E v1 x14 s17
def f_X5_freshGroup (E : PE) (v0 : Option Nat) (v1 : Int32) (σ : PS) : Option ((Option Nat) × PS) := oM E σ (g_X5_freshGroup E v0 v1 σ)
theorem mo_X5_freshGroup {E : PE} {v0 : Option Nat} {v1 : Int32} {σ τ : PS} {rv : Option Nat} (h : f_X5_freshGroup E v0 v1 σ = some (rv, τ)) : sN σ ≤ sN τ ∧ sS σ ≤ sS τ ∧ sN τ ≤ E.2.1 ∧ sS τ ≤ E.2.2.1 := (oM_of h).2
def f_Jx4a65c_rangeCheckForAdd_d00df_B12 (E : PE) (v0 : Option Nat) (v1 : Int32) (σ : PS) : Option (Unit × PS) :=
  none
def g_Jx4a65c_rangeCheckForAdd_d00df (E : PE) (v0 : Option Nat) (v1 : Int32) (σ : PS) : Option (Unit × PS) :=
  (oGi 0 2 v0 σ).bind fun x1 =>
  if x1 < v1 then
    f_Jx4a65c_rangeCheckForAdd_d00df_B12 E v0 v1 σ
  else
    if 0 ≤ v1 then
      some ((), σ)
    else
      f_Jx4a65c_rangeCheckForAdd_d00df_B12 E v0 v1 σ
def f_Jx4a65c_rangeCheckForAdd_d00df (E : PE) (v0 : Option Nat) (v1 : Int32) (σ : PS) : Option (Unit × PS) := oM E σ (g_Jx4a65c_rangeCheckForAdd_d00df E v0 v1 σ)
theorem mo_Jx4a65c_rangeCheckForAdd_d00df {E : PE} {v0 : Option Nat} {v1 : Int32} {σ τ : PS} {rv : Unit} (h : f_Jx4a65c_rangeCheckForAdd_d00df E v0 v1 σ = some (rv, τ)) : sN σ ≤ sN τ ∧ sS σ ≤ sS τ ∧ sN τ ≤ E.2.1 ∧ sS τ ≤ E.2.2.1 := (oM_of h).2
def f_Jx4a65c_add_7a177_B38 (E : PE) (v0 : Option Nat) (v1 : Int32) (v2 : Option Nat) (v3 : Int32) (v4 : Option Nat) (σ : PS) : Option (Unit × PS) :=
  (oCp v4 v1 v4 (v1 + (1 : Int32)) (v3 - v1) σ).bind fun s12 =>
  (oQs v4 v1 v2 s12).bind fun s13 =>
  (oPi 0 2 v0 (v3 + (1 : Int32)) s13).bind fun s14 =>
  some ((), s14)
def g_Jx4a65c_add_7a177 (E : PE) (v0 : Option Nat) (v1 : Int32) (v2 : Option Nat) (σ : PS) : Option (Unit × PS) :=
  (oK 0 v0 σ).bind fun b3 =>
  bd (f_Jx4a65c_rangeCheckForAdd_d00df E v0 v1 σ) fun _ s2 =>
  (oGi 0 0 v0 s2).bind fun x4 =>
  (oPi 0 0 v0 (x4 + (1 : Int32)) s2).bind fun s5 =>
  (oGi 0 2 v0 s5).bind fun x6 =>
  (oGr 0 1 v0 s5).bind fun x7 =>
  (oLn E x7 s5).bind fun x8 =>
  if x6 = x8 then
    (oK 0 v0 s5).bind fun b11 =>
    bd (f_Jx4a65c_grow_d5877 E v0 s5) fun r9 s10 =>
    f_Jx4a65c_add_7a177_B38 E v0 v1 v2 x6 r9 s10
  else
    f_Jx4a65c_add_7a177_B38 E v0 v1 v2 x6 x7 s5
def f_Jx4a65c_add_7a177 (E : PE) (v0 : Option Nat) (v1 : Int32) (v2 : Option Nat) (σ : PS) : Option (Unit × PS) := oM E σ (g_Jx4a65c_add_7a177 E v0 v1 v2 σ)
theorem mo_Jx4a65c_add_7a177 {E : PE} {v0 : Option Nat} {v1 : Int32} {v2 : Option Nat} {σ τ : PS} {rv : Unit} (h : f_Jx4a65c_add_7a177 E v0 v1 v2 σ = some (rv, τ)) : sN σ ≤ sN τ ∧ sS σ ≤ sS τ ∧ sN τ ≤ E.2.1 ∧ sS τ ≤ E.2.2.1 := (oM_of h).2
def f_X5_putAtEndOf_B99 (E : PE) (v4 : Option Nat) (w0 : Option Nat) (w1 : Int32) (σ : PS) : Option ((Option Nat) × PS) :=
  (oK 0 w0 σ).bind fun b38 =>
  bd (f_Jx4a65c_add_7a177 E w0 w1 v4 σ) fun _ s37 =>
  some (v4, s37)
def f_X5_putAtEndOf_B57 (E : PE) (v0 : Option Nat) (v1 : Int32) (v2 : Option Nat) (v3 : Int32) (σ : PS) : Option ((Option Nat) × PS) :=
  (oK 6 v0 σ).bind fun b23 =>
  bd (f_X5_freshGroup E v0 v1 σ) fun r21 s22 =>
  (oGr 3 0 r21 s22).bind fun x24 =>
  (oK 0 x24 s22).bind fun b27 =>
  bd (f_Jx4a65c_add_9ea2d E x24 v2 s22) fun r25 s26 =>
  (oGr 6 1 v0 s26).bind fun x28 =>
  (oK 6 v0 s26).bind fun b31 =>
  bd (f_X5_isGroup E v0 v3 s26) fun r29 s30 =>
  if r29 = 0 then
    (oGr 6 1 v0 s30).bind fun x32 =>
    (oK 0 x32 s30).bind fun b35 =>
    bd (f_Jx4a65c_size_8abf5 E x32 s30) fun r33 s34 =>
    f_X5_putAtEndOf_B99 E r21 x28 r33 s34
  else
    f_X5_putAtEndOf_B99 E r21 x28 (v3 + (1 : Int32)) s30
def g_X5_putAtEndOf (E : PE) (v0 : Option Nat) (v1 : Int32) (v2 : Option Nat) (σ : PS) : Option ((Option Nat) × PS) :=
  (oK 6 v0 σ).bind fun b3 =>
  bd (f_X5_lastGroupOf E v0 v1 σ) fun r1 s2 =>
  (oK 6 v0 s2).bind fun b6 =>
  bd (f_X5_isGroup E v0 r1 s2) fun r4 s5 =>
  if r4 = 0 then
    f_X5_putAtEndOf_B57 E v0 v1 v2 r1 s5
  else
    (oGr 6 1 v0 s5).bind fun x7 =>
    (oK 0 x7 s5).bind fun b10 =>
    bd (f_Jx4a65c_get_915e3 E x7 r1 s5) fun r8 s9 =>
    (oCa 3 r8 s9).bind fun u11 =>
    (oK 3 r8 s9).bind fun b14 =>
    bd (f_X2_byteCount E r8 s9) fun r12 s13 =>
    (oGi 2 4 v2 s13).bind fun x15 =>
    (oGi 6 7 v0 s13).bind fun x16 =>
    if x16 < r12 + x15 then
      f_X5_putAtEndOf_B57 E v0 v1 v2 r1 s13
    else
      (oGr 3 0 r8 s13).bind fun x17 =>
      (oK 0 x17 s13).bind fun b20 =>
      bd (f_Jx4a65c_add_9ea2d E x17 v2 s13) fun r18 s19 =>
      some (r8, s19)
def f_X5_putAtEndOf (E : PE) (v0 : Option Nat) (v1 : Int32) (v2 : Option Nat) (σ : PS) : Option ((Option Nat) × PS) := oM E σ (g_X5_putAtEndOf E v0 v1 v2 σ)
theorem mo_X5_putAtEndOf {E : PE} {v0 : Option Nat} {v1 : Int32} {v2 : Option Nat} {σ τ : PS} {rv : Option Nat} (h : f_X5_putAtEndOf E v0 v1 v2 σ = some (rv, τ)) : sN σ ≤ sN τ ∧ sS σ ≤ sS τ ∧ sN τ ≤ E.2.1 ∧ sS τ ≤ E.2.2.1 := (oM_of h).2
def f_X5_leastTwinOf_B38 (E : PE) (k2 : Option Nat → Int32 → Int32 → PS → Option (Int32 × PS)) (v0 : Option Nat) (v1 : Int32) (v2 : Int32) (σ : PS) : Option (Int32 × PS) :=
  k2 v0 v1 (v2 + 1) σ
def f_X5_leastTwinOf_L2 (E : PE) : Nat → Option Nat → Int32 → Int32 → PS → Option (Int32 × PS)
  | 0, _, _, _, _ => none
  | n + 1, v0, v1, v2, σ =>
    (oGr 6 0 v0 σ).bind fun x1 =>
    (oK 0 x1 σ).bind fun b4 =>
    bd (f_Jx4a65c_size_8abf5 E x1 σ) fun r2 s3 =>
    if r2 ≤ v2 then
      some ((-1 : Int32), s3)
    else
      if v2 = v1 then
        f_X5_leastTwinOf_B38 E (f_X5_leastTwinOf_L2 E n) v0 v1 v2 s3
      else
        (oGr 6 0 v0 s3).bind fun x5 =>
        (oK 0 x5 s3).bind fun b8 =>
        bd (f_Jx4a65c_get_915e3 E x5 v2 s3) fun r6 s7 =>
        (oCa 2 r6 s7).bind fun u9 =>
        (oGi 2 5 r6 s7).bind fun x10 =>
        if x10 = v1 then
          some (v2, s7)
        else
          f_X5_leastTwinOf_B38 E (f_X5_leastTwinOf_L2 E n) v0 v1 v2 s7
def g_X5_leastTwinOf (E : PE) (v0 : Option Nat) (v1 : Int32) (σ : PS) : Option (Int32 × PS) :=
  f_X5_leastTwinOf_L2 E E.1 v0 v1 (0 : Int32) σ
def f_X5_leastTwinOf (E : PE) (v0 : Option Nat) (v1 : Int32) (σ : PS) : Option (Int32 × PS) := oM E σ (g_X5_leastTwinOf E v0 v1 σ)
theorem mo_X5_leastTwinOf {E : PE} {v0 : Option Nat} {v1 : Int32} {σ τ : PS} {rv : Int32} (h : f_X5_leastTwinOf E v0 v1 σ = some (rv, τ)) : sN σ ≤ sN τ ∧ sS σ ≤ sS τ ∧ sN τ ≤ E.2.1 ∧ sS τ ≤ E.2.2.1 := (oM_of h).2
def f_X2_indexOf_L2 (E : PE) : Nat → Option Nat → Int32 → Int32 → PS → Option (Int32 × PS)
  | 0, _, _, _, _ => none
  | n + 1, v0, v1, v2, σ =>
    (oGr 3 0 v0 σ).bind fun x1 =>
    (oK 0 x1 σ).bind fun b4 =>
    bd (f_Jx4a65c_size_8abf5 E x1 σ) fun r2 s3 =>
    if r2 ≤ v2 then
      some ((-1 : Int32), s3)
    else
      (oGr 3 0 v0 s3).bind fun x5 =>
      (oK 0 x5 s3).bind fun b8 =>
      bd (f_Jx4a65c_get_915e3 E x5 v2 s3) fun r6 s7 =>
      (oCa 2 r6 s7).bind fun u9 =>
      (oGi 2 0 r6 s7).bind fun x10 =>
      if x10 = v1 then
        some (v2, s7)
      else
        f_X2_indexOf_L2 E n v0 v1 (v2 + 1) s7
def g_X2_indexOf (E : PE) (v0 : Option Nat) (v1 : Int32) (σ : PS) : Option (Int32 × PS) :=
  f_X2_indexOf_L2 E E.1 v0 v1 (0 : Int32) σ
def f_X2_indexOf (E : PE) (v0 : Option Nat) (v1 : Int32) (σ : PS) : Option (Int32 × PS) := oM E σ (g_X2_indexOf E v0 v1 σ)
theorem mo_X2_indexOf {E : PE} {v0 : Option Nat} {v1 : Int32} {σ τ : PS} {rv : Int32} (h : f_X2_indexOf E v0 v1 σ = some (rv, τ)) : sN σ ≤ sN τ ∧ sS σ ≤ sS τ ∧ sN τ ≤ E.2.1 ∧ sS τ ≤ E.2.2.1 := (oM_of h).2
def f_X5_groupNumberOf_L2 (E : PE) : Nat → Option Nat → Int32 → Int32 → PS → Option (Int32 × PS)
  | 0, _, _, _, _ => none
  | n + 1, v0, v1, v2, σ =>
    (oGr 6 1 v0 σ).bind fun x1 =>
    (oK 0 x1 σ).bind fun b4 =>
    bd (f_Jx4a65c_size_8abf5 E x1 σ) fun r2 s3 =>
    if r2 ≤ v2 then
      some ((-1 : Int32), s3)
    else
      (oGr 6 1 v0 s3).bind fun x5 =>
      (oK 0 x5 s3).bind fun b8 =>
      bd (f_Jx4a65c_get_915e3 E x5 v2 s3) fun r6 s7 =>
      (oCa 3 r6 s7).bind fun u9 =>
      (oK 3 r6 s7).bind fun b12 =>
      bd (f_X2_indexOf E r6 v1 s7) fun r10 s11 =>
      if r10 = (-1 : Int32) then
        f_X5_groupNumberOf_L2 E n v0 v1 (v2 + 1) s11
      else
        some (v2, s11)
def g_X5_groupNumberOf (E : PE) (v0 : Option Nat) (v1 : Int32) (σ : PS) : Option (Int32 × PS) :=
  f_X5_groupNumberOf_L2 E E.1 v0 v1 (0 : Int32) σ
def f_X5_groupNumberOf (E : PE) (v0 : Option Nat) (v1 : Int32) (σ : PS) : Option (Int32 × PS) := oM E σ (g_X5_groupNumberOf E v0 v1 σ)
theorem mo_X5_groupNumberOf {E : PE} {v0 : Option Nat} {v1 : Int32} {σ τ : PS} {rv : Int32} (h : f_X5_groupNumberOf E v0 v1 σ = some (rv, τ)) : sN σ ≤ sN τ ∧ sS σ ≤ sS τ ∧ sN τ ≤ E.2.1 ∧ sS τ ≤ E.2.2.1 := (oM_of h).2
def g_Jx4a65c_set_bcc79 (E : PE) (v0 : Option Nat) (v1 : Int32) (v2 : Option Nat) (σ : PS) : Option ((Option Nat) × PS) :=
  (oGi 0 2 v0 σ).bind fun x1 =>
  bd (f_J15_checkIndex_7cf53 E v1 x1 σ) fun r2 s3 =>
  (oK 0 v0 s3).bind fun b6 =>
  bd (f_Jx4a65c_elementData_915e3 E v0 v1 s3) fun r4 s5 =>
  (oGr 0 1 v0 s5).bind fun x7 =>
  (oQs x7 v1 v2 s5).bind fun s8 =>
  some (r4, s8)
def f_Jx4a65c_set_bcc79 (E : PE) (v0 : Option Nat) (v1 : Int32) (v2 : Option Nat) (σ : PS) : Option ((Option Nat) × PS) := oM E σ (g_Jx4a65c_set_bcc79 E v0 v1 v2 σ)
theorem mo_Jx4a65c_set_bcc79 {E : PE} {v0 : Option Nat} {v1 : Int32} {v2 : Option Nat} {σ τ : PS} {rv : Option Nat} (h : f_Jx4a65c_set_bcc79 E v0 v1 v2 σ = some (rv, τ)) : sN σ ≤ sN τ ∧ sS σ ≤ sS τ ∧ sN τ ≤ E.2.1 ∧ sS τ ≤ E.2.2.1 := (oM_of h).2
def f_X2_exchange_B21 (E : PE) (σ : PS) : Option (Unit × PS) :=
  some ((), σ)
def g_X2_exchange (E : PE) (v0 : Option Nat) (v1 : Int32) (v2 : Option Nat) (σ : PS) : Option (Unit × PS) :=
  (oK 3 v0 σ).bind fun b3 =>
  bd (f_X2_indexOf E v0 v1 σ) fun r1 s2 =>
  if r1 = (-1 : Int32) then
    f_X2_exchange_B21 E s2
  else
    (oGr 3 0 v0 s2).bind fun x4 =>
    (oK 0 x4 s2).bind fun b7 =>
    bd (f_Jx4a65c_set_bcc79 E x4 r1 v2 s2) fun r5 s6 =>
    f_X2_exchange_B21 E s6
def f_X2_exchange (E : PE) (v0 : Option Nat) (v1 : Int32) (v2 : Option Nat) (σ : PS) : Option (Unit × PS) := oM E σ (g_X2_exchange E v0 v1 v2 σ)
theorem mo_X2_exchange {E : PE} {v0 : Option Nat} {v1 : Int32} {v2 : Option Nat} {σ τ : PS} {rv : Unit} (h : f_X2_exchange E v0 v1 v2 σ = some (rv, τ)) : sN σ ≤ sN τ ∧ sS σ ≤ sS τ ∧ sN τ ≤ E.2.1 ∧ sS τ ≤ E.2.2.1 := (oM_of h).2
def f_X5_handOver_B101 (E : PE) (k39 : Option Nat → Option Nat → Option Nat → Int32 → PS → Option (Unit × PS)) (v0 : Option Nat) (v1 : Option Nat) (v2 : Option Nat) (v4 : Int32) (σ : PS) : Option (Unit × PS) :=
  k39 v0 v1 v2 (v4 + 1) σ
def f_X5_handOver_L39 (E : PE) : Nat → Option Nat → Option Nat → Option Nat → Int32 → PS → Option (Unit × PS)
  | 0, _, _, _, _, _ => none
  | n + 1, v0, v1, v2, v4, σ =>
    (oGr 6 0 v0 σ).bind fun x17 =>
    (oK 0 x17 σ).bind fun b20 =>
    bd (f_Jx4a65c_size_8abf5 E x17 σ) fun r18 s19 =>
    if r18 ≤ v4 then
      some ((), s19)
    else
      (oGi 2 0 v1 s19).bind fun x21 =>
      if v4 = x21 then
        f_X5_handOver_B101 E (f_X5_handOver_L39 E n) v0 v1 v2 v4 s19
      else
        (oGr 6 0 v0 s19).bind fun x22 =>
        (oK 0 x22 s19).bind fun b25 =>
        bd (f_Jx4a65c_get_915e3 E x22 v4 s19) fun r23 s24 =>
        (oCa 2 r23 s24).bind fun u26 =>
        (oGi 2 5 r23 s24).bind fun x27 =>
        (oGi 2 0 v1 s24).bind fun x28 =>
        if x27 = x28 then
          (oGr 6 0 v0 s24).bind fun x29 =>
          (oK 0 x29 s24).bind fun b32 =>
          bd (f_Jx4a65c_get_915e3 E x29 v4 s24) fun r30 s31 =>
          (oCa 2 r30 s31).bind fun u33 =>
          (oGi 2 0 v2 s31).bind fun x34 =>
          (oPi 2 5 r30 x34 s31).bind fun s35 =>
          f_X5_handOver_B101 E (f_X5_handOver_L39 E n) v0 v1 v2 v4 s35
        else
          f_X5_handOver_B101 E (f_X5_handOver_L39 E n) v0 v1 v2 v4 s24
def f_X5_handOver_B36 (E : PE) (v0 : Option Nat) (v1 : Option Nat) (v2 : Option Nat) (σ : PS) : Option (Unit × PS) :=
  f_X5_handOver_L39 E E.1 v0 v1 v2 (0 : Int32) σ
def g_X5_handOver (E : PE) (v0 : Option Nat) (v1 : Option Nat) (v2 : Option Nat) (σ : PS) : Option (Unit × PS) :=
  (oGi 2 0 v1 σ).bind fun x1 =>
  (oK 6 v0 σ).bind fun b4 =>
  bd (f_X5_groupNumberOf E v0 x1 σ) fun r2 s3 =>
  (oK 6 v0 s3).bind fun b7 =>
  bd (f_X5_isGroup E v0 r2 s3) fun r5 s6 =>
  if r5 = 0 then
    f_X5_handOver_B36 E v0 v1 v2 s6
  else
    (oGr 6 1 v0 s6).bind fun x8 =>
    (oK 0 x8 s6).bind fun b11 =>
    bd (f_Jx4a65c_get_915e3 E x8 r2 s6) fun r9 s10 =>
    (oCa 3 r9 s10).bind fun u12 =>
    (oGi 2 0 v1 s10).bind fun x13 =>
    (oK 3 r9 s10).bind fun b16 =>
    bd (f_X2_exchange E r9 x13 v2 s10) fun _ s15 =>
    f_X5_handOver_B36 E v0 v1 v2 s15
def f_X5_handOver (E : PE) (v0 : Option Nat) (v1 : Option Nat) (v2 : Option Nat) (σ : PS) : Option (Unit × PS) := oM E σ (g_X5_handOver E v0 v1 v2 σ)
theorem mo_X5_handOver {E : PE} {v0 : Option Nat} {v1 : Option Nat} {v2 : Option Nat} {σ τ : PS} {rv : Unit} (h : f_X5_handOver E v0 v1 v2 σ = some (rv, τ)) : sN σ ≤ sN τ ∧ sS σ ≤ sS τ ∧ sN τ ≤ E.2.1 ∧ sS τ ≤ E.2.2.1 := (oM_of h).2
def f_X5_homeOfChanged_B100 (E : PE) (w0 : Option Nat) (σ : PS) : Option ((Option Nat) × PS) :=
  some (w0, σ)
def g_X5_homeOfChanged (E : PE) (v0 : Option Nat) (v1 : Option Nat) (σ : PS) : Option ((Option Nat) × PS) :=
  (oK 2 v1 σ).bind fun b3 =>
  bd (f_X1_isKept E v1 σ) fun r1 s2 =>
  if r1 = 0 then
    (oGi 2 0 v1 s2).bind fun x35 =>
    (oPi 2 5 v1 x35 s2).bind fun s36 =>
    (oGi 2 1 v1 s36).bind fun x37 =>
    (oK 6 v0 s36).bind fun b40 =>
    bd (f_X5_putAtEndOf E v0 x37 v1 s36) fun r38 s39 =>
    some (r38, s39)
  else
    (oGi 2 0 v1 s2).bind fun x4 =>
    (oK 6 v0 s2).bind fun b7 =>
    bd (f_X5_leastTwinOf E v0 x4 s2) fun r5 s6 =>
    (oK 6 v0 s6).bind fun b10 =>
    bd (f_X5_isEntry E v0 r5 s6) fun r8 s9 =>
    if r8 = 0 then
      (oGi 2 0 v1 s9).bind fun x11 =>
      (oK 6 v0 s9).bind fun b14 =>
      bd (f_X5_groupNumberOf E v0 x11 s9) fun r12 s13 =>
      (oK 6 v0 s13).bind fun b17 =>
      bd (f_X5_isGroup E v0 r12 s13) fun r15 s16 =>
      if r15 = 0 then
        f_X5_homeOfChanged_B100 E none s16
      else
        (oGr 6 1 v0 s16).bind fun x18 =>
        (oK 0 x18 s16).bind fun b21 =>
        bd (f_Jx4a65c_get_915e3 E x18 r12 s16) fun r19 s20 =>
        (oCa 3 r19 s20).bind fun u22 =>
        f_X5_homeOfChanged_B100 E r19 s20
    else
      (oGr 6 0 v0 s9).bind fun x23 =>
      (oK 0 x23 s9).bind fun b26 =>
      bd (f_Jx4a65c_get_915e3 E x23 r5 s9) fun r24 s25 =>
      (oCa 2 r24 s25).bind fun u27 =>
      (oK 6 v0 s25).bind fun b30 =>
      bd (f_X5_handOver E v0 v1 r24 s25) fun _ s29 =>
      (oGi 2 1 v1 s29).bind fun x31 =>
      (oK 6 v0 s29).bind fun b34 =>
      bd (f_X5_putAtEndOf E v0 x31 v1 s29) fun r32 s33 =>
      some (r32, s33)
def f_X5_homeOfChanged (E : PE) (v0 : Option Nat) (v1 : Option Nat) (σ : PS) : Option ((Option Nat) × PS) := oM E σ (g_X5_homeOfChanged E v0 v1 σ)
theorem mo_X5_homeOfChanged {E : PE} {v0 : Option Nat} {v1 : Option Nat} {σ τ : PS} {rv : Option Nat} (h : f_X5_homeOfChanged E v0 v1 σ = some (rv, τ)) : sN σ ≤ sN τ ∧ sS σ ≤ sS τ ∧ sN τ ≤ E.2.1 ∧ sS τ ≤ E.2.2.1 := (oM_of h).2
def f_X3_gather_B78 (E : PE) (k7 : Option Nat → Option Nat → Int32 → PS → Option (Unit × PS)) (v0 : Option Nat) (v1 : Option Nat) (v2 : Int32) (σ : PS) : Option (Unit × PS) :=
  k7 v0 v1 (v2 + 1) σ
def f_X3_gather_L27 (E : PE) (k7 : Option Nat → Option Nat → Int32 → PS → Option (Unit × PS)) : Nat → Option Nat → Option Nat → Int32 → Option Nat → Int32 → PS → Option (Unit × PS)
  | 0, _, _, _, _, _, _ => none
  | n + 1, v0, v1, v2, v3, v4, σ =>
    (oGi 2 4 v3 σ).bind fun x9 =>
    if x9 ≤ v4 then
      f_X3_gather_B78 E k7 v0 v1 v2 σ
    else
      (oGi 4 1 v0 σ).bind fun x10 =>
      if (400 : Int32) ≤ x10 then
        f_X3_gather_B78 E k7 v0 v1 v2 σ
      else
        (oGr 4 0 v0 σ).bind fun x11 =>
        (oGi 4 1 v0 σ).bind fun x12 =>
        (oGr 2 2 v3 σ).bind fun x13 =>
        (oAl x13 v4 σ).bind fun x14 =>
        (oAs x11 x12 x14 σ).bind fun s15 =>
        (oGi 4 1 v0 s15).bind fun x16 =>
        (oPi 4 1 v0 (x16 + (1 : Int32)) s15).bind fun s17 =>
        f_X3_gather_L27 E k7 n v0 v1 v2 v3 (v4 + 1) s17
def f_X3_gather_L7 (E : PE) : Nat → Option Nat → Option Nat → Int32 → PS → Option (Unit × PS)
  | 0, _, _, _, _ => none
  | n + 1, v0, v1, v2, σ =>
    (oK 0 v1 σ).bind fun b4 =>
    bd (f_Jx4a65c_size_8abf5 E v1 σ) fun r2 s3 =>
    if r2 ≤ v2 then
      some ((), s3)
    else
      (oK 0 v1 s3).bind fun b7 =>
      bd (f_Jx4a65c_get_915e3 E v1 v2 s3) fun r5 s6 =>
      (oCa 2 r5 s6).bind fun u8 =>
      f_X3_gather_L27 E (f_X3_gather_L7 E n) E.1 v0 v1 v2 r5 (0 : Int32) s6
def g_X3_gather (E : PE) (v0 : Option Nat) (v1 : Option Nat) (σ : PS) : Option (Unit × PS) :=
  (oPi 4 1 v0 (0 : Int32) σ).bind fun s1 =>
  f_X3_gather_L7 E E.1 v0 v1 (0 : Int32) s1
def f_X3_gather (E : PE) (v0 : Option Nat) (v1 : Option Nat) (σ : PS) : Option (Unit × PS) := oM E σ (g_X3_gather E v0 v1 σ)
theorem mo_X3_gather {E : PE} {v0 : Option Nat} {v1 : Option Nat} {σ τ : PS} {rv : Unit} (h : f_X3_gather E v0 v1 σ = some (rv, τ)) : sN σ ≤ sN τ ∧ sS σ ≤ sS τ ∧ sN τ ≤ E.2.1 ∧ sS τ ≤ E.2.2.1 := (oM_of h).2
def f_X3_sameBytes_B36 (E : PE) (v4 : Int32) (σ : PS) : Option (Int32 × PS) :=
  some (v4, σ)
def f_X3_sameBytes_L3 (E : PE) : Nat → Option Nat → Int32 → Int32 → Int32 → Int32 → PS → Option (Int32 × PS)
  | 0, _, _, _, _, _, _ => none
  | n + 1, v0, v1, v2, v3, v4, σ =>
    if v3 ≤ v4 then
      f_X3_sameBytes_B36 E v4 σ
    else
      (oGr 4 0 v0 σ).bind fun x1 =>
      (oAl x1 (v1 + v4) σ).bind fun x2 =>
      (oGr 4 0 v0 σ).bind fun x3 =>
      (oAl x3 (v2 + v4) σ).bind fun x4 =>
      if x2 = x4 then
        f_X3_sameBytes_L3 E n v0 v1 v2 v3 (v4 + 1) σ
      else
        f_X3_sameBytes_B36 E v4 σ
def g_X3_sameBytes (E : PE) (v0 : Option Nat) (v1 : Int32) (v2 : Int32) (v3 : Int32) (σ : PS) : Option (Int32 × PS) :=
  f_X3_sameBytes_L3 E E.1 v0 v1 v2 v3 (0 : Int32) σ
def f_X3_sameBytes (E : PE) (v0 : Option Nat) (v1 : Int32) (v2 : Int32) (v3 : Int32) (σ : PS) : Option (Int32 × PS) := oM E σ (g_X3_sameBytes E v0 v1 v2 v3 σ)
theorem mo_X3_sameBytes {E : PE} {v0 : Option Nat} {v1 : Int32} {v2 : Int32} {v3 : Int32} {σ τ : PS} {rv : Int32} (h : f_X3_sameBytes E v0 v1 v2 v3 σ = some (rv, τ)) : sN σ ≤ sN τ ∧ sS σ ≤ sS τ ∧ sN τ ≤ E.2.1 ∧ sS τ ≤ E.2.2.1 := (oM_of h).2
def f_X3_findCopy_B74 (E : PE) (σ : PS) : Option (Unit × PS) :=
  some ((), σ)
def f_X3_findCopy_B68 (E : PE) (k24 : Option Nat → Int32 → Int32 → Int32 → PS → Option (Unit × PS)) (v0 : Option Nat) (v1 : Int32) (v2 : Int32) (v3 : Int32) (σ : PS) : Option (Unit × PS) :=
  k24 v0 v1 v2 (v3 + 1) σ
def f_X3_findCopy_L24 (E : PE) : Nat → Option Nat → Int32 → Int32 → Int32 → PS → Option (Unit × PS)
  | 0, _, _, _, _, _ => none
  | n + 1, v0, v1, v2, v3, σ =>
    if v1 < v3 then
      f_X3_findCopy_B74 E σ
    else
      (oGi 4 3 v0 σ).bind fun x4 =>
      if v2 ≤ x4 then
        f_X3_findCopy_B74 E σ
      else
        (oK 4 v0 σ).bind fun b7 =>
        bd (f_X3_sameBytes E v0 (v1 - v3) v1 v2 σ) fun r5 s6 =>
        (oGi 4 3 v0 s6).bind fun x8 =>
        if r5 ≤ x8 then
          f_X3_findCopy_B68 E (f_X3_findCopy_L24 E n) v0 v1 v2 v3 s6
        else
          (oPi 4 2 v0 v3 s6).bind fun s9 =>
          (oPi 4 3 v0 r5 s9).bind fun s10 =>
          f_X3_findCopy_B68 E (f_X3_findCopy_L24 E n) v0 v1 v2 v3 s10
def g_X3_findCopy (E : PE) (v0 : Option Nat) (v1 : Int32) (σ : PS) : Option (Unit × PS) :=
  (oGi 4 1 v0 σ).bind fun x1 =>
  (oPi 4 2 v0 (0 : Int32) σ).bind fun s2 =>
  (oPi 4 3 v0 (0 : Int32) s2).bind fun s3 =>
  f_X3_findCopy_L24 E E.1 v0 v1 (if (x1 - v1) < (60 : Int32) then x1 - v1 else (60 : Int32)) (1 : Int32) s3
def f_X3_findCopy (E : PE) (v0 : Option Nat) (v1 : Int32) (σ : PS) : Option (Unit × PS) := oM E σ (g_X3_findCopy E v0 v1 σ)
theorem mo_X3_findCopy {E : PE} {v0 : Option Nat} {v1 : Int32} {σ τ : PS} {rv : Unit} (h : f_X3_findCopy E v0 v1 σ = some (rv, τ)) : sN σ ≤ sN τ ∧ sS σ ≤ sS τ ∧ sN τ ≤ E.2.1 ∧ sS τ ≤ E.2.2.1 := (oM_of h).2
def f_X4_addToken_B50 (E : PE) (σ : PS) : Option (Unit × PS) :=
  some ((), σ)
def g_X4_addToken (E : PE) (v0 : Option Nat) (v1 : Int32) (v2 : Int32) (v3 : Int32) (σ : PS) : Option (Unit × PS) :=
  (oGi 5 3 v0 σ).bind fun x1 =>
  if (400 : Int32) ≤ x1 then
    f_X4_addToken_B50 E σ
  else
    (oGr 5 0 v0 σ).bind fun x2 =>
    (oGi 5 3 v0 σ).bind fun x3 =>
    (oAs x2 x3 v1 σ).bind fun s4 =>
    (oGr 5 1 v0 s4).bind fun x5 =>
    (oGi 5 3 v0 s4).bind fun x6 =>
    (oAs x5 x6 v2 s4).bind fun s7 =>
    (oGr 5 2 v0 s7).bind fun x8 =>
    (oGi 5 3 v0 s7).bind fun x9 =>
    (oAs x8 x9 v3 s7).bind fun s10 =>
    (oGi 5 3 v0 s10).bind fun x11 =>
    (oPi 5 3 v0 (x11 + (1 : Int32)) s10).bind fun s12 =>
    f_X4_addToken_B50 E s12
def f_X4_addToken (E : PE) (v0 : Option Nat) (v1 : Int32) (v2 : Int32) (v3 : Int32) (σ : PS) : Option (Unit × PS) := oM E σ (g_X4_addToken E v0 v1 v2 v3 σ)
theorem mo_X4_addToken {E : PE} {v0 : Option Nat} {v1 : Int32} {v2 : Int32} {v3 : Int32} {σ τ : PS} {rv : Unit} (h : f_X4_addToken E v0 v1 v2 v3 σ = some (rv, τ)) : sN σ ≤ sN τ ∧ sS σ ≤ sS τ ∧ sN τ ≤ E.2.1 ∧ sS τ ≤ E.2.2.1 := (oM_of h).2
def g_X4_addCopy (E : PE) (v0 : Option Nat) (v1 : Int32) (v2 : Int32) (σ : PS) : Option (Unit × PS) :=
  (oK 5 v0 σ).bind fun b3 =>
  bd (f_X4_addToken E v0 (-1 : Int32) v1 v2 σ) fun _ s2 =>
  (oGi 5 4 v0 s2).bind fun x4 =>
  (oPi 5 4 v0 (x4 + (3 : Int32)) s2).bind fun s5 =>
  some ((), s5)
def f_X4_addCopy (E : PE) (v0 : Option Nat) (v1 : Int32) (v2 : Int32) (σ : PS) : Option (Unit × PS) := oM E σ (g_X4_addCopy E v0 v1 v2 σ)
theorem mo_X4_addCopy {E : PE} {v0 : Option Nat} {v1 : Int32} {v2 : Int32} {σ τ : PS} {rv : Unit} (h : f_X4_addCopy E v0 v1 v2 σ = some (rv, τ)) : sN σ ≤ sN τ ∧ sS σ ≤ sS τ ∧ sN τ ≤ E.2.1 ∧ sS τ ≤ E.2.2.1 := (oM_of h).2
def g_X4_addByte (E : PE) (v0 : Option Nat) (v1 : Int32) (σ : PS) : Option (Unit × PS) :=
  (oK 5 v0 σ).bind fun b3 =>
  bd (f_X4_addToken E v0 v1 (0 : Int32) (1 : Int32) σ) fun _ s2 =>
  (oGi 5 4 v0 s2).bind fun x4 =>
  (oPi 5 4 v0 (x4 + (1 : Int32)) s2).bind fun s5 =>
  some ((), s5)
def f_X4_addByte (E : PE) (v0 : Option Nat) (v1 : Int32) (σ : PS) : Option (Unit × PS) := oM E σ (g_X4_addByte E v0 v1 σ)
theorem mo_X4_addByte {E : PE} {v0 : Option Nat} {v1 : Int32} {σ τ : PS} {rv : Unit} (h : f_X4_addByte E v0 v1 σ = some (rv, τ)) : sN σ ≤ sN τ ∧ sS σ ≤ sS τ ∧ sN τ ≤ E.2.1 ∧ sS τ ≤ E.2.2.1 := (oM_of h).2
def f_X3_makeRow_L17 (E : PE) : Nat → Option Nat → Option Nat → Int32 → PS → Option (Unit × PS)
  | 0, _, _, _, _ => none
  | n + 1, v0, v1, v2, σ =>
    (oGi 4 1 v0 σ).bind fun x9 =>
    if x9 ≤ v2 then
      some ((), σ)
    else
      (oK 4 v0 σ).bind fun b12 =>
      bd (f_X3_findCopy E v0 v2 σ) fun _ s11 =>
      (oGi 4 3 v0 s11).bind fun x13 =>
      if x13 < (4 : Int32) then
        (oGr 3 1 v1 s11).bind fun x14 =>
        (oGr 4 0 v0 s11).bind fun x15 =>
        (oAl x15 v2 s11).bind fun x16 =>
        (oK 5 x14 s11).bind fun b19 =>
        bd (f_X4_addByte E x14 x16 s11) fun _ s18 =>
        f_X3_makeRow_L17 E n v0 v1 (v2 + 1) s18
      else
        (oGr 3 1 v1 s11).bind fun x20 =>
        (oGi 4 2 v0 s11).bind fun x21 =>
        (oGi 4 3 v0 s11).bind fun x22 =>
        (oK 5 x20 s11).bind fun b25 =>
        bd (f_X4_addCopy E x20 x21 x22 s11) fun _ s24 =>
        (oGi 4 3 v0 s24).bind fun x26 =>
        f_X3_makeRow_L17 E n v0 v1 (v2 + x26) s24
def g_X3_makeRow (E : PE) (v0 : Option Nat) (v1 : Option Nat) (σ : PS) : Option (Unit × PS) :=
  (oGr 3 0 v1 σ).bind fun x1 =>
  (oK 4 v0 σ).bind fun b4 =>
  bd (f_X3_gather E v0 x1 σ) fun _ s3 =>
  (oGr 3 1 v1 s3).bind fun x5 =>
  (oK 5 x5 s3).bind fun b8 =>
  bd (f_X4_clear E x5 s3) fun _ s7 =>
  f_X3_makeRow_L17 E E.1 v0 v1 (0 : Int32) s7
def f_X3_makeRow (E : PE) (v0 : Option Nat) (v1 : Option Nat) (σ : PS) : Option (Unit × PS) := oM E σ (g_X3_makeRow E v0 v1 σ)
theorem mo_X3_makeRow {E : PE} {v0 : Option Nat} {v1 : Option Nat} {σ τ : PS} {rv : Unit} (h : f_X3_makeRow E v0 v1 σ = some (rv, τ)) : sN σ ≤ sN τ ∧ sS σ ≤ sS τ ∧ sN τ ≤ E.2.1 ∧ sS τ ≤ E.2.2.1 := (oM_of h).2
def f_X5_packChanged_B28 (E : PE) (σ : PS) : Option (Unit × PS) :=
  some ((), σ)
def g_X5_packChanged (E : PE) (v0 : Option Nat) (v1 : Option Nat) (σ : PS) : Option (Unit × PS) :=
  (oK 6 v0 σ).bind fun b3 =>
  bd (f_X5_homeOfChanged E v0 v1 σ) fun r1 s2 =>
  if r1 = none then
    f_X5_packChanged_B28 E s2
  else
    (oGr 6 5 v0 s2).bind fun x4 =>
    (oK 4 x4 s2).bind fun b7 =>
    bd (f_X3_makeRow E x4 r1 s2) fun _ s6 =>
    (oGi 3 3 r1 s6).bind fun x8 =>
    (oPi 3 3 r1 (x8 + (1 : Int32)) s6).bind fun s9 =>
    f_X5_packChanged_B28 E s9
def f_X5_packChanged (E : PE) (v0 : Option Nat) (v1 : Option Nat) (σ : PS) : Option (Unit × PS) := oM E σ (g_X5_packChanged E v0 v1 σ)
theorem mo_X5_packChanged {E : PE} {v0 : Option Nat} {v1 : Option Nat} {σ τ : PS} {rv : Unit} (h : f_X5_packChanged E v0 v1 σ = some (rv, τ)) : sN σ ≤ sN τ ∧ sS σ ≤ sS τ ∧ sN τ ≤ E.2.1 ∧ sS τ ≤ E.2.2.1 := (oM_of h).2
def f_X5_change_B20 (E : PE) (σ : PS) : Option (Int32 × PS) :=
  some ((-1 : Int32), σ)
def f_X5_change_B70 (E : PE) (v5 : Int32) (σ : PS) : Option (Int32 × PS) :=
  some (v5, σ)
def g_X5_change (E : PE) (v0 : Option Nat) (v1 : Int32) (v2 : Int32) (v3 : Int32) (σ : PS) : Option (Int32 × PS) :=
  (oK 6 v0 σ).bind fun b3 =>
  bd (f_X5_isByteOf E v0 v1 v2 σ) fun r1 s2 =>
  if r1 = 0 then
    f_X5_change_B20 E s2
  else
    if v3 < 0 then
      f_X5_change_B20 E s2
    else
      if v3 < (256 : Int32) then
        (oGr 6 0 v0 s2).bind fun x4 =>
        (oK 0 x4 s2).bind fun b7 =>
        bd (f_Jx4a65c_get_915e3 E x4 v1 s2) fun r5 s6 =>
        (oCa 2 r5 s6).bind fun u8 =>
        (oGr 2 2 r5 s6).bind fun x9 =>
        (oAl x9 v2 s6).bind fun x10 =>
        if x10 = v3 then
          f_X5_change_B70 E x10 s6
        else
          (oK 2 r5 s6).bind fun b13 =>
          bd (f_X1_replace E r5 v2 v3 s6) fun _ s12 =>
          (oGi 6 6 v0 s12).bind fun x14 =>
          if x14 = 0 then
            f_X5_change_B70 E x10 s12
          else
            (oK 6 v0 s12).bind fun b17 =>
            bd (f_X5_packChanged E v0 r5 s12) fun _ s16 =>
            f_X5_change_B70 E x10 s16
      else
        f_X5_change_B20 E s2
def f_X5_change (E : PE) (v0 : Option Nat) (v1 : Int32) (v2 : Int32) (v3 : Int32) (σ : PS) : Option (Int32 × PS) := oM E σ (g_X5_change E v0 v1 v2 v3 σ)
theorem mo_X5_change {E : PE} {v0 : Option Nat} {v1 : Int32} {v2 : Int32} {v3 : Int32} {σ τ : PS} {rv : Int32} (h : f_X5_change E v0 v1 v2 v3 σ = some (rv, τ)) : sN σ ≤ sN τ ∧ sS σ ≤ sS τ ∧ sN τ ≤ E.2.1 ∧ sS τ ≤ E.2.2.1 := (oM_of h).2
def f_X1_isLike_B22 (E : PE) (σ : PS) : Option (Int32 × PS) :=
  some ((0 : Int32), σ)
def f_X1_isLike_L26 (E : PE) : Nat → Option Nat → Option Nat → Int32 → PS → Option (Int32 × PS)
  | 0, _, _, _, _ => none
  | n + 1, v0, v1, v2, σ =>
    (oGi 2 4 v0 σ).bind fun x5 =>
    if x5 ≤ v2 then
      some ((1 : Int32), σ)
    else
      (oGr 2 2 v0 σ).bind fun x6 =>
      (oAl x6 v2 σ).bind fun x7 =>
      (oGr 2 2 v1 σ).bind fun x8 =>
      (oAl x8 v2 σ).bind fun x9 =>
      if x7 = x9 then
        f_X1_isLike_L26 E n v0 v1 (v2 + 1) σ
      else
        some ((0 : Int32), σ)
def g_X1_isLike (E : PE) (v0 : Option Nat) (v1 : Option Nat) (σ : PS) : Option (Int32 × PS) :=
  (oGi 2 1 v0 σ).bind fun x1 =>
  (oGi 2 1 v1 σ).bind fun x2 =>
  if x1 = x2 then
    (oGi 2 4 v0 σ).bind fun x3 =>
    (oGi 2 4 v1 σ).bind fun x4 =>
    if x3 = x4 then
      f_X1_isLike_L26 E E.1 v0 v1 (0 : Int32) σ
    else
      f_X1_isLike_B22 E σ
  else
    f_X1_isLike_B22 E σ
def f_X1_isLike (E : PE) (v0 : Option Nat) (v1 : Option Nat) (σ : PS) : Option (Int32 × PS) := oM E σ (g_X1_isLike E v0 v1 σ)
theorem mo_X1_isLike {E : PE} {v0 : Option Nat} {v1 : Option Nat} {σ τ : PS} {rv : Int32} (h : f_X1_isLike E v0 v1 σ = some (rv, τ)) : sN σ ≤ sN τ ∧ sS σ ≤ sS τ ∧ sN τ ≤ E.2.1 ∧ sS τ ≤ E.2.2.1 := (oM_of h).2
def f_X5_firstLike_B38 (E : PE) (k2 : Option Nat → Option Nat → Int32 → PS → Option (Int32 × PS)) (v0 : Option Nat) (v1 : Option Nat) (v2 : Int32) (σ : PS) : Option (Int32 × PS) :=
  k2 v0 v1 (v2 + 1) σ
def f_X5_firstLike_L2 (E : PE) : Nat → Option Nat → Option Nat → Int32 → PS → Option (Int32 × PS)
  | 0, _, _, _, _ => none
  | n + 1, v0, v1, v2, σ =>
    (oGi 2 0 v1 σ).bind fun x1 =>
    if x1 ≤ v2 then
      (oGi 2 0 v1 σ).bind fun x2 =>
      some (x2, σ)
    else
      (oK 6 v0 σ).bind fun b5 =>
      bd (f_X5_isEntry E v0 v2 σ) fun r3 s4 =>
      if r3 = 0 then
        f_X5_firstLike_B38 E (f_X5_firstLike_L2 E n) v0 v1 v2 s4
      else
        (oGr 6 0 v0 s4).bind fun x6 =>
        (oK 0 x6 s4).bind fun b9 =>
        bd (f_Jx4a65c_get_915e3 E x6 v2 s4) fun r7 s8 =>
        (oCa 2 r7 s8).bind fun u10 =>
        (oK 2 v1 s8).bind fun b13 =>
        bd (f_X1_isLike E v1 r7 s8) fun r11 s12 =>
        if r11 = 0 then
          f_X5_firstLike_B38 E (f_X5_firstLike_L2 E n) v0 v1 v2 s12
        else
          some (v2, s12)
def g_X5_firstLike (E : PE) (v0 : Option Nat) (v1 : Option Nat) (σ : PS) : Option (Int32 × PS) :=
  f_X5_firstLike_L2 E E.1 v0 v1 (0 : Int32) σ
def f_X5_firstLike (E : PE) (v0 : Option Nat) (v1 : Option Nat) (σ : PS) : Option (Int32 × PS) := oM E σ (g_X5_firstLike E v0 v1 σ)
theorem mo_X5_firstLike {E : PE} {v0 : Option Nat} {v1 : Option Nat} {σ τ : PS} {rv : Int32} (h : f_X5_firstLike E v0 v1 σ = some (rv, τ)) : sN σ ≤ sN τ ∧ sS σ ≤ sS τ ∧ sN τ ≤ E.2.1 ∧ sS τ ≤ E.2.2.1 := (oM_of h).2
def f_X5_findTwins_L2 (E : PE) : Nat → Option Nat → Int32 → PS → Option (Unit × PS)
  | 0, _, _, _ => none
  | n + 1, v0, v1, σ =>
    (oGr 6 0 v0 σ).bind fun x1 =>
    (oK 0 x1 σ).bind fun b4 =>
    bd (f_Jx4a65c_size_8abf5 E x1 σ) fun r2 s3 =>
    if r2 ≤ v1 then
      some ((), s3)
    else
      (oGr 6 0 v0 s3).bind fun x5 =>
      (oK 0 x5 s3).bind fun b8 =>
      bd (f_Jx4a65c_get_915e3 E x5 v1 s3) fun r6 s7 =>
      (oCa 2 r6 s7).bind fun u9 =>
      (oK 6 v0 s7).bind fun b12 =>
      bd (f_X5_firstLike E v0 r6 s7) fun r10 s11 =>
      (oPi 2 5 r6 r10 s11).bind fun s13 =>
      f_X5_findTwins_L2 E n v0 (v1 + 1) s13
def g_X5_findTwins (E : PE) (v0 : Option Nat) (σ : PS) : Option (Unit × PS) :=
  f_X5_findTwins_L2 E E.1 v0 (0 : Int32) σ
def f_X5_findTwins (E : PE) (v0 : Option Nat) (σ : PS) : Option (Unit × PS) := oM E σ (g_X5_findTwins E v0 σ)
theorem mo_X5_findTwins {E : PE} {v0 : Option Nat} {σ τ : PS} {rv : Unit} (h : f_X5_findTwins E v0 σ = some (rv, τ)) : sN σ ≤ sN τ ∧ sS σ ≤ sS τ ∧ sN τ ≤ E.2.1 ∧ sS τ ≤ E.2.2.1 := (oM_of h).2
def f_X5_dropGroups_L2 (E : PE) : Nat → Option Nat → Int32 → PS → Option (Unit × PS)
  | 0, _, _, _ => none
  | n + 1, v0, v1, σ =>
    (oGr 6 1 v0 σ).bind fun x1 =>
    (oK 0 x1 σ).bind fun b4 =>
    bd (f_Jx4a65c_size_8abf5 E x1 σ) fun r2 s3 =>
    if r2 ≤ v1 then
      (oGr 6 1 v0 s3).bind fun x5 =>
      (oK 0 x5 s3).bind fun b8 =>
      bd (f_Jx4a65c_clear_da8c8 E x5 s3) fun _ s7 =>
      some ((), s7)
    else
      (oGr 6 2 v0 s3).bind fun x9 =>
      (oGr 6 1 v0 s3).bind fun x10 =>
      (oK 0 x10 s3).bind fun b13 =>
      bd (f_Jx4a65c_get_915e3 E x10 v1 s3) fun r11 s12 =>
      (oCa 3 r11 s12).bind fun u14 =>
      (oK 0 x9 s12).bind fun b17 =>
      bd (f_Jx4a65c_add_9ea2d E x9 r11 s12) fun r15 s16 =>
      f_X5_dropGroups_L2 E n v0 (v1 + 1) s16
def g_X5_dropGroups (E : PE) (v0 : Option Nat) (σ : PS) : Option (Unit × PS) :=
  f_X5_dropGroups_L2 E E.1 v0 (0 : Int32) σ
def f_X5_dropGroups (E : PE) (v0 : Option Nat) (σ : PS) : Option (Unit × PS) := oM E σ (g_X5_dropGroups E v0 σ)
theorem mo_X5_dropGroups {E : PE} {v0 : Option Nat} {σ τ : PS} {rv : Unit} (h : f_X5_dropGroups E v0 σ = some (rv, τ)) : sN σ ≤ sN τ ∧ sS σ ≤ sS τ ∧ sN τ ≤ E.2.1 ∧ sS τ ≤ E.2.2.1 := (oM_of h).2
def f_X5_lineUpKept_B56 (E : PE) (k9 : Option Nat → Int32 → Int32 → PS → Option (Unit × PS)) (v0 : Option Nat) (v1 : Int32) (v2 : Int32) (σ : PS) : Option (Unit × PS) :=
  k9 v0 v1 (v2 + 1) σ
def f_X5_lineUpKept_L9 (E : PE) : Nat → Option Nat → Int32 → Int32 → PS → Option (Unit × PS)
  | 0, _, _, _, _ => none
  | n + 1, v0, v1, v2, σ =>
    (oGr 6 0 v0 σ).bind fun x5 =>
    (oK 0 x5 σ).bind fun b8 =>
    bd (f_Jx4a65c_size_8abf5 E x5 σ) fun r6 s7 =>
    if r6 ≤ v2 then
      some ((), s7)
    else
      (oGr 6 0 v0 s7).bind fun x9 =>
      (oK 0 x9 s7).bind fun b12 =>
      bd (f_Jx4a65c_get_915e3 E x9 v2 s7) fun r10 s11 =>
      (oCa 2 r10 s11).bind fun u13 =>
      (oGi 2 1 r10 s11).bind fun x14 =>
      if x14 = v1 then
        (oK 2 r10 s11).bind fun b17 =>
        bd (f_X1_isKept E r10 s11) fun r15 s16 =>
        if r15 = 0 then
          f_X5_lineUpKept_B56 E (f_X5_lineUpKept_L9 E n) v0 v1 v2 s16
        else
          (oGr 6 3 v0 s16).bind fun x18 =>
          (oK 0 x18 s16).bind fun b21 =>
          bd (f_Jx4a65c_add_9ea2d E x18 r10 s16) fun r19 s20 =>
          f_X5_lineUpKept_B56 E (f_X5_lineUpKept_L9 E n) v0 v1 v2 s20
      else
        f_X5_lineUpKept_B56 E (f_X5_lineUpKept_L9 E n) v0 v1 v2 s11
def g_X5_lineUpKept (E : PE) (v0 : Option Nat) (v1 : Int32) (σ : PS) : Option (Unit × PS) :=
  (oGr 6 3 v0 σ).bind fun x1 =>
  (oK 0 x1 σ).bind fun b4 =>
  bd (f_Jx4a65c_clear_da8c8 E x1 σ) fun _ s3 =>
  f_X5_lineUpKept_L9 E E.1 v0 v1 (0 : Int32) s3
def f_X5_lineUpKept (E : PE) (v0 : Option Nat) (v1 : Int32) (σ : PS) : Option (Unit × PS) := oM E σ (g_X5_lineUpKept E v0 v1 σ)
theorem mo_X5_lineUpKept {E : PE} {v0 : Option Nat} {v1 : Int32} {σ τ : PS} {rv : Unit} (h : f_X5_lineUpKept E v0 v1 σ = some (rv, τ)) : sN σ ≤ sN τ ∧ sS σ ≤ sS τ ∧ sN τ ≤ E.2.1 ∧ sS τ ≤ E.2.2.1 := (oM_of h).2
def f_X5_apart_L15 (E : PE) : Nat → Option Nat → Option Nat → Int32 → Int32 → PS → Option (Int32 × PS)
  | 0, _, _, _, _, _ => none
  | n + 1, v0, v1, v2, v3, σ =>
    if (32 : Int32) ≤ v3 then
      some (v2, σ)
    else
      (oGr 2 3 v0 σ).bind fun x3 =>
      (oAl x3 v3 σ).bind fun x4 =>
      (oGr 2 3 v1 σ).bind fun x5 =>
      (oAl x5 v3 σ).bind fun x6 =>
      f_X5_apart_L15 E n v0 v1 (v2 + (if 0 ≤ (x4 - x6) then x4 - x6 else 0 - (x4 - x6))) (v3 + 1) σ
def g_X5_apart (E : PE) (v0 : Option Nat) (v1 : Option Nat) (σ : PS) : Option (Int32 × PS) :=
  (oGi 2 4 v0 σ).bind fun x1 =>
  (oGi 2 4 v1 σ).bind fun x2 =>
  f_X5_apart_L15 E E.1 v0 v1 (if 0 ≤ (x1 - x2) then x1 - x2 else 0 - (x1 - x2)) (0 : Int32) σ
def f_X5_apart (E : PE) (v0 : Option Nat) (v1 : Option Nat) (σ : PS) : Option (Int32 × PS) := oM E σ (g_X5_apart E v0 v1 σ)
theorem mo_X5_apart {E : PE} {v0 : Option Nat} {v1 : Option Nat} {σ τ : PS} {rv : Int32} (h : f_X5_apart E v0 v1 σ = some (rv, τ)) : sN σ ≤ sN τ ∧ sS σ ≤ sS τ ∧ sN τ ≤ E.2.1 ∧ sS τ ≤ E.2.2.1 := (oM_of h).2
def f_X0_measureSteps_L9 (E : PE) (k2 : Option Nat → Int32 → Int32 → PS → Option (Unit × PS)) : Nat → Option Nat → Int32 → Int32 → Int32 → PS → Option (Unit × PS)
  | 0, _, _, _, _, _ => none
  | n + 1, v0, v1, v2, v3, σ =>
    if v1 ≤ v3 then
      k2 v0 v1 (v2 + 1) σ
    else
      (oGr 1 1 v0 σ).bind fun x1 =>
      (oGr 1 0 v0 σ).bind fun x2 =>
      (oK 0 x2 σ).bind fun b5 =>
      bd (f_Jx4a65c_get_915e3 E x2 v2 σ) fun r3 s4 =>
      (oCa 2 r3 s4).bind fun u6 =>
      (oGr 1 0 v0 s4).bind fun x7 =>
      (oK 0 x7 s4).bind fun b10 =>
      bd (f_Jx4a65c_get_915e3 E x7 v3 s4) fun r8 s9 =>
      (oCa 2 r8 s9).bind fun u11 =>
      bd (f_X5_apart E r3 r8 s9) fun r12 s13 =>
      (oAs x1 ((v2 * (7 : Int32)) + v3) r12 s13).bind fun s14 =>
      f_X0_measureSteps_L9 E k2 n v0 v1 v2 (v3 + 1) s14
def f_X0_measureSteps_L2 (E : PE) : Nat → Option Nat → Int32 → Int32 → PS → Option (Unit × PS)
  | 0, _, _, _, _ => none
  | n + 1, v0, v1, v2, σ =>
    if v1 ≤ v2 then
      some ((), σ)
    else
      f_X0_measureSteps_L9 E (f_X0_measureSteps_L2 E n) E.1 v0 v1 v2 (0 : Int32) σ
def g_X0_measureSteps (E : PE) (v0 : Option Nat) (v1 : Int32) (σ : PS) : Option (Unit × PS) :=
  f_X0_measureSteps_L2 E E.1 v0 v1 (0 : Int32) σ
def f_X0_measureSteps (E : PE) (v0 : Option Nat) (v1 : Int32) (σ : PS) : Option (Unit × PS) := oM E σ (g_X0_measureSteps E v0 v1 σ)
theorem mo_X0_measureSteps {E : PE} {v0 : Option Nat} {v1 : Int32} {σ τ : PS} {rv : Unit} (h : f_X0_measureSteps E v0 v1 σ = some (rv, τ)) : sN σ ≤ sN τ ∧ sS σ ≤ sS τ ∧ sN τ ≤ E.2.1 ∧ sS τ ≤ E.2.2.1 := (oM_of h).2
def f_X0_sumBy_B20 (E : PE) (v0 : Option Nat) (v2 : Int32) (v3 : Int32) (w0 : Int32) (σ : PS) : Option (Int32 × PS) :=
  (oGr 1 2 v0 σ).bind fun x3 =>
  (oAl x3 (((v3 &&& (((1 : Int32) <<< (v2 &&& 31)) ^^^ (-1 : Int32))) * (7 : Int32)) + v2) σ).bind fun x4 =>
  some (w0 + x4, σ)
def g_X0_sumBy (E : PE) (v0 : Option Nat) (v1 : Int32) (v2 : Int32) (v3 : Int32) (σ : PS) : Option (Int32 × PS) :=
  if v1 = (-1 : Int32) then
    f_X0_sumBy_B20 E v0 v2 v3 (0 : Int32) σ
  else
    (oGr 1 1 v0 σ).bind fun x1 =>
    (oAl x1 ((v1 * (7 : Int32)) + v2) σ).bind fun x2 =>
    f_X0_sumBy_B20 E v0 v2 v3 x2 σ
def f_X0_sumBy (E : PE) (v0 : Option Nat) (v1 : Int32) (v2 : Int32) (v3 : Int32) (σ : PS) : Option (Int32 × PS) := oM E σ (g_X0_sumBy E v0 v1 v2 v3 σ)
theorem mo_X0_sumBy {E : PE} {v0 : Option Nat} {v1 : Int32} {v2 : Int32} {v3 : Int32} {σ τ : PS} {rv : Int32} (h : f_X0_sumBy E v0 v1 v2 v3 σ = some (rv, τ)) : sN σ ≤ sN τ ∧ sS σ ≤ sS τ ∧ sN τ ≤ E.2.1 ∧ sS τ ≤ E.2.2.1 := (oM_of h).2
def f_X0_bestNext_B55 (E : PE) (k9 : Option Nat → Int32 → Int32 → Int32 → Int32 → Int32 → Int32 → PS → Option (Int32 × PS)) (v0 : Option Nat) (v1 : Int32) (v2 : Int32) (v3 : Int32) (v4 : Int32) (v5 : Int32) (v6 : Int32) (σ : PS) : Option (Int32 × PS) :=
  k9 v0 v1 v2 v3 v4 v5 (v6 + 1) σ
def f_X0_bestNext_B47 (E : PE) (k9 : Option Nat → Int32 → Int32 → Int32 → Int32 → Int32 → Int32 → PS → Option (Int32 × PS)) (v0 : Option Nat) (v1 : Int32) (v2 : Int32) (v3 : Int32) (v6 : Int32) (v7 : Int32) (σ : PS) : Option (Int32 × PS) :=
  f_X0_bestNext_B55 E k9 v0 v1 v2 v3 v6 v7 v6 σ
def f_X0_bestNext_L9 (E : PE) : Nat → Option Nat → Int32 → Int32 → Int32 → Int32 → Int32 → Int32 → PS → Option (Int32 × PS)
  | 0, _, _, _, _, _, _, _, _ => none
  | n + 1, v0, v1, v2, v3, v4, v5, v6, σ =>
    if v3 ≤ v6 then
      some (v4, σ)
    else
      if (v2 >>> (v6 &&& 31)) &&& (1 : Int32) = 0 then
        f_X0_bestNext_B55 E (f_X0_bestNext_L9 E n) v0 v1 v2 v3 v4 v5 v6 σ
      else
        (oK 1 v0 σ).bind fun b3 =>
        bd (f_X0_sumBy E v0 v1 v6 v2 σ) fun r1 s2 =>
        if v4 = (-1 : Int32) then
          f_X0_bestNext_B47 E (f_X0_bestNext_L9 E n) v0 v1 v2 v3 v6 r1 s2
        else
          if v5 ≤ r1 then
            f_X0_bestNext_B55 E (f_X0_bestNext_L9 E n) v0 v1 v2 v3 v4 v5 v6 s2
          else
            f_X0_bestNext_B47 E (f_X0_bestNext_L9 E n) v0 v1 v2 v3 v6 r1 s2
def g_X0_bestNext (E : PE) (v0 : Option Nat) (v1 : Int32) (v2 : Int32) (v3 : Int32) (σ : PS) : Option (Int32 × PS) :=
  f_X0_bestNext_L9 E E.1 v0 v1 v2 v3 (-1 : Int32) (0 : Int32) (0 : Int32) σ
def f_X0_bestNext (E : PE) (v0 : Option Nat) (v1 : Int32) (v2 : Int32) (v3 : Int32) (σ : PS) : Option (Int32 × PS) := oM E σ (g_X0_bestNext E v0 v1 v2 v3 σ)
theorem mo_X0_bestNext {E : PE} {v0 : Option Nat} {v1 : Int32} {v2 : Int32} {v3 : Int32} {σ τ : PS} {rv : Int32} (h : f_X0_bestNext E v0 v1 v2 v3 σ = some (rv, τ)) : sN σ ≤ sN τ ∧ sS σ ≤ sS τ ∧ sN τ ≤ E.2.1 ∧ sS τ ≤ E.2.2.1 := (oM_of h).2
def f_X0_measureSums_B61 (E : PE) (k2 : Option Nat → Int32 → Int32 → PS → Option (Unit × PS)) (k11 : Option Nat → Int32 → Int32 → Int32 → PS → Option (Unit × PS)) (v0 : Option Nat) (v1 : Int32) (v2 : Int32) (v3 : Int32) (σ : PS) : Option (Unit × PS) :=
  k11 v0 v1 v2 (v3 + 1) σ
def f_X0_measureSums_B60 (E : PE) (k2 : Option Nat → Int32 → Int32 → PS → Option (Unit × PS)) (k11 : Option Nat → Int32 → Int32 → Int32 → PS → Option (Unit × PS)) (v0 : Option Nat) (v1 : Int32) (v2 : Int32) (v3 : Int32) (w0 : Option Nat) (w1 : Int32) (w2 : Int32) (σ : PS) : Option (Unit × PS) :=
  (oAs w0 w1 w2 σ).bind fun s8 =>
  f_X0_measureSums_B61 E k2 k11 v0 v1 v2 v3 s8
def f_X0_measureSums_L11 (E : PE) (k2 : Option Nat → Int32 → Int32 → PS → Option (Unit × PS)) : Nat → Option Nat → Int32 → Int32 → Int32 → PS → Option (Unit × PS)
  | 0, _, _, _, _, _ => none
  | n + 1, v0, v1, v2, v3, σ =>
    if v1 ≤ v3 then
      k2 v0 v1 (v2 + 1) σ
    else
      if (v2 >>> (v3 &&& 31)) &&& (1 : Int32) = 0 then
        (oK 1 v0 σ).bind fun b3 =>
        bd (f_X0_bestNext E v0 v3 v2 v1 σ) fun r1 s2 =>
        (oGr 1 2 v0 s2).bind fun x4 =>
        if 0 ≤ r1 then
          (oK 1 v0 s2).bind fun b7 =>
          bd (f_X0_sumBy E v0 v3 r1 v2 s2) fun r5 s6 =>
          f_X0_measureSums_B60 E k2 (f_X0_measureSums_L11 E k2 n) v0 v1 v2 v3 x4 ((v2 * (7 : Int32)) + v3) r5 s6
        else
          f_X0_measureSums_B60 E k2 (f_X0_measureSums_L11 E k2 n) v0 v1 v2 v3 x4 ((v2 * (7 : Int32)) + v3) (0 : Int32) s2
      else
        f_X0_measureSums_B61 E k2 (f_X0_measureSums_L11 E k2 n) v0 v1 v2 v3 σ
def f_X0_measureSums_L2 (E : PE) : Nat → Option Nat → Int32 → Int32 → PS → Option (Unit × PS)
  | 0, _, _, _, _ => none
  | n + 1, v0, v1, v2, σ =>
    if (1 : Int32) <<< (v1 &&& 31) ≤ v2 then
      some ((), σ)
    else
      f_X0_measureSums_L11 E (f_X0_measureSums_L2 E n) E.1 v0 v1 v2 (0 : Int32) σ
def g_X0_measureSums (E : PE) (v0 : Option Nat) (v1 : Int32) (σ : PS) : Option (Unit × PS) :=
  f_X0_measureSums_L2 E E.1 v0 v1 (0 : Int32) σ
def f_X0_measureSums (E : PE) (v0 : Option Nat) (v1 : Int32) (σ : PS) : Option (Unit × PS) := oM E σ (g_X0_measureSums E v0 v1 σ)
theorem mo_X0_measureSums {E : PE} {v0 : Option Nat} {v1 : Int32} {σ τ : PS} {rv : Unit} (h : f_X0_measureSums E v0 v1 σ = some (rv, τ)) : sN σ ≤ sN τ ∧ sS σ ≤ sS τ ∧ sN τ ≤ E.2.1 ∧ sS τ ≤ E.2.2.1 := (oM_of h).2
def f_X0_arrangeBest_B122 (E : PE) (k63 : Option Nat → Option Nat → Int32 → Int32 → Int32 → Int32 → PS → Option (Unit × PS)) (v0 : Option Nat) (v1 : Option Nat) (v2 : Int32) (v3 : Int32) (v4 : Int32) (v5 : Int32) (σ : PS) : Option (Unit × PS) :=
  k63 v0 v1 v2 v3 v4 (v5 + 1) σ
def f_X0_arrangeBest_L63 (E : PE) : Nat → Option Nat → Option Nat → Int32 → Int32 → Int32 → Int32 → PS → Option (Unit × PS)
  | 0, _, _, _, _, _, _, _ => none
  | n + 1, v0, v1, v2, v3, v4, v5, σ =>
    if v2 ≤ v5 then
      some ((), σ)
    else
      (oK 1 v0 σ).bind fun b24 =>
      bd (f_X0_bestNext E v0 v4 v3 v2 σ) fun r22 s23 =>
      if r22 < 0 then
        f_X0_arrangeBest_B122 E (f_X0_arrangeBest_L63 E n) v0 v1 v2 v3 v4 v5 s23
      else
        if v2 ≤ r22 then
          f_X0_arrangeBest_B122 E (f_X0_arrangeBest_L63 E n) v0 v1 v2 v3 v4 v5 s23
        else
          (oGr 1 0 v0 s23).bind fun x25 =>
          (oK 0 x25 s23).bind fun b28 =>
          bd (f_Jx4a65c_get_915e3 E x25 r22 s23) fun r26 s27 =>
          (oCa 2 r26 s27).bind fun u29 =>
          (oK 0 v1 s27).bind fun b32 =>
          bd (f_Jx4a65c_set_bcc79 E v1 v5 r26 s27) fun r30 s31 =>
          f_X0_arrangeBest_B122 E (f_X0_arrangeBest_L63 E n) v0 v1 v2 (v3 &&& (((1 : Int32) <<< (r22 &&& 31)) ^^^ (-1 : Int32))) r22 v5 s31
def f_X0_arrangeBest_L14 (E : PE) : Nat → Option Nat → Option Nat → Int32 → Int32 → PS → Option (Unit × PS)
  | 0, _, _, _, _, _ => none
  | n + 1, v0, v1, v2, v3, σ =>
    if v2 ≤ v3 then
      (oK 1 v0 σ).bind fun b10 =>
      bd (f_X0_measureSteps E v0 v2 σ) fun _ s9 =>
      (oK 1 v0 s9).bind fun b13 =>
      bd (f_X0_measureSums E v0 v2 s9) fun _ s12 =>
      f_X0_arrangeBest_L63 E E.1 v0 v1 v2 (((1 : Int32) <<< (v2 &&& 31)) - (1 : Int32)) (-1 : Int32) (0 : Int32) s12
    else
      (oGr 1 0 v0 σ).bind fun x14 =>
      (oK 0 v1 σ).bind fun b17 =>
      bd (f_Jx4a65c_get_915e3 E v1 v3 σ) fun r15 s16 =>
      (oCa 2 r15 s16).bind fun u18 =>
      (oK 0 x14 s16).bind fun b21 =>
      bd (f_Jx4a65c_add_9ea2d E x14 r15 s16) fun r19 s20 =>
      f_X0_arrangeBest_L14 E n v0 v1 v2 (v3 + 1) s20
def g_X0_arrangeBest (E : PE) (v0 : Option Nat) (v1 : Option Nat) (σ : PS) : Option (Unit × PS) :=
  (oK 0 v1 σ).bind fun b3 =>
  bd (f_Jx4a65c_size_8abf5 E v1 σ) fun r1 s2 =>
  (oGr 1 0 v0 s2).bind fun x4 =>
  (oK 0 x4 s2).bind fun b7 =>
  bd (f_Jx4a65c_clear_da8c8 E x4 s2) fun _ s6 =>
  f_X0_arrangeBest_L14 E E.1 v0 v1 r1 (0 : Int32) s6
def f_X0_arrangeBest (E : PE) (v0 : Option Nat) (v1 : Option Nat) (σ : PS) : Option (Unit × PS) := oM E σ (g_X0_arrangeBest E v0 v1 σ)
theorem mo_X0_arrangeBest {E : PE} {v0 : Option Nat} {v1 : Option Nat} {σ τ : PS} {rv : Unit} (h : f_X0_arrangeBest E v0 v1 σ = some (rv, τ)) : sN σ ≤ sN τ ∧ sS σ ≤ sS τ ∧ sN τ ≤ E.2.1 ∧ sS τ ≤ E.2.2.1 := (oM_of h).2
def f_X0_arrangeChain_B82 (E : PE) (k2 : Option Nat → Int32 → PS → Option (Unit × PS)) (k43 : Option Nat → Int32 → Option Nat → Int32 → Int32 → Int32 → PS → Option (Unit × PS)) (v1 : Option Nat) (v2 : Int32) (v3 : Option Nat) (v4 : Int32) (v5 : Int32) (v6 : Int32) (σ : PS) : Option (Unit × PS) :=
  k43 v1 v2 v3 v4 v5 (v6 + 1) σ
def f_X0_arrangeChain_L43 (E : PE) (k2 : Option Nat → Int32 → PS → Option (Unit × PS)) : Nat → Option Nat → Int32 → Option Nat → Int32 → Int32 → Int32 → PS → Option (Unit × PS)
  | 0, _, _, _, _, _, _, _ => none
  | n + 1, v1, v2, v3, v4, v5, v6, σ =>
    (oK 0 v1 σ).bind fun b16 =>
    bd (f_Jx4a65c_size_8abf5 E v1 σ) fun r14 s15 =>
    if r14 ≤ v6 then
      (oK 0 v1 s15).bind fun b19 =>
      bd (f_Jx4a65c_remove_915e3 E v1 v4 s15) fun r17 s18 =>
      (oCa 2 r17 s18).bind fun u20 =>
      (oK 0 v1 s18).bind fun b23 =>
      bd (f_Jx4a65c_add_7a177 E v1 v2 r17 s18) fun _ s22 =>
      k2 v1 (v2 + 1) s22
    else
      (oK 0 v1 s15).bind fun b26 =>
      bd (f_Jx4a65c_get_915e3 E v1 v6 s15) fun r24 s25 =>
      (oCa 2 r24 s25).bind fun u27 =>
      bd (f_X5_apart E v3 r24 s25) fun r28 s29 =>
      if v5 ≤ r28 then
        f_X0_arrangeChain_B82 E k2 (f_X0_arrangeChain_L43 E k2 n) v1 v2 v3 v4 v5 v6 s29
      else
        f_X0_arrangeChain_B82 E k2 (f_X0_arrangeChain_L43 E k2 n) v1 v2 v3 v6 r28 v6 s29
def f_X0_arrangeChain_L2 (E : PE) : Nat → Option Nat → Int32 → PS → Option (Unit × PS)
  | 0, _, _, _ => none
  | n + 1, v1, v2, σ =>
    (oK 0 v1 σ).bind fun b3 =>
    bd (f_Jx4a65c_size_8abf5 E v1 σ) fun r1 s2 =>
    if r1 ≤ v2 then
      some ((), s2)
    else
      (oK 0 v1 s2).bind fun b6 =>
      bd (f_Jx4a65c_get_915e3 E v1 (v2 - (1 : Int32)) s2) fun r4 s5 =>
      (oCa 2 r4 s5).bind fun u7 =>
      (oK 0 v1 s5).bind fun b10 =>
      bd (f_Jx4a65c_get_915e3 E v1 v2 s5) fun r8 s9 =>
      (oCa 2 r8 s9).bind fun u11 =>
      bd (f_X5_apart E r4 r8 s9) fun r12 s13 =>
      f_X0_arrangeChain_L43 E (f_X0_arrangeChain_L2 E n) E.1 v1 v2 r4 v2 r12 (v2 + (1 : Int32)) s13
def g_X0_arrangeChain (E : PE) (v0 : Option Nat) (v1 : Option Nat) (σ : PS) : Option (Unit × PS) :=
  f_X0_arrangeChain_L2 E E.1 v1 (1 : Int32) σ
def f_X0_arrangeChain (E : PE) (v0 : Option Nat) (v1 : Option Nat) (σ : PS) : Option (Unit × PS) := oM E σ (g_X0_arrangeChain E v0 v1 σ)
theorem mo_X0_arrangeChain {E : PE} {v0 : Option Nat} {v1 : Option Nat} {σ τ : PS} {rv : Unit} (h : f_X0_arrangeChain E v0 v1 σ = some (rv, τ)) : sN σ ≤ sN τ ∧ sS σ ≤ sS τ ∧ sN τ ≤ E.2.1 ∧ sS τ ≤ E.2.2.1 := (oM_of h).2
def f_X0_arrange_B31 (E : PE) (σ : PS) : Option (Unit × PS) :=
  some ((), σ)
def f_X0_arrange_B22 (E : PE) (v0 : Option Nat) (v1 : Option Nat) (v2 : Int32) (σ : PS) : Option (Unit × PS) :=
  if v2 = 0 then
    f_X0_arrange_B31 E σ
  else
    (oK 1 v0 σ).bind fun b9 =>
    bd (f_X0_arrangeChain E v0 v1 σ) fun _ s8 =>
    f_X0_arrange_B31 E s8
def g_X0_arrange (E : PE) (v0 : Option Nat) (v1 : Option Nat) (v2 : Int32) (σ : PS) : Option (Unit × PS) :=
  if v2 = (2 : Int32) then
    (oK 0 v1 σ).bind fun b3 =>
    bd (f_Jx4a65c_size_8abf5 E v1 σ) fun r1 s2 =>
    if (7 : Int32) < r1 then
      f_X0_arrange_B22 E v0 v1 v2 s2
    else
      (oK 1 v0 s2).bind fun b6 =>
      bd (f_X0_arrangeBest E v0 v1 s2) fun _ s5 =>
      f_X0_arrange_B31 E s5
  else
    f_X0_arrange_B22 E v0 v1 v2 σ
def f_X0_arrange (E : PE) (v0 : Option Nat) (v1 : Option Nat) (v2 : Int32) (σ : PS) : Option (Unit × PS) := oM E σ (g_X0_arrange E v0 v1 v2 σ)
theorem mo_X0_arrange {E : PE} {v0 : Option Nat} {v1 : Option Nat} {v2 : Int32} {σ τ : PS} {rv : Unit} (h : f_X0_arrange E v0 v1 v2 σ = some (rv, τ)) : sN σ ≤ sN τ ∧ sS σ ≤ sS τ ∧ sN τ ≤ E.2.1 ∧ sS τ ≤ E.2.2.1 := (oM_of h).2
def f_X5_groupLine_L2 (E : PE) : Nat → Option Nat → Int32 → Int32 → PS → Option (Unit × PS)
  | 0, _, _, _, _ => none
  | n + 1, v0, v1, v2, σ =>
    (oGr 6 3 v0 σ).bind fun x1 =>
    (oK 0 x1 σ).bind fun b4 =>
    bd (f_Jx4a65c_size_8abf5 E x1 σ) fun r2 s3 =>
    if r2 ≤ v2 then
      some ((), s3)
    else
      (oGr 6 3 v0 s3).bind fun x5 =>
      (oK 0 x5 s3).bind fun b8 =>
      bd (f_Jx4a65c_get_915e3 E x5 v2 s3) fun r6 s7 =>
      (oCa 2 r6 s7).bind fun u9 =>
      (oK 6 v0 s7).bind fun b12 =>
      bd (f_X5_putAtEndOf E v0 v1 r6 s7) fun r10 s11 =>
      f_X5_groupLine_L2 E n v0 v1 (v2 + 1) s11
def g_X5_groupLine (E : PE) (v0 : Option Nat) (v1 : Int32) (σ : PS) : Option (Unit × PS) :=
  f_X5_groupLine_L2 E E.1 v0 v1 (0 : Int32) σ
def f_X5_groupLine (E : PE) (v0 : Option Nat) (v1 : Int32) (σ : PS) : Option (Unit × PS) := oM E σ (g_X5_groupLine E v0 v1 σ)
theorem mo_X5_groupLine {E : PE} {v0 : Option Nat} {v1 : Int32} {σ τ : PS} {rv : Unit} (h : f_X5_groupLine E v0 v1 σ = some (rv, τ)) : sN σ ≤ sN τ ∧ sS σ ≤ sS τ ∧ sN τ ≤ E.2.1 ∧ sS τ ≤ E.2.2.1 := (oM_of h).2
def f_X5_pack_B21 (E : PE) (σ : PS) : Option (Int32 × PS) :=
  some ((-1 : Int32), σ)
def f_X5_pack_L79 (E : PE) : Nat → Option Nat → Int32 → PS → Option (Int32 × PS)
  | 0, _, _, _ => none
  | n + 1, v0, v3, σ =>
    (oGr 6 1 v0 σ).bind fun x20 =>
    (oK 0 x20 σ).bind fun b23 =>
    bd (f_Jx4a65c_size_8abf5 E x20 σ) fun r21 s22 =>
    if r21 ≤ v3 then
      (oGr 6 1 v0 s22).bind fun x24 =>
      (oK 0 x24 s22).bind fun b27 =>
      bd (f_Jx4a65c_size_8abf5 E x24 s22) fun r25 s26 =>
      some (r25, s26)
    else
      (oGr 6 5 v0 s22).bind fun x28 =>
      (oGr 6 1 v0 s22).bind fun x29 =>
      (oK 0 x29 s22).bind fun b32 =>
      bd (f_Jx4a65c_get_915e3 E x29 v3 s22) fun r30 s31 =>
      (oCa 3 r30 s31).bind fun u33 =>
      (oK 4 x28 s31).bind fun b36 =>
      bd (f_X3_makeRow E x28 r30 s31) fun _ s35 =>
      f_X5_pack_L79 E n v0 (v3 + 1) s35
def f_X5_pack_L43 (E : PE) : Nat → Option Nat → Int32 → Int32 → PS → Option (Int32 × PS)
  | 0, _, _, _, _ => none
  | n + 1, v0, v2, v3, σ =>
    if (6 : Int32) ≤ v3 then
      f_X5_pack_L79 E E.1 v0 (0 : Int32) σ
    else
      (oK 6 v0 σ).bind fun b11 =>
      bd (f_X5_lineUpKept E v0 v3 σ) fun _ s10 =>
      (oGr 6 4 v0 s10).bind fun x12 =>
      (oGr 6 3 v0 s10).bind fun x13 =>
      (oK 1 x12 s10).bind fun b16 =>
      bd (f_X0_arrange E x12 x13 v2 s10) fun _ s15 =>
      (oK 6 v0 s15).bind fun b19 =>
      bd (f_X5_groupLine E v0 v3 s15) fun _ s18 =>
      f_X5_pack_L43 E n v0 v2 (v3 + 1) s18
def g_X5_pack (E : PE) (v0 : Option Nat) (v1 : Int32) (v2 : Int32) (σ : PS) : Option (Int32 × PS) :=
  if v1 < (1 : Int32) then
    f_X5_pack_B21 E σ
  else
    if (400 : Int32) < v1 then
      f_X5_pack_B21 E σ
    else
      if v2 < 0 then
        f_X5_pack_B21 E σ
      else
        if v2 ≤ (2 : Int32) then
          (oPi 6 6 v0 (1 : Int32) σ).bind fun s1 =>
          (oPi 6 7 v0 v1 s1).bind fun s2 =>
          (oK 6 v0 s2).bind fun b5 =>
          bd (f_X5_findTwins E v0 s2) fun _ s4 =>
          (oK 6 v0 s4).bind fun b8 =>
          bd (f_X5_dropGroups E v0 s4) fun _ s7 =>
          f_X5_pack_L43 E E.1 v0 v2 (0 : Int32) s7
        else
          f_X5_pack_B21 E σ
def f_X5_pack (E : PE) (v0 : Option Nat) (v1 : Int32) (v2 : Int32) (σ : PS) : Option (Int32 × PS) := oM E σ (g_X5_pack E v0 v1 v2 σ)
theorem mo_X5_pack {E : PE} {v0 : Option Nat} {v1 : Int32} {v2 : Int32} {σ τ : PS} {rv : Int32} (h : f_X5_pack E v0 v1 v2 σ = some (rv, τ)) : sN σ ≤ sN τ ∧ sS σ ≤ sS τ ∧ sN τ ≤ E.2.1 ∧ sS τ ≤ E.2.2.1 := (oM_of h).2
def f_X5_commonMarks_L4 (E : PE) : Nat → Option Nat → Option Nat → Int32 → Int32 → PS → Option (Int32 × PS)
  | 0, _, _, _, _, _ => none
  | n + 1, v0, v1, v2, v3, σ =>
    if (32 : Int32) ≤ v3 then
      some (v2, σ)
    else
      (oGr 2 3 v0 σ).bind fun x1 =>
      (oAl x1 v3 σ).bind fun x2 =>
      (oGr 2 3 v1 σ).bind fun x3 =>
      (oAl x3 v3 σ).bind fun x4 =>
      f_X5_commonMarks_L4 E n v0 v1 (v2 + (if x4 < x2 then x4 else x2)) (v3 + 1) σ
def g_X5_commonMarks (E : PE) (v0 : Option Nat) (v1 : Option Nat) (σ : PS) : Option (Int32 × PS) :=
  f_X5_commonMarks_L4 E E.1 v0 v1 (0 : Int32) (0 : Int32) σ
def f_X5_commonMarks (E : PE) (v0 : Option Nat) (v1 : Option Nat) (σ : PS) : Option (Int32 × PS) := oM E σ (g_X5_commonMarks E v0 v1 σ)
theorem mo_X5_commonMarks {E : PE} {v0 : Option Nat} {v1 : Option Nat} {σ τ : PS} {rv : Int32} (h : f_X5_commonMarks E v0 v1 σ = some (rv, τ)) : sN σ ≤ sN τ ∧ sS σ ≤ sS τ ∧ sN τ ≤ E.2.1 ∧ sS τ ≤ E.2.2.1 := (oM_of h).2
def f_X5_common_B16 (E : PE) (σ : PS) : Option (Int32 × PS) :=
  some ((-1 : Int32), σ)
def g_X5_common (E : PE) (v0 : Option Nat) (v1 : Int32) (v2 : Int32) (σ : PS) : Option (Int32 × PS) :=
  (oK 6 v0 σ).bind fun b3 =>
  bd (f_X5_isEntry E v0 v1 σ) fun r1 s2 =>
  if r1 = 0 then
    f_X5_common_B16 E s2
  else
    (oK 6 v0 s2).bind fun b6 =>
    bd (f_X5_isEntry E v0 v2 s2) fun r4 s5 =>
    if r4 = 0 then
      f_X5_common_B16 E s5
    else
      (oGr 6 0 v0 s5).bind fun x7 =>
      (oK 0 x7 s5).bind fun b10 =>
      bd (f_Jx4a65c_get_915e3 E x7 v1 s5) fun r8 s9 =>
      (oCa 2 r8 s9).bind fun u11 =>
      (oGr 6 0 v0 s9).bind fun x12 =>
      (oK 0 x12 s9).bind fun b15 =>
      bd (f_Jx4a65c_get_915e3 E x12 v2 s9) fun r13 s14 =>
      (oCa 2 r13 s14).bind fun u16 =>
      bd (f_X5_commonMarks E r8 r13 s14) fun r17 s18 =>
      some (r17, s18)
def f_X5_common (E : PE) (v0 : Option Nat) (v1 : Int32) (v2 : Int32) (σ : PS) : Option (Int32 × PS) := oM E σ (g_X5_common E v0 v1 v2 σ)
theorem mo_X5_common {E : PE} {v0 : Option Nat} {v1 : Int32} {v2 : Int32} {σ τ : PS} {rv : Int32} (h : f_X5_common E v0 v1 v2 σ = some (rv, τ)) : sN σ ≤ sN τ ∧ sS σ ≤ sS τ ∧ sN τ ≤ E.2.1 ∧ sS τ ≤ E.2.2.1 := (oM_of h).2
def f_X5_distance_B16 (E : PE) (σ : PS) : Option (Int32 × PS) :=
  some ((-1 : Int32), σ)
def g_X5_distance (E : PE) (v0 : Option Nat) (v1 : Int32) (v2 : Int32) (σ : PS) : Option (Int32 × PS) :=
  (oK 6 v0 σ).bind fun b3 =>
  bd (f_X5_isEntry E v0 v1 σ) fun r1 s2 =>
  if r1 = 0 then
    f_X5_distance_B16 E s2
  else
    (oK 6 v0 s2).bind fun b6 =>
    bd (f_X5_isEntry E v0 v2 s2) fun r4 s5 =>
    if r4 = 0 then
      f_X5_distance_B16 E s5
    else
      (oGr 6 0 v0 s5).bind fun x7 =>
      (oK 0 x7 s5).bind fun b10 =>
      bd (f_Jx4a65c_get_915e3 E x7 v1 s5) fun r8 s9 =>
      (oCa 2 r8 s9).bind fun u11 =>
      (oGr 6 0 v0 s9).bind fun x12 =>
      (oK 0 x12 s9).bind fun b15 =>
      bd (f_Jx4a65c_get_915e3 E x12 v2 s9) fun r13 s14 =>
      (oCa 2 r13 s14).bind fun u16 =>
      bd (f_X5_apart E r8 r13 s14) fun r17 s18 =>
      some (r17, s18)
def f_X5_distance (E : PE) (v0 : Option Nat) (v1 : Int32) (v2 : Int32) (σ : PS) : Option (Int32 × PS) := oM E σ (g_X5_distance E v0 v1 v2 σ)
theorem mo_X5_distance {E : PE} {v0 : Option Nat} {v1 : Int32} {v2 : Int32} {σ τ : PS} {rv : Int32} (h : f_X5_distance E v0 v1 v2 σ = some (rv, τ)) : sN σ ≤ sN τ ∧ sS σ ≤ sS τ ∧ sN τ ≤ E.2.1 ∧ sS τ ≤ E.2.2.1 := (oM_of h).2
def f_X5_order_L20 (E : PE) : Nat → Option Nat → Int32 → Int32 → PS → Option (Int32 × PS)
  | 0, _, _, _, _ => none
  | n + 1, v0, v2, v3, σ =>
    (oGr 6 1 v0 σ).bind fun x2 =>
    (oK 0 x2 σ).bind fun b5 =>
    bd (f_Jx4a65c_size_8abf5 E x2 σ) fun r3 s4 =>
    if r3 ≤ v3 then
      some ((-1 : Int32), s4)
    else
      (oGr 6 1 v0 s4).bind fun x6 =>
      (oK 0 x6 s4).bind fun b9 =>
      bd (f_Jx4a65c_get_915e3 E x6 v3 s4) fun r7 s8 =>
      (oCa 3 r7 s8).bind fun u10 =>
      (oGr 3 0 r7 s8).bind fun x11 =>
      (oK 0 x11 s8).bind fun b14 =>
      bd (f_Jx4a65c_size_8abf5 E x11 s8) fun r12 s13 =>
      if r12 ≤ v2 then
        f_X5_order_L20 E n v0 (v2 - r12) (v3 + 1) s13
      else
        (oGr 3 0 r7 s13).bind fun x15 =>
        (oK 0 x15 s13).bind fun b18 =>
        bd (f_Jx4a65c_get_915e3 E x15 v2 s13) fun r16 s17 =>
        (oCa 2 r16 s17).bind fun u19 =>
        (oGi 2 0 r16 s17).bind fun x20 =>
        some (x20, s17)
def g_X5_order (E : PE) (v0 : Option Nat) (v1 : Int32) (σ : PS) : Option (Int32 × PS) :=
  (oGi 6 6 v0 σ).bind fun x1 =>
  if x1 = 0 then
    some ((-2 : Int32), σ)
  else
    if 0 ≤ v1 then
      f_X5_order_L20 E E.1 v0 v1 (0 : Int32) σ
    else
      some ((-1 : Int32), σ)
def f_X5_order (E : PE) (v0 : Option Nat) (v1 : Int32) (σ : PS) : Option (Int32 × PS) := oM E σ (g_X5_order E v0 v1 σ)
theorem mo_X5_order {E : PE} {v0 : Option Nat} {v1 : Int32} {σ τ : PS} {rv : Int32} (h : f_X5_order E v0 v1 σ = some (rv, τ)) : sN σ ≤ sN τ ∧ sS σ ≤ sS τ ∧ sN τ ≤ E.2.1 ∧ sS τ ≤ E.2.2.1 := (oM_of h).2
def g_X5_twin (E : PE) (v0 : Option Nat) (v1 : Int32) (σ : PS) : Option (Int32 × PS) :=
  (oK 6 v0 σ).bind fun b3 =>
  bd (f_X5_isEntry E v0 v1 σ) fun r1 s2 =>
  if r1 = 0 then
    some ((-1 : Int32), s2)
  else
    (oGi 6 6 v0 s2).bind fun x4 =>
    if x4 = 0 then
      some ((-2 : Int32), s2)
    else
      (oGr 6 0 v0 s2).bind fun x5 =>
      (oK 0 x5 s2).bind fun b8 =>
      bd (f_Jx4a65c_get_915e3 E x5 v1 s2) fun r6 s7 =>
      (oCa 2 r6 s7).bind fun u9 =>
      (oGi 2 5 r6 s7).bind fun x10 =>
      some (x10, s7)
def f_X5_twin (E : PE) (v0 : Option Nat) (v1 : Int32) (σ : PS) : Option (Int32 × PS) := oM E σ (g_X5_twin E v0 v1 σ)
theorem mo_X5_twin {E : PE} {v0 : Option Nat} {v1 : Int32} {σ τ : PS} {rv : Int32} (h : f_X5_twin E v0 v1 σ = some (rv, τ)) : sN σ ≤ sN τ ∧ sS σ ≤ sS τ ∧ sN τ ≤ E.2.1 ∧ sS τ ≤ E.2.2.1 := (oM_of h).2
def g_X5_group (E : PE) (v0 : Option Nat) (v1 : Int32) (σ : PS) : Option (Int32 × PS) :=
  (oK 6 v0 σ).bind fun b3 =>
  bd (f_X5_isEntry E v0 v1 σ) fun r1 s2 =>
  if r1 = 0 then
    some ((-1 : Int32), s2)
  else
    (oGi 6 6 v0 s2).bind fun x4 =>
    if x4 = 0 then
      some ((-2 : Int32), s2)
    else
      (oGr 6 0 v0 s2).bind fun x5 =>
      (oK 0 x5 s2).bind fun b8 =>
      bd (f_Jx4a65c_get_915e3 E x5 v1 s2) fun r6 s7 =>
      (oCa 2 r6 s7).bind fun u9 =>
      (oGi 2 5 r6 s7).bind fun x10 =>
      (oK 6 v0 s7).bind fun b13 =>
      bd (f_X5_groupNumberOf E v0 x10 s7) fun r11 s12 =>
      some (r11, s12)
def f_X5_group (E : PE) (v0 : Option Nat) (v1 : Int32) (σ : PS) : Option (Int32 × PS) := oM E σ (g_X5_group E v0 v1 σ)
theorem mo_X5_group {E : PE} {v0 : Option Nat} {v1 : Int32} {σ τ : PS} {rv : Int32} (h : f_X5_group E v0 v1 σ = some (rv, τ)) : sN σ ≤ sN τ ∧ sS σ ≤ sS τ ∧ sN τ ≤ E.2.1 ∧ sS τ ≤ E.2.2.1 := (oM_of h).2
def g_X2_placeOf (E : PE) (v0 : Option Nat) (v1 : Int32) (σ : PS) : Option (Int32 × PS) :=
  (oK 3 v0 σ).bind fun b3 =>
  bd (f_X2_indexOf E v0 v1 σ) fun r1 s2 =>
  (oK 3 v0 s2).bind fun b6 =>
  bd (f_X2_bytesBefore E v0 r1 s2) fun r4 s5 =>
  some (r4, s5)
def f_X2_placeOf (E : PE) (v0 : Option Nat) (v1 : Int32) (σ : PS) : Option (Int32 × PS) := oM E σ (g_X2_placeOf E v0 v1 σ)
theorem mo_X2_placeOf {E : PE} {v0 : Option Nat} {v1 : Int32} {σ τ : PS} {rv : Int32} (h : f_X2_placeOf E v0 v1 σ = some (rv, τ)) : sN σ ≤ sN τ ∧ sS σ ≤ sS τ ∧ sN τ ≤ E.2.1 ∧ sS τ ≤ E.2.2.1 := (oM_of h).2
def f_X5_placeOf_B39 (E : PE) (w0 : Int32) (σ : PS) : Option (Int32 × PS) :=
  some (w0, σ)
def g_X5_placeOf (E : PE) (v0 : Option Nat) (v1 : Option Nat) (σ : PS) : Option (Int32 × PS) :=
  (oGi 2 5 v1 σ).bind fun x1 =>
  (oK 6 v0 σ).bind fun b4 =>
  bd (f_X5_groupNumberOf E v0 x1 σ) fun r2 s3 =>
  (oK 6 v0 s3).bind fun b7 =>
  bd (f_X5_isGroup E v0 r2 s3) fun r5 s6 =>
  if r5 = 0 then
    f_X5_placeOf_B39 E (-1 : Int32) s6
  else
    (oGr 6 1 v0 s6).bind fun x8 =>
    (oK 0 x8 s6).bind fun b11 =>
    bd (f_Jx4a65c_get_915e3 E x8 r2 s6) fun r9 s10 =>
    (oCa 3 r9 s10).bind fun u12 =>
    (oGi 2 5 v1 s10).bind fun x13 =>
    (oK 3 r9 s10).bind fun b16 =>
    bd (f_X2_placeOf E r9 x13 s10) fun r14 s15 =>
    f_X5_placeOf_B39 E r14 s15
def f_X5_placeOf (E : PE) (v0 : Option Nat) (v1 : Option Nat) (σ : PS) : Option (Int32 × PS) := oM E σ (g_X5_placeOf E v0 v1 σ)
theorem mo_X5_placeOf {E : PE} {v0 : Option Nat} {v1 : Option Nat} {σ τ : PS} {rv : Int32} (h : f_X5_placeOf E v0 v1 σ = some (rv, τ)) : sN σ ≤ sN τ ∧ sS σ ≤ sS τ ∧ sN τ ≤ E.2.1 ∧ sS τ ≤ E.2.2.1 := (oM_of h).2
def g_X5_place (E : PE) (v0 : Option Nat) (v1 : Int32) (σ : PS) : Option (Int32 × PS) :=
  (oK 6 v0 σ).bind fun b3 =>
  bd (f_X5_isEntry E v0 v1 σ) fun r1 s2 =>
  if r1 = 0 then
    some ((-1 : Int32), s2)
  else
    (oGi 6 6 v0 s2).bind fun x4 =>
    if x4 = 0 then
      some ((-2 : Int32), s2)
    else
      (oGr 6 0 v0 s2).bind fun x5 =>
      (oK 0 x5 s2).bind fun b8 =>
      bd (f_Jx4a65c_get_915e3 E x5 v1 s2) fun r6 s7 =>
      (oCa 2 r6 s7).bind fun u9 =>
      (oK 6 v0 s7).bind fun b12 =>
      bd (f_X5_placeOf E v0 r6 s7) fun r10 s11 =>
      some (r10, s11)
def f_X5_place (E : PE) (v0 : Option Nat) (v1 : Int32) (σ : PS) : Option (Int32 × PS) := oM E σ (g_X5_place E v0 v1 σ)
theorem mo_X5_place {E : PE} {v0 : Option Nat} {v1 : Int32} {σ τ : PS} {rv : Int32} (h : f_X5_place E v0 v1 σ = some (rv, τ)) : sN σ ≤ sN τ ∧ sS σ ≤ sS τ ∧ sN τ ≤ E.2.1 ∧ sS τ ≤ E.2.2.1 := (oM_of h).2
def f_X4_tokensTill_L4 (E : PE) : Nat → Option Nat → Int32 → Int32 → Int32 → PS → Option (Int32 × PS)
  | 0, _, _, _, _, _ => none
  | n + 1, v0, v1, v2, v3, σ =>
    (oGi 5 3 v0 σ).bind fun x1 =>
    if x1 ≤ v3 then
      (oGi 5 3 v0 σ).bind fun x2 =>
      some (x2, σ)
    else
      if v2 < v1 then
        (oGr 5 2 v0 σ).bind fun x3 =>
        (oAl x3 v3 σ).bind fun x4 =>
        f_X4_tokensTill_L4 E n v0 v1 (v2 + x4) (v3 + 1) σ
      else
        some (v3, σ)
def g_X4_tokensTill (E : PE) (v0 : Option Nat) (v1 : Int32) (σ : PS) : Option (Int32 × PS) :=
  f_X4_tokensTill_L4 E E.1 v0 v1 (0 : Int32) (0 : Int32) σ
def f_X4_tokensTill (E : PE) (v0 : Option Nat) (v1 : Int32) (σ : PS) : Option (Int32 × PS) := oM E σ (g_X4_tokensTill E v0 v1 σ)
theorem mo_X4_tokensTill {E : PE} {v0 : Option Nat} {v1 : Int32} {σ τ : PS} {rv : Int32} (h : f_X4_tokensTill E v0 v1 σ = some (rv, τ)) : sN σ ≤ sN τ ∧ sS σ ≤ sS τ ∧ sN τ ≤ E.2.1 ∧ sS τ ≤ E.2.2.1 := (oM_of h).2
def f_X5_access_B56 (E : PE) (σ : PS) : Option (Int32 × PS) :=
  some ((0 : Int32), σ)
def g_X5_access (E : PE) (v0 : Option Nat) (v1 : Int32) (σ : PS) : Option (Int32 × PS) :=
  (oK 6 v0 σ).bind fun b3 =>
  bd (f_X5_isEntry E v0 v1 σ) fun r1 s2 =>
  if r1 = 0 then
    some ((-1 : Int32), s2)
  else
    (oGi 6 6 v0 s2).bind fun x4 =>
    if x4 = 0 then
      some ((-2 : Int32), s2)
    else
      (oGr 6 0 v0 s2).bind fun x5 =>
      (oK 0 x5 s2).bind fun b8 =>
      bd (f_Jx4a65c_get_915e3 E x5 v1 s2) fun r6 s7 =>
      (oCa 2 r6 s7).bind fun u9 =>
      (oGi 2 5 r6 s7).bind fun x10 =>
      (oK 6 v0 s7).bind fun b13 =>
      bd (f_X5_groupNumberOf E v0 x10 s7) fun r11 s12 =>
      (oGi 2 4 r6 s12).bind fun x14 =>
      if x14 = 0 then
        f_X5_access_B56 E s12
      else
        (oK 6 v0 s12).bind fun b17 =>
        bd (f_X5_isGroup E v0 r11 s12) fun r15 s16 =>
        if r15 = 0 then
          f_X5_access_B56 E s16
        else
          (oGr 6 1 v0 s16).bind fun x18 =>
          (oK 0 x18 s16).bind fun b21 =>
          bd (f_Jx4a65c_get_915e3 E x18 r11 s16) fun r19 s20 =>
          (oCa 3 r19 s20).bind fun u22 =>
          (oGr 3 1 r19 s20).bind fun x23 =>
          (oK 6 v0 s20).bind fun b26 =>
          bd (f_X5_placeOf E v0 r6 s20) fun r24 s25 =>
          (oGi 2 4 r6 s25).bind fun x27 =>
          (oK 5 x23 s25).bind fun b30 =>
          bd (f_X4_tokensTill E x23 (r24 + x27) s25) fun r28 s29 =>
          some (r28, s29)
def f_X5_access (E : PE) (v0 : Option Nat) (v1 : Int32) (σ : PS) : Option (Int32 × PS) := oM E σ (g_X5_access E v0 v1 σ)
theorem mo_X5_access {E : PE} {v0 : Option Nat} {v1 : Int32} {σ τ : PS} {rv : Int32} (h : f_X5_access E v0 v1 σ = some (rv, τ)) : sN σ ≤ sN τ ∧ sS σ ≤ sS τ ∧ sN τ ≤ E.2.1 ∧ sS τ ≤ E.2.2.1 := (oM_of h).2
def f_X4_unpack_B66 (E : PE) (σ : PS) : Option (Int32 × PS) :=
  some ((-1 : Int32), σ)
def f_X4_unpack_L4 (E : PE) : Nat → Option Nat → Int32 → Int32 → Int32 → PS → Option (Int32 × PS)
  | 0, _, _, _, _, _ => none
  | n + 1, v0, v1, v2, v3, σ =>
    if v1 < v3 then
      f_X4_unpack_B66 E σ
    else
      if v2 < 0 then
        f_X4_unpack_B66 E σ
      else
        (oK 5 v0 σ).bind fun b3 =>
        bd (f_X4_tokensTill E v0 (v2 + (1 : Int32)) σ) fun r1 s2 =>
        if 0 ≤ r1 - (1 : Int32) then
          (oGr 5 0 v0 s2).bind fun x4 =>
          (oAl x4 (r1 - (1 : Int32)) s2).bind fun x5 =>
          if x5 = (-1 : Int32) then
            (oGr 5 1 v0 s2).bind fun x6 =>
            (oAl x6 (r1 - (1 : Int32)) s2).bind fun x7 =>
            f_X4_unpack_L4 E n v0 v1 (v2 - x7) (v3 + 1) s2
          else
            (oGr 5 0 v0 s2).bind fun x8 =>
            (oAl x8 (r1 - (1 : Int32)) s2).bind fun x9 =>
            some (x9, s2)
        else
          some ((-1 : Int32), s2)
def g_X4_unpack (E : PE) (v0 : Option Nat) (v1 : Int32) (σ : PS) : Option (Int32 × PS) :=
  f_X4_unpack_L4 E E.1 v0 v1 v1 (0 : Int32) σ
def f_X4_unpack (E : PE) (v0 : Option Nat) (v1 : Int32) (σ : PS) : Option (Int32 × PS) := oM E σ (g_X4_unpack E v0 v1 σ)
theorem mo_X4_unpack {E : PE} {v0 : Option Nat} {v1 : Int32} {σ τ : PS} {rv : Int32} (h : f_X4_unpack E v0 v1 σ = some (rv, τ)) : sN σ ≤ sN τ ∧ sS σ ≤ sS τ ∧ sN τ ≤ E.2.1 ∧ sS τ ≤ E.2.2.1 := (oM_of h).2
def g_X5_open (E : PE) (v0 : Option Nat) (v1 : Int32) (v2 : Int32) (σ : PS) : Option (Int32 × PS) :=
  (oK 6 v0 σ).bind fun b3 =>
  bd (f_X5_isByteOf E v0 v1 v2 σ) fun r1 s2 =>
  if r1 = 0 then
    some ((-1 : Int32), s2)
  else
    (oGi 6 6 v0 s2).bind fun x4 =>
    if x4 = 0 then
      some ((-2 : Int32), s2)
    else
      (oGr 6 0 v0 s2).bind fun x5 =>
      (oK 0 x5 s2).bind fun b8 =>
      bd (f_Jx4a65c_get_915e3 E x5 v1 s2) fun r6 s7 =>
      (oCa 2 r6 s7).bind fun u9 =>
      (oGi 2 5 r6 s7).bind fun x10 =>
      (oK 6 v0 s7).bind fun b13 =>
      bd (f_X5_groupNumberOf E v0 x10 s7) fun r11 s12 =>
      (oK 6 v0 s12).bind fun b16 =>
      bd (f_X5_isGroup E v0 r11 s12) fun r14 s15 =>
      if r14 = 0 then
        some ((-1 : Int32), s15)
      else
        (oGr 6 1 v0 s15).bind fun x17 =>
        (oK 0 x17 s15).bind fun b20 =>
        bd (f_Jx4a65c_get_915e3 E x17 r11 s15) fun r18 s19 =>
        (oCa 3 r18 s19).bind fun u21 =>
        (oGr 3 1 r18 s19).bind fun x22 =>
        (oK 6 v0 s19).bind fun b25 =>
        bd (f_X5_placeOf E v0 r6 s19) fun r23 s24 =>
        (oK 5 x22 s24).bind fun b28 =>
        bd (f_X4_unpack E x22 (r23 + v2) s24) fun r26 s27 =>
        some (r26, s27)
def f_X5_open (E : PE) (v0 : Option Nat) (v1 : Int32) (v2 : Int32) (σ : PS) : Option (Int32 × PS) := oM E σ (g_X5_open E v0 v1 v2 σ)
theorem mo_X5_open {E : PE} {v0 : Option Nat} {v1 : Int32} {v2 : Int32} {σ τ : PS} {rv : Int32} (h : f_X5_open E v0 v1 v2 σ = some (rv, τ)) : sN σ ≤ sN τ ∧ sS σ ≤ sS τ ∧ sN τ ≤ E.2.1 ∧ sS τ ≤ E.2.2.1 := (oM_of h).2
def g_X5_of (E : PE) (v0 : Option Nat) (v1 : Int32) (v2 : Int32) (σ : PS) : Option (Int32 × PS) :=
  (oGi 6 6 v0 σ).bind fun x1 =>
  if x1 = 0 then
    some ((-2 : Int32), σ)
  else
    (oK 6 v0 σ).bind fun b4 =>
    bd (f_X5_isGroup E v0 v1 σ) fun r2 s3 =>
    if r2 = 0 then
      some ((-1 : Int32), s3)
    else
      (oGr 6 1 v0 s3).bind fun x5 =>
      (oK 0 x5 s3).bind fun b8 =>
      bd (f_Jx4a65c_get_915e3 E x5 v1 s3) fun r6 s7 =>
      (oCa 3 r6 s7).bind fun u9 =>
      if v2 = (0 : Int32) then
        (oGi 3 2 r6 s7).bind fun x10 =>
        some (x10, s7)
      else
      if v2 = (1 : Int32) then
        (oGr 3 0 r6 s7).bind fun x11 =>
        (oK 0 x11 s7).bind fun b14 =>
        bd (f_Jx4a65c_size_8abf5 E x11 s7) fun r12 s13 =>
        some (r12, s13)
      else
      if v2 = (2 : Int32) then
        (oK 3 r6 s7).bind fun b17 =>
        bd (f_X2_byteCount E r6 s7) fun r15 s16 =>
        some (r15, s16)
      else
      if v2 = (3 : Int32) then
        (oGr 3 1 r6 s7).bind fun x18 =>
        (oGi 5 3 x18 s7).bind fun x19 =>
        some (x19, s7)
      else
      if v2 = (4 : Int32) then
        (oGr 3 1 r6 s7).bind fun x20 =>
        (oGi 5 4 x20 s7).bind fun x21 =>
        some (x21, s7)
      else
      if v2 = (5 : Int32) then
        (oGi 3 3 r6 s7).bind fun x22 =>
        some (x22, s7)
      else
      some ((-1 : Int32), s7)
def f_X5_of (E : PE) (v0 : Option Nat) (v1 : Int32) (v2 : Int32) (σ : PS) : Option (Int32 × PS) := oM E σ (g_X5_of E v0 v1 v2 σ)
theorem mo_X5_of {E : PE} {v0 : Option Nat} {v1 : Int32} {v2 : Int32} {σ τ : PS} {rv : Int32} (h : f_X5_of E v0 v1 v2 σ = some (rv, τ)) : sN σ ≤ sN τ ∧ sS σ ≤ sS τ ∧ sN τ ≤ E.2.1 ∧ sS τ ≤ E.2.2.1 := (oM_of h).2
def f_X5_token_B49 (E : PE) (σ : PS) : Option (Int32 × PS) :=
  some ((-1 : Int32), σ)
def g_X5_token (E : PE) (v0 : Option Nat) (v1 : Int32) (v2 : Int32) (v3 : Int32) (σ : PS) : Option (Int32 × PS) :=
  (oGi 6 6 v0 σ).bind fun x1 =>
  if x1 = 0 then
    some ((-2 : Int32), σ)
  else
    (oK 6 v0 σ).bind fun b4 =>
    bd (f_X5_isGroup E v0 v1 σ) fun r2 s3 =>
    if r2 = 0 then
      some ((-1 : Int32), s3)
    else
      (oGr 6 1 v0 s3).bind fun x5 =>
      (oK 0 x5 s3).bind fun b8 =>
      bd (f_Jx4a65c_get_915e3 E x5 v1 s3) fun r6 s7 =>
      (oCa 3 r6 s7).bind fun u9 =>
      (oGr 3 1 r6 s7).bind fun x10 =>
      if v2 < 0 then
        f_X5_token_B49 E s7
      else
        (oGi 5 3 x10 s7).bind fun x11 =>
        if v2 < x11 then
          if v3 = (0 : Int32) then
            (oGr 5 0 x10 s7).bind fun x12 =>
            (oAl x12 v2 s7).bind fun x13 =>
            some (x13, s7)
          else
          if v3 = (1 : Int32) then
            (oGr 5 1 x10 s7).bind fun x14 =>
            (oAl x14 v2 s7).bind fun x15 =>
            some (x15, s7)
          else
          if v3 = (2 : Int32) then
            (oGr 5 2 x10 s7).bind fun x16 =>
            (oAl x16 v2 s7).bind fun x17 =>
            some (x17, s7)
          else
          some ((-1 : Int32), s7)
        else
          f_X5_token_B49 E s7
def f_X5_token (E : PE) (v0 : Option Nat) (v1 : Int32) (v2 : Int32) (v3 : Int32) (σ : PS) : Option (Int32 × PS) := oM E σ (g_X5_token E v0 v1 v2 v3 σ)
theorem mo_X5_token {E : PE} {v0 : Option Nat} {v1 : Int32} {v2 : Int32} {v3 : Int32} {σ τ : PS} {rv : Int32} (h : f_X5_token E v0 v1 v2 v3 σ = some (rv, τ)) : sN σ ≤ sN τ ∧ sS σ ≤ sS τ ∧ sN τ ≤ E.2.1 ∧ sS τ ≤ E.2.2.1 := (oM_of h).2
def f_X2_addMembersTo_L2 (E : PE) : Nat → Option Nat → Option Nat → Int32 → PS → Option (Unit × PS)
  | 0, _, _, _, _ => none
  | n + 1, v0, v1, v2, σ =>
    (oGr 3 0 v0 σ).bind fun x1 =>
    (oK 0 x1 σ).bind fun b4 =>
    bd (f_Jx4a65c_size_8abf5 E x1 σ) fun r2 s3 =>
    if r2 ≤ v2 then
      some ((), s3)
    else
      (oGr 3 0 v0 s3).bind fun x5 =>
      (oK 0 x5 s3).bind fun b8 =>
      bd (f_Jx4a65c_get_915e3 E x5 v2 s3) fun r6 s7 =>
      (oCa 2 r6 s7).bind fun u9 =>
      (oK 0 v1 s7).bind fun b12 =>
      bd (f_Jx4a65c_add_9ea2d E v1 r6 s7) fun r10 s11 =>
      f_X2_addMembersTo_L2 E n v0 v1 (v2 + 1) s11
def g_X2_addMembersTo (E : PE) (v0 : Option Nat) (v1 : Option Nat) (σ : PS) : Option (Unit × PS) :=
  f_X2_addMembersTo_L2 E E.1 v0 v1 (0 : Int32) σ
def f_X2_addMembersTo (E : PE) (v0 : Option Nat) (v1 : Option Nat) (σ : PS) : Option (Unit × PS) := oM E σ (g_X2_addMembersTo E v0 v1 σ)
theorem mo_X2_addMembersTo {E : PE} {v0 : Option Nat} {v1 : Option Nat} {σ τ : PS} {rv : Unit} (h : f_X2_addMembersTo E v0 v1 σ = some (rv, τ)) : sN σ ≤ sN τ ∧ sS σ ≤ sS τ ∧ sN τ ≤ E.2.1 ∧ sS τ ≤ E.2.2.1 := (oM_of h).2
def f_X5_sum_L85 (E : PE) : Nat → Option Nat → Int32 → Int32 → PS → Option (Int32 × PS)
  | 0, _, _, _, _ => none
  | n + 1, v0, v2, v3, σ =>
    (oGr 6 3 v0 σ).bind fun x27 =>
    (oK 0 x27 σ).bind fun b30 =>
    bd (f_Jx4a65c_size_8abf5 E x27 σ) fun r28 s29 =>
    if r28 ≤ v3 then
      some (v2, s29)
    else
      (oGr 6 3 v0 s29).bind fun x31 =>
      (oK 0 x31 s29).bind fun b34 =>
      bd (f_Jx4a65c_get_915e3 E x31 (v3 - (1 : Int32)) s29) fun r32 s33 =>
      (oCa 2 r32 s33).bind fun u35 =>
      (oGr 6 3 v0 s33).bind fun x36 =>
      (oK 0 x36 s33).bind fun b39 =>
      bd (f_Jx4a65c_get_915e3 E x36 v3 s33) fun r37 s38 =>
      (oCa 2 r37 s38).bind fun u40 =>
      bd (f_X5_apart E r32 r37 s38) fun r41 s42 =>
      f_X5_sum_L85 E n v0 (v2 + r41) (v3 + 1) s42
def f_X5_sum_B75 (E : PE) (k28 : Option Nat → Int32 → Int32 → PS → Option (Int32 × PS)) (v0 : Option Nat) (v1 : Int32) (v2 : Int32) (σ : PS) : Option (Int32 × PS) :=
  k28 v0 v1 (v2 + 1) σ
def f_X5_sum_L28 (E : PE) : Nat → Option Nat → Int32 → Int32 → PS → Option (Int32 × PS)
  | 0, _, _, _, _ => none
  | n + 1, v0, v1, v2, σ =>
    (oGr 6 1 v0 σ).bind fun x8 =>
    (oK 0 x8 σ).bind fun b11 =>
    bd (f_Jx4a65c_size_8abf5 E x8 σ) fun r9 s10 =>
    if r9 ≤ v2 then
      f_X5_sum_L85 E E.1 v0 (0 : Int32) (1 : Int32) s10
    else
      (oGr 6 1 v0 s10).bind fun x12 =>
      (oK 0 x12 s10).bind fun b15 =>
      bd (f_Jx4a65c_get_915e3 E x12 v2 s10) fun r13 s14 =>
      (oCa 3 r13 s14).bind fun u16 =>
      (oGi 3 2 r13 s14).bind fun x17 =>
      if x17 = v1 then
        (oGr 6 1 v0 s14).bind fun x18 =>
        (oK 0 x18 s14).bind fun b21 =>
        bd (f_Jx4a65c_get_915e3 E x18 v2 s14) fun r19 s20 =>
        (oCa 3 r19 s20).bind fun u22 =>
        (oGr 6 3 v0 s20).bind fun x23 =>
        (oK 3 r19 s20).bind fun b26 =>
        bd (f_X2_addMembersTo E r19 x23 s20) fun _ s25 =>
        f_X5_sum_B75 E (f_X5_sum_L28 E n) v0 v1 v2 s25
      else
        f_X5_sum_B75 E (f_X5_sum_L28 E n) v0 v1 v2 s14
def g_X5_sum (E : PE) (v0 : Option Nat) (v1 : Int32) (σ : PS) : Option (Int32 × PS) :=
  bd (f_X5_isKind E v1 σ) fun r1 s2 =>
  if r1 = 0 then
    some ((-1 : Int32), s2)
  else
    (oGi 6 6 v0 s2).bind fun x3 =>
    if x3 = 0 then
      some ((-2 : Int32), s2)
    else
      (oGr 6 3 v0 s2).bind fun x4 =>
      (oK 0 x4 s2).bind fun b7 =>
      bd (f_Jx4a65c_clear_da8c8 E x4 s2) fun _ s6 =>
      f_X5_sum_L28 E E.1 v0 v1 (0 : Int32) s6
def f_X5_sum (E : PE) (v0 : Option Nat) (v1 : Int32) (σ : PS) : Option (Int32 × PS) := oM E σ (g_X5_sum E v0 v1 σ)
theorem mo_X5_sum {E : PE} {v0 : Option Nat} {v1 : Int32} {σ τ : PS} {rv : Int32} (h : f_X5_sum E v0 v1 σ = some (rv, τ)) : sN σ ≤ sN τ ∧ sS σ ≤ sS τ ∧ sN τ ≤ E.2.1 ∧ sS τ ≤ E.2.2.1 := (oM_of h).2
def f_X5_count_B9 (E : PE) (σ : PS) : Option (Int32 × PS) :=
  some ((-1 : Int32), σ)
def f_X5_count_B123 (E : PE) (w0 : Int32) (σ : PS) : Option (Int32 × PS) :=
  some (w0, σ)
def f_X5_count_L53 (E : PE) : Nat → Option Nat → Int32 → Int32 → Int32 → Int32 → PS → Option (Int32 × PS)
  | 0, _, _, _, _, _, _ => none
  | n + 1, v0, v1, v2, v3, v4, σ =>
    (oGr 6 1 v0 σ).bind fun x10 =>
    (oK 0 x10 σ).bind fun b13 =>
    bd (f_Jx4a65c_size_8abf5 E x10 σ) fun r11 s12 =>
    if r11 ≤ v4 then
      if v1 = (1 : Int32) then
        f_X5_count_B123 E v2 s12
      else
        f_X5_count_B123 E v3 s12
    else
      (oGr 6 1 v0 s12).bind fun x14 =>
      (oK 0 x14 s12).bind fun b17 =>
      bd (f_Jx4a65c_get_915e3 E x14 v4 s12) fun r15 s16 =>
      (oCa 3 r15 s16).bind fun u18 =>
      (oGr 3 0 r15 s16).bind fun x19 =>
      (oK 0 x19 s16).bind fun b22 =>
      bd (f_Jx4a65c_size_8abf5 E x19 s16) fun r20 s21 =>
      (oGr 6 1 v0 s21).bind fun x23 =>
      (oK 0 x23 s21).bind fun b26 =>
      bd (f_Jx4a65c_get_915e3 E x23 v4 s21) fun r24 s25 =>
      (oCa 3 r24 s25).bind fun u27 =>
      (oGr 3 1 r24 s25).bind fun x28 =>
      (oGi 5 4 x28 s25).bind fun x29 =>
      f_X5_count_L53 E n v0 v1 (v2 + r20) (v3 + x29) (v4 + 1) s25
def g_X5_count (E : PE) (v0 : Option Nat) (v1 : Int32) (σ : PS) : Option (Int32 × PS) :=
  if v1 < 0 then
    f_X5_count_B9 E σ
  else
    if v1 ≤ (3 : Int32) then
      if v1 = 0 then
        (oGr 6 0 v0 σ).bind fun x6 =>
        (oK 0 x6 σ).bind fun b9 =>
        bd (f_Jx4a65c_size_8abf5 E x6 σ) fun r7 s8 =>
        some (r7, s8)
      else
        (oGi 6 6 v0 σ).bind fun x1 =>
        if x1 = 0 then
          some ((-2 : Int32), σ)
        else
          if v1 = (2 : Int32) then
            (oGr 6 1 v0 σ).bind fun x2 =>
            (oK 0 x2 σ).bind fun b5 =>
            bd (f_Jx4a65c_size_8abf5 E x2 σ) fun r3 s4 =>
            some (r3, s4)
          else
            f_X5_count_L53 E E.1 v0 v1 (0 : Int32) (0 : Int32) (0 : Int32) σ
    else
      f_X5_count_B9 E σ
def f_X5_count (E : PE) (v0 : Option Nat) (v1 : Int32) (σ : PS) : Option (Int32 × PS) := oM E σ (g_X5_count E v0 v1 σ)
theorem mo_X5_count {E : PE} {v0 : Option Nat} {v1 : Int32} {σ τ : PS} {rv : Int32} (h : f_X5_count E v0 v1 σ = some (rv, τ)) : sN σ ≤ sN τ ∧ sS σ ≤ sS τ ∧ sN τ ≤ E.2.1 ∧ sS τ ≤ E.2.2.1 := (oM_of h).2
def g_X6_init (E : PE) (v0 : Option Nat) (σ : PS) : Option (Unit × PS) :=
  (oK 7 v0 σ).bind fun b1 =>
  bd (oNa E 100 (30 : Int32) σ) fun x2 s3 =>
  (oPr 7 1 v0 x2 s3).bind fun s4 =>
  bd (oNa E 100 (30 : Int32) s4) fun x5 s6 =>
  (oPr 7 2 v0 x5 s6).bind fun s7 =>
  bd (oNa E 100 (1800 : Int32) s7) fun x8 s9 =>
  (oPr 7 3 v0 x8 s9).bind fun s10 =>
  bd (oNa E 100 (30 : Int32) s10) fun x11 s12 =>
  (oPr 7 6 v0 x11 s12).bind fun s13 =>
  bd (oNa E 100 (30 : Int32) s13) fun x14 s15 =>
  (oPr 7 7 v0 x14 s15).bind fun s16 =>
  bd (oNa E 100 (30 : Int32) s16) fun x17 s18 =>
  (oPr 7 8 v0 x17 s18).bind fun s19 =>
  bd (oNa E 100 (30 : Int32) s19) fun x20 s21 =>
  (oPr 7 11 v0 x20 s21).bind fun s22 =>
  bd (oNa E 100 (30 : Int32) s22) fun x23 s24 =>
  (oPr 7 12 v0 x23 s24).bind fun s25 =>
  bd (oNa E 100 (30 : Int32) s25) fun x26 s27 =>
  (oPr 7 13 v0 x26 s27).bind fun s28 =>
  bd (oNa E 100 (162000 : Int32) s28) fun x29 s30 =>
  (oPr 7 14 v0 x29 s30).bind fun s31 =>
  bd (oNa E 100 (32 : Int32) s31) fun x32 s33 =>
  (oPr 7 15 v0 x32 s33).bind fun s34 =>
  bd (oNa E 100 (32 : Int32) s34) fun x35 s36 =>
  (oPr 7 16 v0 x35 s36).bind fun s37 =>
  bd (oNa E 100 (30 : Int32) s37) fun x38 s39 =>
  (oPr 7 18 v0 x38 s39).bind fun s40 =>
  bd (oNa E 100 (30 : Int32) s40) fun x41 s42 =>
  (oPr 7 20 v0 x41 s42).bind fun s43 =>
  bd (oNa E 100 (1800 : Int32) s43) fun x44 s45 =>
  (oPr 7 21 v0 x44 s45).bind fun s46 =>
  some ((), s46)
def f_X6_init (E : PE) (v0 : Option Nat) (σ : PS) : Option (Unit × PS) := oM E σ (g_X6_init E v0 σ)
theorem mo_X6_init {E : PE} {v0 : Option Nat} {σ τ : PS} {rv : Unit} (h : f_X6_init E v0 σ = some (rv, τ)) : sN σ ≤ sN τ ∧ sS σ ≤ sS τ ∧ sN τ ≤ E.2.1 ∧ sS τ ≤ E.2.2.1 := (oM_of h).2
def f_X6_isIn_B15 (E : PE) (w0 : Int32) (σ : PS) : Option (Int32 × PS) :=
  if w0 = 0 ∨ w0 = 1 then some (w0, σ) else none
def f_X6_isIn_B14 (E : PE) (σ : PS) : Option (Int32 × PS) :=
  f_X6_isIn_B15 E (0 : Int32) σ
def g_X6_isIn (E : PE) (v0 : Int32) (v1 : Int32) (v2 : Int32) (σ : PS) : Option (Int32 × PS) :=
  if v0 < v1 then
    f_X6_isIn_B14 E σ
  else
    if v2 < v0 then
      f_X6_isIn_B14 E σ
    else
      f_X6_isIn_B15 E (1 : Int32) σ
def f_X6_isIn (E : PE) (v0 : Int32) (v1 : Int32) (v2 : Int32) (σ : PS) : Option (Int32 × PS) := oM E σ (g_X6_isIn E v0 v1 v2 σ)
theorem mo_X6_isIn {E : PE} {v0 : Int32} {v1 : Int32} {v2 : Int32} {σ τ : PS} {rv : Int32} (h : f_X6_isIn E v0 v1 v2 σ = some (rv, τ)) : sN σ ≤ sN τ ∧ sS σ ≤ sS τ ∧ sN τ ≤ E.2.1 ∧ sS τ ≤ E.2.2.1 := (oM_of h).2
def f_X6_size_B10 (E : PE) (w0 : Int32) (σ : PS) : Option (Int32 × PS) :=
  some (w0, σ)
def g_X6_size (E : PE) (v0 : Int32) (σ : PS) : Option (Int32 × PS) :=
  if 0 ≤ v0 then
    f_X6_size_B10 E v0 σ
  else
    f_X6_size_B10 E (-v0) σ
def f_X6_size (E : PE) (v0 : Int32) (σ : PS) : Option (Int32 × PS) := oM E σ (g_X6_size E v0 σ)
theorem mo_X6_size {E : PE} {v0 : Int32} {σ τ : PS} {rv : Int32} (h : f_X6_size E v0 σ = some (rv, τ)) : sN σ ≤ sN τ ∧ sS σ ≤ sS τ ∧ sN τ ≤ E.2.1 ∧ sS τ ≤ E.2.2.1 := (oM_of h).2
def g_X6_isEntry (E : PE) (v0 : Option Nat) (v1 : Int32) (σ : PS) : Option (Int32 × PS) :=
  (oGi 7 0 v0 σ).bind fun x1 =>
  bd (f_X6_isIn E v1 (0 : Int32) (x1 - (1 : Int32)) σ) fun r2 s3 =>
  if r2 = 0 ∨ r2 = 1 then some (r2, s3) else none
def f_X6_isEntry (E : PE) (v0 : Option Nat) (v1 : Int32) (σ : PS) : Option (Int32 × PS) := oM E σ (g_X6_isEntry E v0 v1 σ)
theorem mo_X6_isEntry {E : PE} {v0 : Option Nat} {v1 : Int32} {σ τ : PS} {rv : Int32} (h : f_X6_isEntry E v0 v1 σ = some (rv, τ)) : sN σ ≤ sN τ ∧ sS σ ≤ sS τ ∧ sN τ ≤ E.2.1 ∧ sS τ ≤ E.2.2.1 := (oM_of h).2
def g_X6_entry (E : PE) (v0 : Option Nat) (v1 : Int32) (σ : PS) : Option (Int32 × PS) :=
  bd (f_X6_isIn E v1 (0 : Int32) (5 : Int32) σ) fun r1 s2 =>
  if r1 = 0 then
    some ((-1 : Int32), s2)
  else
    (oGi 7 0 v0 s2).bind fun x3 =>
    if x3 = (30 : Int32) then
      some ((-3 : Int32), s2)
    else
      (oGr 7 1 v0 s2).bind fun x4 =>
      (oGi 7 0 v0 s2).bind fun x5 =>
      (oAs x4 x5 v1 s2).bind fun s6 =>
      (oGr 7 2 v0 s6).bind fun x7 =>
      (oGi 7 0 v0 s6).bind fun x8 =>
      (oAs x7 x8 (0 : Int32) s6).bind fun s9 =>
      (oGi 7 0 v0 s9).bind fun x10 =>
      (oPi 7 0 v0 (x10 + (1 : Int32)) s9).bind fun s11 =>
      (oPi 7 4 v0 (0 : Int32) s11).bind fun s12 =>
      (oGi 7 0 v0 s12).bind fun x13 =>
      some (x13 - (1 : Int32), s12)
def f_X6_entry (E : PE) (v0 : Option Nat) (v1 : Int32) (σ : PS) : Option (Int32 × PS) := oM E σ (g_X6_entry E v0 v1 σ)
theorem mo_X6_entry {E : PE} {v0 : Option Nat} {v1 : Int32} {σ τ : PS} {rv : Int32} (h : f_X6_entry E v0 v1 σ = some (rv, τ)) : sN σ ≤ sN τ ∧ sS σ ≤ sS τ ∧ sN τ ≤ E.2.1 ∧ sS τ ≤ E.2.2.1 := (oM_of h).2
def f_X6_octets_B18 (E : PE) (σ : PS) : Option (Int32 × PS) :=
  some ((-1 : Int32), σ)
def f_X6_octets_L39 (E : PE) : Nat → Option Nat → Int32 → Int32 → Int64 → Int32 → PS → Option (Int32 × PS)
  | 0, _, _, _, _, _, _ => none
  | n + 1, v0, v1, v2, v3, v5, σ =>
    if v2 ≤ v5 then
      (oPi 7 4 v0 (0 : Int32) σ).bind fun s8 =>
      (oGr 7 2 v0 s8).bind fun x9 =>
      (oAl x9 v1 s8).bind fun x10 =>
      some (x10, s8)
    else
      (oGr 7 3 v0 σ).bind fun x11 =>
      (oGr 7 2 v0 σ).bind fun x12 =>
      (oAl x12 v1 σ).bind fun x13 =>
      (oAs x11 (((60 : Int32) * v1) + x13) (((v3 >>> (((8 : Int32) * v5).toInt64 &&& 63)).toInt32) &&& (255 : Int32)) σ).bind fun s14 =>
      (oGr 7 2 v0 s14).bind fun x15 =>
      (oAl x15 v1 s14).bind fun x16 =>
      (oAs x15 v1 (x16 + (1 : Int32)) s14).bind fun s17 =>
      f_X6_octets_L39 E n v0 v1 v2 v3 (v5 + 1) s17
def g_X6_octets (E : PE) (v0 : Option Nat) (v1 : Int32) (v2 : Int32) (v3 : Int64) (σ : PS) : Option (Int32 × PS) :=
  (oK 7 v0 σ).bind fun b3 =>
  bd (f_X6_isEntry E v0 v1 σ) fun r1 s2 =>
  if r1 = 0 then
    f_X6_octets_B18 E s2
  else
    bd (f_X6_isIn E v2 (1 : Int32) (8 : Int32) s2) fun r4 s5 =>
    if r4 = 0 then
      f_X6_octets_B18 E s5
    else
      (oGr 7 2 v0 s5).bind fun x6 =>
      (oAl x6 v1 s5).bind fun x7 =>
      if x7 + v2 ≤ (60 : Int32) then
        f_X6_octets_L39 E E.1 v0 v1 v2 v3 (0 : Int32) s5
      else
        some ((-3 : Int32), s5)
def f_X6_octets (E : PE) (v0 : Option Nat) (v1 : Int32) (v2 : Int32) (v3 : Int64) (σ : PS) : Option (Int32 × PS) := oM E σ (g_X6_octets E v0 v1 v2 v3 σ)
theorem mo_X6_octets {E : PE} {v0 : Option Nat} {v1 : Int32} {v2 : Int32} {v3 : Int64} {σ τ : PS} {rv : Int32} (h : f_X6_octets E v0 v1 v2 v3 σ = some (rv, τ)) : sN σ ≤ sN τ ∧ sS σ ≤ sS τ ∧ sN τ ≤ E.2.1 ∧ sS τ ≤ E.2.2.1 := (oM_of h).2
def f_X6_marks_L20 (E : PE) : Nat → Option Nat → Int32 → Option Nat → Int32 → PS → Option (Unit × PS)
  | 0, _, _, _, _, _ => none
  | n + 1, v0, v1, v2, v3, σ =>
    (oGr 7 2 v0 σ).bind fun x2 =>
    (oAl x2 v1 σ).bind fun x3 =>
    if x3 ≤ v3 + (2 : Int32) then
      some ((), σ)
    else
      (oGr 7 3 v0 σ).bind fun x4 =>
      (oAl x4 (((60 : Int32) * v1) + v3) σ).bind fun x5 =>
      (oGr 7 3 v0 σ).bind fun x6 =>
      (oAl x6 ((((60 : Int32) * v1) + v3) + (1 : Int32)) σ).bind fun x7 =>
      (oGr 7 3 v0 σ).bind fun x8 =>
      (oAl x8 ((((60 : Int32) * v1) + v3) + (2 : Int32)) σ).bind fun x9 =>
      (oRm ((((7 : Int32) * x5) + ((5 : Int32) * x7)) + ((3 : Int32) * x9)) (32 : Int32)).bind fun x10 =>
      (oAl v2 x10 σ).bind fun x11 =>
      (oAs v2 x10 (x11 + (1 : Int32)) σ).bind fun s12 =>
      f_X6_marks_L20 E n v0 v1 v2 (v3 + 1) s12
def f_X6_marks_L2 (E : PE) : Nat → Option Nat → Int32 → Option Nat → Int32 → PS → Option (Unit × PS)
  | 0, _, _, _, _, _ => none
  | n + 1, v0, v1, v2, v3, σ =>
    if (32 : Int32) ≤ v3 then
      f_X6_marks_L20 E E.1 v0 v1 v2 (0 : Int32) σ
    else
      (oAs v2 v3 (0 : Int32) σ).bind fun s1 =>
      f_X6_marks_L2 E n v0 v1 v2 (v3 + 1) s1
def g_X6_marks (E : PE) (v0 : Option Nat) (v1 : Int32) (v2 : Option Nat) (σ : PS) : Option (Unit × PS) :=
  f_X6_marks_L2 E E.1 v0 v1 v2 (0 : Int32) σ
def f_X6_marks (E : PE) (v0 : Option Nat) (v1 : Int32) (v2 : Option Nat) (σ : PS) : Option (Unit × PS) := oM E σ (g_X6_marks E v0 v1 v2 σ)
theorem mo_X6_marks {E : PE} {v0 : Option Nat} {v1 : Int32} {v2 : Option Nat} {σ τ : PS} {rv : Unit} (h : f_X6_marks E v0 v1 v2 σ = some (rv, τ)) : sN σ ≤ sN τ ∧ sS σ ≤ sS τ ∧ sN τ ≤ E.2.1 ∧ sS τ ≤ E.2.2.1 := (oM_of h).2
def f_X6_commonOf_B65 (E : PE) (k23 : Option Nat → Int32 → Int32 → PS → Option (Int32 × PS)) (v0 : Option Nat) (v4 : Int32) (w0 : Int32) (w1 : Int32) (σ : PS) : Option (Int32 × PS) :=
  k23 v0 (w0 + w1) (v4 + 1) σ
def f_X6_commonOf_L23 (E : PE) : Nat → Option Nat → Int32 → Int32 → PS → Option (Int32 × PS)
  | 0, _, _, _, _ => none
  | n + 1, v0, v3, v4, σ =>
    if (32 : Int32) ≤ v4 then
      some (v3, σ)
    else
      (oGr 7 15 v0 σ).bind fun x9 =>
      (oAl x9 v4 σ).bind fun x10 =>
      (oGr 7 16 v0 σ).bind fun x11 =>
      (oAl x11 v4 σ).bind fun x12 =>
      if x12 ≤ x10 then
        (oGr 7 16 v0 σ).bind fun x13 =>
        (oAl x13 v4 σ).bind fun x14 =>
        f_X6_commonOf_B65 E (f_X6_commonOf_L23 E n) v0 v4 v3 x14 σ
      else
        (oGr 7 15 v0 σ).bind fun x15 =>
        (oAl x15 v4 σ).bind fun x16 =>
        f_X6_commonOf_B65 E (f_X6_commonOf_L23 E n) v0 v4 v3 x16 σ
def g_X6_commonOf (E : PE) (v0 : Option Nat) (v1 : Int32) (v2 : Int32) (σ : PS) : Option (Int32 × PS) :=
  (oGr 7 15 v0 σ).bind fun x1 =>
  (oK 7 v0 σ).bind fun b4 =>
  bd (f_X6_marks E v0 v1 x1 σ) fun _ s3 =>
  (oGr 7 16 v0 s3).bind fun x5 =>
  (oK 7 v0 s3).bind fun b8 =>
  bd (f_X6_marks E v0 v2 x5 s3) fun _ s7 =>
  f_X6_commonOf_L23 E E.1 v0 (0 : Int32) (0 : Int32) s7
def f_X6_commonOf (E : PE) (v0 : Option Nat) (v1 : Int32) (v2 : Int32) (σ : PS) : Option (Int32 × PS) := oM E σ (g_X6_commonOf E v0 v1 v2 σ)
theorem mo_X6_commonOf {E : PE} {v0 : Option Nat} {v1 : Int32} {v2 : Int32} {σ τ : PS} {rv : Int32} (h : f_X6_commonOf E v0 v1 v2 σ = some (rv, τ)) : sN σ ≤ sN τ ∧ sS σ ≤ sS τ ∧ sN τ ≤ E.2.1 ∧ sS τ ≤ E.2.2.1 := (oM_of h).2
def f_X6_distanceOf_L38 (E : PE) : Nat → Option Nat → Int32 → Int32 → PS → Option (Int32 × PS)
  | 0, _, _, _, _ => none
  | n + 1, v0, v3, v4, σ =>
    if (32 : Int32) ≤ v4 then
      some (v3, σ)
    else
      (oGr 7 15 v0 σ).bind fun x15 =>
      (oAl x15 v4 σ).bind fun x16 =>
      (oGr 7 16 v0 σ).bind fun x17 =>
      (oAl x17 v4 σ).bind fun x18 =>
      bd (f_X6_size E (x16 - x18) σ) fun r19 s20 =>
      f_X6_distanceOf_L38 E n v0 (v3 + r19) (v4 + 1) s20
def g_X6_distanceOf (E : PE) (v0 : Option Nat) (v1 : Int32) (v2 : Int32) (σ : PS) : Option (Int32 × PS) :=
  (oGr 7 15 v0 σ).bind fun x1 =>
  (oK 7 v0 σ).bind fun b4 =>
  bd (f_X6_marks E v0 v1 x1 σ) fun _ s3 =>
  (oGr 7 16 v0 s3).bind fun x5 =>
  (oK 7 v0 s3).bind fun b8 =>
  bd (f_X6_marks E v0 v2 x5 s3) fun _ s7 =>
  (oGr 7 2 v0 s7).bind fun x9 =>
  (oAl x9 v1 s7).bind fun x10 =>
  (oGr 7 2 v0 s7).bind fun x11 =>
  (oAl x11 v2 s7).bind fun x12 =>
  bd (f_X6_size E (x10 - x12) s7) fun r13 s14 =>
  f_X6_distanceOf_L38 E E.1 v0 r13 (0 : Int32) s14
def f_X6_distanceOf (E : PE) (v0 : Option Nat) (v1 : Int32) (v2 : Int32) (σ : PS) : Option (Int32 × PS) := oM E σ (g_X6_distanceOf E v0 v1 v2 σ)
theorem mo_X6_distanceOf {E : PE} {v0 : Option Nat} {v1 : Int32} {v2 : Int32} {σ τ : PS} {rv : Int32} (h : f_X6_distanceOf E v0 v1 v2 σ = some (rv, τ)) : sN σ ≤ sN τ ∧ sS σ ≤ sS τ ∧ sN τ ≤ E.2.1 ∧ sS τ ≤ E.2.2.1 := (oM_of h).2
def f_X6_common_B26 (E : PE) (w0 : Int32) (σ : PS) : Option (Int32 × PS) :=
  some (w0, σ)
def f_X6_common_B25 (E : PE) (σ : PS) : Option (Int32 × PS) :=
  f_X6_common_B26 E (-1 : Int32) σ
def g_X6_common (E : PE) (v0 : Option Nat) (v1 : Int32) (v2 : Int32) (σ : PS) : Option (Int32 × PS) :=
  (oK 7 v0 σ).bind fun b3 =>
  bd (f_X6_isEntry E v0 v1 σ) fun r1 s2 =>
  if r1 = 0 then
    f_X6_common_B25 E s2
  else
    (oK 7 v0 s2).bind fun b6 =>
    bd (f_X6_isEntry E v0 v2 s2) fun r4 s5 =>
    if r4 = 0 then
      f_X6_common_B25 E s5
    else
      (oK 7 v0 s5).bind fun b9 =>
      bd (f_X6_commonOf E v0 v1 v2 s5) fun r7 s8 =>
      f_X6_common_B26 E r7 s8
def f_X6_common (E : PE) (v0 : Option Nat) (v1 : Int32) (v2 : Int32) (σ : PS) : Option (Int32 × PS) := oM E σ (g_X6_common E v0 v1 v2 σ)
theorem mo_X6_common {E : PE} {v0 : Option Nat} {v1 : Int32} {v2 : Int32} {σ τ : PS} {rv : Int32} (h : f_X6_common E v0 v1 v2 σ = some (rv, τ)) : sN σ ≤ sN τ ∧ sS σ ≤ sS τ ∧ sN τ ≤ E.2.1 ∧ sS τ ≤ E.2.2.1 := (oM_of h).2
def g_X6_thrown (E : PE) (v0 : Option Nat) (σ : PS) : Option (Int32 × PS) :=
  (oGi 7 17 v0 σ).bind fun x1 =>
  some (x1, σ)
def f_X6_thrown (E : PE) (v0 : Option Nat) (σ : PS) : Option (Int32 × PS) := oM E σ (g_X6_thrown E v0 σ)
theorem mo_X6_thrown {E : PE} {v0 : Option Nat} {σ τ : PS} {rv : Int32} (h : f_X6_thrown E v0 σ = some (rv, τ)) : sN σ ≤ sN τ ∧ sS σ ≤ sS τ ∧ sN τ ≤ E.2.1 ∧ sS τ ≤ E.2.2.1 := (oM_of h).2
def f_X6_share_B21 (E : PE) (σ : PS) : Option (Int32 × PS) :=
  some ((-1 : Int32), σ)
def f_X6_share_B100 (E : PE) (w0 : Int32) (σ : PS) : Option (Int32 × PS) :=
  some (w0, σ)
def f_X6_share_B81 (E : PE) (v3 : Int32) (v4 : Int32) (w0 : Option Nat) (w1 : Int32) (σ : PS) : Option (Int32 × PS) :=
  (oPi 7 17 w0 w1 σ).bind fun s15 =>
  if v4 = 0 then
    f_X6_share_B100 E (0 : Int32) s15
  else
    (oDv ((100 : Int32) * v3) v4).bind fun x16 =>
    f_X6_share_B100 E x16 s15
def f_X6_share_L37 (E : PE) : Nat → Option Nat → Int32 → Int32 → Int32 → PS → Option (Int32 × PS)
  | 0, _, _, _, _, _ => none
  | n + 1, v0, v3, v4, v5, σ =>
    if (32 : Int32) ≤ v5 then
      if v4 = 0 then
        f_X6_share_B81 E v3 v4 v0 (1 : Int32) σ
      else
        f_X6_share_B81 E v3 v4 v0 (0 : Int32) σ
    else
      (oGr 7 15 v0 σ).bind fun x11 =>
      (oAl x11 v5 σ).bind fun x12 =>
      (oGr 7 16 v0 σ).bind fun x13 =>
      (oAl x13 v5 σ).bind fun x14 =>
      f_X6_share_L37 E n v0 v3 (v4 + (x12 + x14)) (v5 + 1) σ
def g_X6_share (E : PE) (v0 : Option Nat) (v1 : Int32) (v2 : Int32) (σ : PS) : Option (Int32 × PS) :=
  (oPi 7 17 v0 (0 : Int32) σ).bind fun s1 =>
  (oK 7 v0 s1).bind fun b4 =>
  bd (f_X6_isEntry E v0 v1 s1) fun r2 s3 =>
  if r2 = 0 then
    f_X6_share_B21 E s3
  else
    (oK 7 v0 s3).bind fun b7 =>
    bd (f_X6_isEntry E v0 v2 s3) fun r5 s6 =>
    if r5 = 0 then
      f_X6_share_B21 E s6
    else
      (oK 7 v0 s6).bind fun b10 =>
      bd (f_X6_commonOf E v0 v1 v2 s6) fun r8 s9 =>
      f_X6_share_L37 E E.1 v0 r8 (-r8) (0 : Int32) s9
def f_X6_share (E : PE) (v0 : Option Nat) (v1 : Int32) (v2 : Int32) (σ : PS) : Option (Int32 × PS) := oM E σ (g_X6_share E v0 v1 v2 σ)
theorem mo_X6_share {E : PE} {v0 : Option Nat} {v1 : Int32} {v2 : Int32} {σ τ : PS} {rv : Int32} (h : f_X6_share E v0 v1 v2 σ = some (rv, τ)) : sN σ ≤ sN τ ∧ sS σ ≤ sS τ ∧ sN τ ≤ E.2.1 ∧ sS τ ≤ E.2.2.1 := (oM_of h).2
def f_X6_distance_B26 (E : PE) (w0 : Int32) (σ : PS) : Option (Int32 × PS) :=
  some (w0, σ)
def f_X6_distance_B25 (E : PE) (σ : PS) : Option (Int32 × PS) :=
  f_X6_distance_B26 E (-1 : Int32) σ
def g_X6_distance (E : PE) (v0 : Option Nat) (v1 : Int32) (v2 : Int32) (σ : PS) : Option (Int32 × PS) :=
  (oK 7 v0 σ).bind fun b3 =>
  bd (f_X6_isEntry E v0 v1 σ) fun r1 s2 =>
  if r1 = 0 then
    f_X6_distance_B25 E s2
  else
    (oK 7 v0 s2).bind fun b6 =>
    bd (f_X6_isEntry E v0 v2 s2) fun r4 s5 =>
    if r4 = 0 then
      f_X6_distance_B25 E s5
    else
      (oK 7 v0 s5).bind fun b9 =>
      bd (f_X6_distanceOf E v0 v1 v2 s5) fun r7 s8 =>
      f_X6_distance_B26 E r7 s8
def f_X6_distance (E : PE) (v0 : Option Nat) (v1 : Int32) (v2 : Int32) (σ : PS) : Option (Int32 × PS) := oM E σ (g_X6_distance E v0 v1 v2 σ)
theorem mo_X6_distance {E : PE} {v0 : Option Nat} {v1 : Int32} {v2 : Int32} {σ τ : PS} {rv : Int32} (h : f_X6_distance E v0 v1 v2 σ = some (rv, τ)) : sN σ ≤ sN τ ∧ sS σ ≤ sS τ ∧ sN τ ≤ E.2.1 ∧ sS τ ≤ E.2.2.1 := (oM_of h).2
def f_X6_isSame_B93 (E : PE) (v3 : Int32) (σ : PS) : Option (Int32 × PS) :=
  if v3 = 0 ∨ v3 = 1 then some (v3, σ) else none
def f_X6_isSame_B86 (E : PE) (k39 : Option Nat → Int32 → Int32 → Int32 → Int32 → PS → Option (Int32 × PS)) (v0 : Option Nat) (v1 : Int32) (v2 : Int32) (v4 : Int32) (w0 : Int32) (σ : PS) : Option (Int32 × PS) :=
  k39 v0 v1 v2 w0 (v4 + 1) σ
def f_X6_isSame_L39 (E : PE) : Nat → Option Nat → Int32 → Int32 → Int32 → Int32 → PS → Option (Int32 × PS)
  | 0, _, _, _, _, _, _ => none
  | n + 1, v0, v1, v2, v3, v4, σ =>
    (oGr 7 2 v0 σ).bind fun x9 =>
    (oAl x9 v1 σ).bind fun x10 =>
    if x10 ≤ v4 then
      f_X6_isSame_B93 E v3 σ
    else
      if v3 = 0 then
        f_X6_isSame_B93 E v3 σ
      else
        (oGr 7 3 v0 σ).bind fun x11 =>
        (oAl x11 (((60 : Int32) * v1) + v4) σ).bind fun x12 =>
        (oGr 7 3 v0 σ).bind fun x13 =>
        (oAl x13 (((60 : Int32) * v2) + v4) σ).bind fun x14 =>
        if x12 = x14 then
          f_X6_isSame_B86 E (f_X6_isSame_L39 E n) v0 v1 v2 v4 (1 : Int32) σ
        else
          f_X6_isSame_B86 E (f_X6_isSame_L39 E n) v0 v1 v2 v4 (0 : Int32) σ
def f_X6_isSame_B35 (E : PE) (v0 : Option Nat) (v1 : Int32) (v2 : Int32) (w0 : Int32) (σ : PS) : Option (Int32 × PS) :=
  f_X6_isSame_L39 E E.1 v0 v1 v2 w0 (0 : Int32) σ
def f_X6_isSame_B34 (E : PE) (v0 : Option Nat) (v1 : Int32) (v2 : Int32) (σ : PS) : Option (Int32 × PS) :=
  f_X6_isSame_B35 E v0 v1 v2 (0 : Int32) σ
def g_X6_isSame (E : PE) (v0 : Option Nat) (v1 : Int32) (v2 : Int32) (σ : PS) : Option (Int32 × PS) :=
  (oGr 7 1 v0 σ).bind fun x1 =>
  (oAl x1 v1 σ).bind fun x2 =>
  (oGr 7 1 v0 σ).bind fun x3 =>
  (oAl x3 v2 σ).bind fun x4 =>
  if x2 = x4 then
    (oGr 7 2 v0 σ).bind fun x5 =>
    (oAl x5 v1 σ).bind fun x6 =>
    (oGr 7 2 v0 σ).bind fun x7 =>
    (oAl x7 v2 σ).bind fun x8 =>
    if x6 = x8 then
      f_X6_isSame_B35 E v0 v1 v2 (1 : Int32) σ
    else
      f_X6_isSame_B34 E v0 v1 v2 σ
  else
    f_X6_isSame_B34 E v0 v1 v2 σ
def f_X6_isSame (E : PE) (v0 : Option Nat) (v1 : Int32) (v2 : Int32) (σ : PS) : Option (Int32 × PS) := oM E σ (g_X6_isSame E v0 v1 v2 σ)
theorem mo_X6_isSame {E : PE} {v0 : Option Nat} {v1 : Int32} {v2 : Int32} {σ τ : PS} {rv : Int32} (h : f_X6_isSame E v0 v1 v2 σ = some (rv, τ)) : sN σ ≤ sN τ ∧ sS σ ≤ sS τ ∧ sN τ ≤ E.2.1 ∧ sS τ ≤ E.2.2.1 := (oM_of h).2
def f_X6_chain_B98 (E : PE) (k2 : Option Nat → Int32 → PS → Option (Unit × PS)) (k16 : Option Nat → Int32 → Int32 → Int32 → PS → Option (Unit × PS)) (v0 : Option Nat) (v1 : Int32) (v3 : Int32) (w0 : Int32) (σ : PS) : Option (Unit × PS) :=
  k16 v0 v1 w0 (v3 + 1) σ
def f_X6_chain_B93 (E : PE) (k2 : Option Nat → Int32 → PS → Option (Unit × PS)) (k16 : Option Nat → Int32 → Int32 → Int32 → PS → Option (Unit × PS)) (v0 : Option Nat) (v1 : Int32) (v3 : Int32) (σ : PS) : Option (Unit × PS) :=
  f_X6_chain_B98 E k2 k16 v0 v1 v3 v3 σ
def f_X6_chain_B97 (E : PE) (k2 : Option Nat → Int32 → PS → Option (Unit × PS)) (k16 : Option Nat → Int32 → Int32 → Int32 → PS → Option (Unit × PS)) (v0 : Option Nat) (v1 : Int32) (v2 : Int32) (v3 : Int32) (σ : PS) : Option (Unit × PS) :=
  f_X6_chain_B98 E k2 k16 v0 v1 v3 v2 σ
def f_X6_chain_L16 (E : PE) (k2 : Option Nat → Int32 → PS → Option (Unit × PS)) : Nat → Option Nat → Int32 → Int32 → Int32 → PS → Option (Unit × PS)
  | 0, _, _, _, _, _ => none
  | n + 1, v0, v1, v2, v3, σ =>
    (oGi 7 19 v0 σ).bind fun x2 =>
    if x2 ≤ v3 then
      (oGr 7 18 v0 σ).bind fun x3 =>
      (oAl x3 v2 σ).bind fun x4 =>
      (oGr 7 18 v0 σ).bind fun x5 =>
      (oGr 7 18 v0 σ).bind fun x6 =>
      (oAl x6 v1 σ).bind fun x7 =>
      (oAs x5 v2 x7 σ).bind fun s8 =>
      (oGr 7 18 v0 s8).bind fun x9 =>
      (oAs x9 v1 x4 s8).bind fun s10 =>
      k2 v0 (v1 + 1) s10
    else
      (oGr 7 18 v0 σ).bind fun x11 =>
      (oAl x11 (v1 - (1 : Int32)) σ).bind fun x12 =>
      (oGr 7 18 v0 σ).bind fun x13 =>
      (oAl x13 v3 σ).bind fun x14 =>
      (oK 7 v0 σ).bind fun b17 =>
      bd (f_X6_distanceOf E v0 x12 x14 σ) fun r15 s16 =>
      (oGr 7 18 v0 s16).bind fun x18 =>
      (oAl x18 (v1 - (1 : Int32)) s16).bind fun x19 =>
      (oGr 7 18 v0 s16).bind fun x20 =>
      (oAl x20 v2 s16).bind fun x21 =>
      (oK 7 v0 s16).bind fun b24 =>
      bd (f_X6_distanceOf E v0 x19 x21 s16) fun r22 s23 =>
      if r15 < r22 then
        f_X6_chain_B93 E k2 (f_X6_chain_L16 E k2 n) v0 v1 v3 s23
      else
        if r15 = r22 then
          (oGr 7 18 v0 s23).bind fun x25 =>
          (oAl x25 v3 s23).bind fun x26 =>
          (oGr 7 18 v0 s23).bind fun x27 =>
          (oAl x27 v2 s23).bind fun x28 =>
          if x28 ≤ x26 then
            f_X6_chain_B97 E k2 (f_X6_chain_L16 E k2 n) v0 v1 v2 v3 s23
          else
            f_X6_chain_B93 E k2 (f_X6_chain_L16 E k2 n) v0 v1 v3 s23
        else
          f_X6_chain_B97 E k2 (f_X6_chain_L16 E k2 n) v0 v1 v2 v3 s23
def f_X6_chain_L2 (E : PE) : Nat → Option Nat → Int32 → PS → Option (Unit × PS)
  | 0, _, _, _ => none
  | n + 1, v0, v1, σ =>
    (oGi 7 19 v0 σ).bind fun x1 =>
    if x1 ≤ v1 then
      some ((), σ)
    else
      f_X6_chain_L16 E (f_X6_chain_L2 E n) E.1 v0 v1 v1 (v1 + (1 : Int32)) σ
def g_X6_chain (E : PE) (v0 : Option Nat) (σ : PS) : Option (Unit × PS) :=
  f_X6_chain_L2 E E.1 v0 (1 : Int32) σ
def f_X6_chain (E : PE) (v0 : Option Nat) (σ : PS) : Option (Unit × PS) := oM E σ (g_X6_chain E v0 σ)
theorem mo_X6_chain {E : PE} {v0 : Option Nat} {σ τ : PS} {rv : Unit} (h : f_X6_chain E v0 σ = some (rv, τ)) : sN σ ≤ sN τ ∧ sS σ ≤ sS τ ∧ sN τ ≤ E.2.1 ∧ sS τ ≤ E.2.2.1 := (oM_of h).2
def f_X6_rowSum_L4 (E : PE) : Nat → Option Nat → Int32 → Int32 → PS → Option (Int32 × PS)
  | 0, _, _, _, _ => none
  | n + 1, v0, v1, v2, σ =>
    (oGi 7 19 v0 σ).bind fun x1 =>
    if x1 ≤ v2 then
      some (v1, σ)
    else
      (oGr 7 18 v0 σ).bind fun x2 =>
      (oAl x2 (v2 - (1 : Int32)) σ).bind fun x3 =>
      (oGr 7 18 v0 σ).bind fun x4 =>
      (oAl x4 v2 σ).bind fun x5 =>
      (oK 7 v0 σ).bind fun b8 =>
      bd (f_X6_distanceOf E v0 x3 x5 σ) fun r6 s7 =>
      f_X6_rowSum_L4 E n v0 (v1 + r6) (v2 + 1) s7
def g_X6_rowSum (E : PE) (v0 : Option Nat) (σ : PS) : Option (Int32 × PS) :=
  f_X6_rowSum_L4 E E.1 v0 (0 : Int32) (1 : Int32) σ
def f_X6_rowSum (E : PE) (v0 : Option Nat) (σ : PS) : Option (Int32 × PS) := oM E σ (g_X6_rowSum E v0 σ)
theorem mo_X6_rowSum {E : PE} {v0 : Option Nat} {σ τ : PS} {rv : Int32} (h : f_X6_rowSum E v0 σ = some (rv, τ)) : sN σ ≤ sN τ ∧ sS σ ≤ sS τ ∧ sN τ ≤ E.2.1 ∧ sS τ ≤ E.2.2.1 := (oM_of h).2
def f_X6_next_L107 (E : PE) : Nat → Option Nat → Int32 → Int32 → PS → Option (Int32 × PS)
  | 0, _, _, _, _ => none
  | n + 1, v0, v4, v5, σ =>
    if v5 ≤ v4 then
      some ((1 : Int32), σ)
    else
      (oGr 7 18 v0 σ).bind fun x20 =>
      (oAl x20 v4 σ).bind fun x21 =>
      (oGr 7 18 v0 σ).bind fun x22 =>
      (oGr 7 18 v0 σ).bind fun x23 =>
      (oAl x23 v5 σ).bind fun x24 =>
      (oAs x22 v4 x24 σ).bind fun s25 =>
      (oGr 7 18 v0 s25).bind fun x26 =>
      (oAs x26 v5 x21 s25).bind fun s27 =>
      f_X6_next_L107 E n v0 (v4 + 1) (v5 + (-1)) s27
def f_X6_next_L47 (E : PE) : Nat → Option Nat → Int32 → Int32 → PS → Option (Int32 × PS)
  | 0, _, _, _, _ => none
  | n + 1, v0, v1, v2, σ =>
    (oGr 7 18 v0 σ).bind fun x7 =>
    (oAl x7 v2 σ).bind fun x8 =>
    (oGr 7 18 v0 σ).bind fun x9 =>
    (oAl x9 v1 σ).bind fun x10 =>
    if x10 ≤ x8 then
      (oGr 7 18 v0 σ).bind fun x11 =>
      (oAl x11 v1 σ).bind fun x12 =>
      (oGr 7 18 v0 σ).bind fun x13 =>
      (oGr 7 18 v0 σ).bind fun x14 =>
      (oAl x14 v2 σ).bind fun x15 =>
      (oAs x13 v1 x15 σ).bind fun s16 =>
      (oGr 7 18 v0 s16).bind fun x17 =>
      (oAs x17 v2 x12 s16).bind fun s18 =>
      (oGi 7 19 v0 s18).bind fun x19 =>
      f_X6_next_L107 E E.1 v0 (v1 + (1 : Int32)) (x19 - (1 : Int32)) s18
    else
      f_X6_next_L47 E n v0 v1 (v2 + (-1)) σ
def f_X6_next_B34 (E : PE) (v0 : Option Nat) (v1 : Int32) (σ : PS) : Option (Int32 × PS) :=
  if 0 ≤ v1 then
    (oGi 7 19 v0 σ).bind fun x6 =>
    f_X6_next_L47 E E.1 v0 v1 (x6 - (1 : Int32)) σ
  else
    some ((0 : Int32), σ)
def f_X6_next_L7 (E : PE) : Nat → Option Nat → Int32 → PS → Option (Int32 × PS)
  | 0, _, _, _ => none
  | n + 1, v0, v1, σ =>
    if v1 < 0 then
      f_X6_next_B34 E v0 v1 σ
    else
      (oGr 7 18 v0 σ).bind fun x2 =>
      (oAl x2 v1 σ).bind fun x3 =>
      (oGr 7 18 v0 σ).bind fun x4 =>
      (oAl x4 (v1 + (1 : Int32)) σ).bind fun x5 =>
      if x3 ≤ x5 then
        f_X6_next_B34 E v0 v1 σ
      else
        f_X6_next_L7 E n v0 (v1 + (-1)) σ
def g_X6_next (E : PE) (v0 : Option Nat) (σ : PS) : Option (Int32 × PS) :=
  (oGi 7 19 v0 σ).bind fun x1 =>
  f_X6_next_L7 E E.1 v0 (x1 - (2 : Int32)) σ
def f_X6_next (E : PE) (v0 : Option Nat) (σ : PS) : Option (Int32 × PS) := oM E σ (g_X6_next E v0 σ)
theorem mo_X6_next {E : PE} {v0 : Option Nat} {σ τ : PS} {rv : Int32} (h : f_X6_next E v0 σ = some (rv, τ)) : sN σ ≤ sN τ ∧ sS σ ≤ sS τ ∧ sN τ ≤ E.2.1 ∧ sS τ ≤ E.2.2.1 := (oM_of h).2
def f_X6_bestOfAll_L66 (E : PE) : Nat → Option Nat → Int32 → PS → Option (Unit × PS)
  | 0, _, _, _ => none
  | n + 1, v0, v3, σ =>
    (oGi 7 19 v0 σ).bind fun x4 =>
    if x4 ≤ v3 then
      some ((), σ)
    else
      (oGr 7 18 v0 σ).bind fun x5 =>
      (oGr 7 20 v0 σ).bind fun x6 =>
      (oAl x6 v3 σ).bind fun x7 =>
      (oAs x5 v3 x7 σ).bind fun s8 =>
      f_X6_bestOfAll_L66 E n v0 (v3 + 1) s8
def f_X6_bestOfAll_B56 (E : PE) (k4 : Option Nat → Int32 → Int32 → PS → Option (Unit × PS)) (v0 : Option Nat) (v1 : Int32) (σ : PS) : Option (Unit × PS) :=
  (oK 7 v0 σ).bind fun b16 =>
  bd (f_X6_next E v0 σ) fun r14 s15 =>
  k4 v0 v1 r14 s15
def f_X6_bestOfAll_L27 (E : PE) (k4 : Option Nat → Int32 → Int32 → PS → Option (Unit × PS)) : Nat → Option Nat → Int32 → Int32 → PS → Option (Unit × PS)
  | 0, _, _, _, _ => none
  | n + 1, v0, v1, v4, σ =>
    (oGi 7 19 v0 σ).bind fun x9 =>
    if x9 ≤ v4 then
      f_X6_bestOfAll_B56 E k4 v0 v1 σ
    else
      (oGr 7 20 v0 σ).bind fun x10 =>
      (oGr 7 18 v0 σ).bind fun x11 =>
      (oAl x11 v4 σ).bind fun x12 =>
      (oAs x10 v4 x12 σ).bind fun s13 =>
      f_X6_bestOfAll_L27 E k4 n v0 v1 (v4 + 1) s13
def f_X6_bestOfAll_B22 (E : PE) (k4 : Option Nat → Int32 → Int32 → PS → Option (Unit × PS)) (v0 : Option Nat) (v3 : Int32) (σ : PS) : Option (Unit × PS) :=
  f_X6_bestOfAll_L27 E k4 E.1 v0 v3 (0 : Int32) σ
def f_X6_bestOfAll_L4 (E : PE) : Nat → Option Nat → Int32 → Int32 → PS → Option (Unit × PS)
  | 0, _, _, _, _ => none
  | n + 1, v0, v1, v2, σ =>
    if v2 = 0 then
      f_X6_bestOfAll_L66 E E.1 v0 (0 : Int32) σ
    else
      (oK 7 v0 σ).bind fun b3 =>
      bd (f_X6_rowSum E v0 σ) fun r1 s2 =>
      if v1 < 0 then
        f_X6_bestOfAll_B22 E (f_X6_bestOfAll_L4 E n) v0 r1 s2
      else
        if v1 ≤ r1 then
          f_X6_bestOfAll_B56 E (f_X6_bestOfAll_L4 E n) v0 v1 s2
        else
          f_X6_bestOfAll_B22 E (f_X6_bestOfAll_L4 E n) v0 r1 s2
def g_X6_bestOfAll (E : PE) (v0 : Option Nat) (σ : PS) : Option (Unit × PS) :=
  f_X6_bestOfAll_L4 E E.1 v0 (-1 : Int32) (1 : Int32) σ
def f_X6_bestOfAll (E : PE) (v0 : Option Nat) (σ : PS) : Option (Unit × PS) := oM E σ (g_X6_bestOfAll E v0 σ)
theorem mo_X6_bestOfAll {E : PE} {v0 : Option Nat} {σ τ : PS} {rv : Unit} (h : f_X6_bestOfAll E v0 σ = some (rv, τ)) : sN σ ≤ sN τ ∧ sS σ ≤ sS τ ∧ sN τ ≤ E.2.1 ∧ sS τ ≤ E.2.2.1 := (oM_of h).2
def f_X6_groupBytes_B38 (E : PE) (k4 : Option Nat → Int32 → Int32 → Int32 → PS → Option (Int32 × PS)) (v0 : Option Nat) (v1 : Int32) (v3 : Int32) (w0 : Int32) (w1 : Int32) (σ : PS) : Option (Int32 × PS) :=
  k4 v0 v1 (w0 + w1) (v3 + 1) σ
def f_X6_groupBytes_L4 (E : PE) : Nat → Option Nat → Int32 → Int32 → Int32 → PS → Option (Int32 × PS)
  | 0, _, _, _, _, _ => none
  | n + 1, v0, v1, v2, v3, σ =>
    (oGi 7 9 v0 σ).bind fun x1 =>
    if x1 ≤ v3 then
      some (v2, σ)
    else
      (oGr 7 8 v0 σ).bind fun x2 =>
      (oAl x2 v3 σ).bind fun x3 =>
      if x3 = v1 then
        (oGr 7 2 v0 σ).bind fun x4 =>
        (oGr 7 7 v0 σ).bind fun x5 =>
        (oAl x5 v3 σ).bind fun x6 =>
        (oAl x4 x6 σ).bind fun x7 =>
        f_X6_groupBytes_B38 E (f_X6_groupBytes_L4 E n) v0 v1 v3 v2 x7 σ
      else
        f_X6_groupBytes_B38 E (f_X6_groupBytes_L4 E n) v0 v1 v3 v2 (0 : Int32) σ
def g_X6_groupBytes (E : PE) (v0 : Option Nat) (v1 : Int32) (σ : PS) : Option (Int32 × PS) :=
  f_X6_groupBytes_L4 E E.1 v0 v1 (0 : Int32) (0 : Int32) σ
def f_X6_groupBytes (E : PE) (v0 : Option Nat) (v1 : Int32) (σ : PS) : Option (Int32 × PS) := oM E σ (g_X6_groupBytes E v0 v1 σ)
theorem mo_X6_groupBytes {E : PE} {v0 : Option Nat} {v1 : Int32} {σ τ : PS} {rv : Int32} (h : f_X6_groupBytes E v0 v1 σ = some (rv, τ)) : sN σ ≤ sN τ ∧ sS σ ≤ sS τ ∧ sN τ ≤ E.2.1 ∧ sS τ ≤ E.2.2.1 := (oM_of h).2
def f_X6_gathers_B83 (E : PE) (k7 : Option Nat → Int32 → Int32 → PS → Option (Unit × PS)) (v0 : Option Nat) (v1 : Int32) (v2 : Int32) (σ : PS) : Option (Unit × PS) :=
  k7 v0 v1 (v2 + 1) σ
def f_X6_gathers_L17 (E : PE) (k7 : Option Nat → Int32 → Int32 → PS → Option (Unit × PS)) : Nat → Option Nat → Int32 → Int32 → Int32 → PS → Option (Unit × PS)
  | 0, _, _, _, _, _ => none
  | n + 1, v0, v1, v2, v3, σ =>
    (oGr 7 8 v0 σ).bind fun x3 =>
    (oAl x3 v2 σ).bind fun x4 =>
    if x4 = v1 then
      (oGr 7 2 v0 σ).bind fun x5 =>
      (oGr 7 7 v0 σ).bind fun x6 =>
      (oAl x6 v2 σ).bind fun x7 =>
      (oAl x5 x7 σ).bind fun x8 =>
      if x8 ≤ v3 then
        f_X6_gathers_B83 E k7 v0 v1 v2 σ
      else
        (oGr 7 21 v0 σ).bind fun x9 =>
        (oGi 7 22 v0 σ).bind fun x10 =>
        (oGr 7 3 v0 σ).bind fun x11 =>
        (oGr 7 7 v0 σ).bind fun x12 =>
        (oAl x12 v2 σ).bind fun x13 =>
        (oAl x11 (((60 : Int32) * x13) + v3) σ).bind fun x14 =>
        (oAs x9 x10 x14 σ).bind fun s15 =>
        (oGi 7 22 v0 s15).bind fun x16 =>
        (oPi 7 22 v0 (x16 + (1 : Int32)) s15).bind fun s17 =>
        f_X6_gathers_L17 E k7 n v0 v1 v2 (v3 + 1) s17
    else
      f_X6_gathers_B83 E k7 v0 v1 v2 σ
def f_X6_gathers_L7 (E : PE) : Nat → Option Nat → Int32 → Int32 → PS → Option (Unit × PS)
  | 0, _, _, _, _ => none
  | n + 1, v0, v1, v2, σ =>
    (oGi 7 9 v0 σ).bind fun x2 =>
    if x2 ≤ v2 then
      some ((), σ)
    else
      f_X6_gathers_L17 E (f_X6_gathers_L7 E n) E.1 v0 v1 v2 (0 : Int32) σ
def g_X6_gathers (E : PE) (v0 : Option Nat) (v1 : Int32) (σ : PS) : Option (Unit × PS) :=
  (oPi 7 22 v0 (0 : Int32) σ).bind fun s1 =>
  f_X6_gathers_L7 E E.1 v0 v1 (0 : Int32) s1
def f_X6_gathers (E : PE) (v0 : Option Nat) (v1 : Int32) (σ : PS) : Option (Unit × PS) := oM E σ (g_X6_gathers E v0 v1 σ)
theorem mo_X6_gathers {E : PE} {v0 : Option Nat} {v1 : Int32} {σ τ : PS} {rv : Unit} (h : f_X6_gathers E v0 v1 σ = some (rv, τ)) : sN σ ≤ sN τ ∧ sS σ ≤ sS τ ∧ sN τ ≤ E.2.1 ∧ sS τ ≤ E.2.2.1 := (oM_of h).2
def f_X6_makes_B168 (E : PE) (k9 : Option Nat → Int32 → Int32 → Int32 → PS → Option (Unit × PS)) (v0 : Option Nat) (v1 : Int32) (v2 : Int32) (v3 : Int32) (v6 : Int32) (w0 : Option Nat) (w1 : Int32) (w2 : Int32) (σ : PS) : Option (Unit × PS) :=
  (oAs w0 w1 w2 σ).bind fun s14 =>
  (oGr 7 14 v0 s14).bind fun x15 =>
  (oAl x15 (v6 + (2 : Int32)) s14).bind fun x16 =>
  k9 v0 v1 (v2 + 1) (v3 + x16) s14
def f_X6_makes_B137 (E : PE) (k9 : Option Nat → Int32 → Int32 → Int32 → PS → Option (Unit × PS)) (v0 : Option Nat) (v1 : Int32) (v2 : Int32) (v3 : Int32) (v4 : Int32) (v5 : Int32) (v6 : Int32) (w0 : Option Nat) (w1 : Int32) (w2 : Int32) (σ : PS) : Option (Unit × PS) :=
  (oAs w0 w1 w2 σ).bind fun s10 =>
  (oGr 7 14 v0 s10).bind fun x11 =>
  (oAs x11 (v6 + (1 : Int32)) v4 s10).bind fun s12 =>
  (oGr 7 14 v0 s12).bind fun x13 =>
  if v4 ≤ 0 then
    f_X6_makes_B168 E k9 v0 v1 v2 v3 v6 x13 (v6 + (2 : Int32)) (1 : Int32) s12
  else
    f_X6_makes_B168 E k9 v0 v1 v2 v3 v6 x13 (v6 + (2 : Int32)) v5 s12
def f_X6_makes_B99 (E : PE) (k9 : Option Nat → Int32 → Int32 → Int32 → PS → Option (Unit × PS)) (k28 : Option Nat → Int32 → Int32 → Int32 → Int32 → Int32 → Int32 → PS → Option (Unit × PS)) (v0 : Option Nat) (v1 : Int32) (v2 : Int32) (v3 : Int32) (v4 : Int32) (v5 : Int32) (v6 : Int32) (σ : PS) : Option (Unit × PS) :=
  k28 v0 v1 v2 v3 v4 v5 (v6 + (-1)) σ
def f_X6_makes_B82 (E : PE) (k9 : Option Nat → Int32 → Int32 → Int32 → PS → Option (Unit × PS)) (k28 : Option Nat → Int32 → Int32 → Int32 → Int32 → Int32 → Int32 → PS → Option (Unit × PS)) (v0 : Option Nat) (v1 : Int32) (v2 : Int32) (v3 : Int32) (v4 : Int32) (v5 : Int32) (v6 : Int32) (v7 : Int32) (σ : PS) : Option (Unit × PS) :=
  if v7 ≤ v5 then
    f_X6_makes_B99 E k9 k28 v0 v1 v2 v3 v4 v5 v6 σ
  else
    f_X6_makes_B99 E k9 k28 v0 v1 v2 v3 (v3 - v6) v7 v6 σ
def f_X6_makes_L36 (E : PE) (k9 : Option Nat → Int32 → Int32 → Int32 → PS → Option (Unit × PS)) (k28 : Option Nat → Int32 → Int32 → Int32 → Int32 → Int32 → Int32 → PS → Option (Unit × PS)) : Nat → Option Nat → Int32 → Int32 → Int32 → Int32 → Int32 → Int32 → Int32 → PS → Option (Unit × PS)
  | 0, _, _, _, _, _, _, _, _, _ => none
  | n + 1, v0, v1, v2, v3, v4, v5, v6, v7, σ =>
    if (60 : Int32) ≤ v7 then
      f_X6_makes_B82 E k9 k28 v0 v1 v2 v3 v4 v5 v6 v7 σ
    else
      (oGi 7 22 v0 σ).bind fun x17 =>
      if x17 ≤ v3 + v7 then
        f_X6_makes_B82 E k9 k28 v0 v1 v2 v3 v4 v5 v6 v7 σ
      else
        (oGr 7 21 v0 σ).bind fun x18 =>
        (oAl x18 (v6 + v7) σ).bind fun x19 =>
        (oGr 7 21 v0 σ).bind fun x20 =>
        (oAl x20 (v3 + v7) σ).bind fun x21 =>
        if x19 = x21 then
          f_X6_makes_L36 E k9 k28 n v0 v1 v2 v3 v4 v5 v6 (v7 + 1) σ
        else
          f_X6_makes_B82 E k9 k28 v0 v1 v2 v3 v4 v5 v6 v7 σ
def f_X6_makes_L28 (E : PE) (k9 : Option Nat → Int32 → Int32 → Int32 → PS → Option (Unit × PS)) : Nat → Option Nat → Int32 → Int32 → Int32 → Int32 → Int32 → Int32 → PS → Option (Unit × PS)
  | 0, _, _, _, _, _, _, _, _ => none
  | n + 1, v0, v1, v2, v3, v4, v5, v6, σ =>
    if v6 < 0 then
      (oGr 7 14 v0 σ).bind fun x7 =>
      if v4 ≤ 0 then
        (oGr 7 21 v0 σ).bind fun x8 =>
        (oAl x8 v3 σ).bind fun x9 =>
        f_X6_makes_B137 E k9 v0 v1 v2 v3 v4 v5 (((5400 : Int32) * v1) + ((3 : Int32) * v2)) x7 (((5400 : Int32) * v1) + ((3 : Int32) * v2)) x9 σ
      else
        f_X6_makes_B137 E k9 v0 v1 v2 v3 v4 v5 (((5400 : Int32) * v1) + ((3 : Int32) * v2)) x7 (((5400 : Int32) * v1) + ((3 : Int32) * v2)) (-1 : Int32) σ
    else
      f_X6_makes_L36 E k9 (f_X6_makes_L28 E k9 n) E.1 v0 v1 v2 v3 v4 v5 v6 (0 : Int32) σ
def f_X6_makes_L9 (E : PE) : Nat → Option Nat → Int32 → Int32 → Int32 → PS → Option (Unit × PS)
  | 0, _, _, _, _, _ => none
  | n + 1, v0, v1, v2, v3, σ =>
    (oGi 7 22 v0 σ).bind fun x4 =>
    if x4 ≤ v3 then
      (oGr 7 13 v0 σ).bind fun x5 =>
      (oAs x5 v1 v2 σ).bind fun s6 =>
      some ((), s6)
    else
      f_X6_makes_L28 E (f_X6_makes_L9 E n) E.1 v0 v1 v2 v3 (0 : Int32) (3 : Int32) (v3 - (1 : Int32)) σ
def g_X6_makes (E : PE) (v0 : Option Nat) (v1 : Int32) (σ : PS) : Option (Unit × PS) :=
  (oK 7 v0 σ).bind fun b3 =>
  bd (f_X6_gathers E v0 v1 σ) fun _ s2 =>
  f_X6_makes_L9 E E.1 v0 v1 (0 : Int32) (0 : Int32) s2
def f_X6_makes (E : PE) (v0 : Option Nat) (v1 : Int32) (σ : PS) : Option (Unit × PS) := oM E σ (g_X6_makes E v0 v1 σ)
theorem mo_X6_makes {E : PE} {v0 : Option Nat} {v1 : Int32} {σ τ : PS} {rv : Unit} (h : f_X6_makes E v0 v1 σ = some (rv, τ)) : sN σ ≤ sN τ ∧ sS σ ≤ sS τ ∧ sN τ ≤ E.2.1 ∧ sS τ ≤ E.2.2.1 := (oM_of h).2
def f_X6_pack_B20 (E : PE) (σ : PS) : Option (Int32 × PS) :=
  some ((-1 : Int32), σ)
def f_X6_pack_L339 (E : PE) : Nat → Option Nat → Int32 → PS → Option (Int32 × PS)
  | 0, _, _, _ => none
  | n + 1, v0, v3, σ =>
    (oGi 7 10 v0 σ).bind fun x11 =>
    if x11 ≤ v3 then
      (oGi 7 10 v0 σ).bind fun x12 =>
      some (x12, σ)
    else
      (oK 7 v0 σ).bind fun b15 =>
      bd (f_X6_makes E v0 v3 σ) fun _ s14 =>
      f_X6_pack_L339 E n v0 (v3 + 1) s14
def f_X6_pack_B284 (E : PE) (k87 : Option Nat → Int32 → Int32 → Int32 → PS → Option (Int32 × PS)) (k196 : Option Nat → Int32 → Int32 → Int32 → Int32 → PS → Option (Int32 × PS)) (v0 : Option Nat) (v1 : Int32) (v2 : Int32) (v3 : Int32) (v4 : Int32) (σ : PS) : Option (Int32 × PS) :=
  (oGr 7 7 v0 σ).bind fun x56 =>
  (oGi 7 9 v0 σ).bind fun x57 =>
  (oGr 7 18 v0 σ).bind fun x58 =>
  (oAl x58 v4 σ).bind fun x59 =>
  (oAs x56 x57 x59 σ).bind fun s60 =>
  (oGr 7 8 v0 s60).bind fun x61 =>
  (oGi 7 9 v0 s60).bind fun x62 =>
  (oGi 7 10 v0 s60).bind fun x63 =>
  (oAs x61 x62 (x63 - (1 : Int32)) s60).bind fun s64 =>
  (oGi 7 9 v0 s64).bind fun x65 =>
  (oPi 7 9 v0 (x65 + (1 : Int32)) s64).bind fun s66 =>
  k196 v0 v1 v2 v3 (v4 + 1) s66
def f_X6_pack_B254 (E : PE) (k87 : Option Nat → Int32 → Int32 → Int32 → PS → Option (Int32 × PS)) (k196 : Option Nat → Int32 → Int32 → Int32 → Int32 → PS → Option (Int32 × PS)) (v0 : Option Nat) (v1 : Int32) (v2 : Int32) (v3 : Int32) (v4 : Int32) (σ : PS) : Option (Int32 × PS) :=
  (oGr 7 11 v0 σ).bind fun x48 =>
  (oGi 7 10 v0 σ).bind fun x49 =>
  (oAs x48 x49 v3 σ).bind fun s50 =>
  (oGr 7 12 v0 s50).bind fun x51 =>
  (oGi 7 10 v0 s50).bind fun x52 =>
  (oAs x51 x52 (0 : Int32) s50).bind fun s53 =>
  (oGi 7 10 v0 s53).bind fun x54 =>
  (oPi 7 10 v0 (x54 + (1 : Int32)) s53).bind fun s55 =>
  f_X6_pack_B284 E k87 k196 v0 v1 v2 v3 v4 s55
def f_X6_pack_L196 (E : PE) (k87 : Option Nat → Int32 → Int32 → Int32 → PS → Option (Int32 × PS)) : Nat → Option Nat → Int32 → Int32 → Int32 → Int32 → PS → Option (Int32 × PS)
  | 0, _, _, _, _, _, _ => none
  | n + 1, v0, v1, v2, v3, v4, σ =>
    (oGi 7 19 v0 σ).bind fun x35 =>
    if x35 ≤ v4 then
      k87 v0 v1 v2 (v3 + 1) σ
    else
      (oGi 7 10 v0 σ).bind fun x36 =>
      if x36 = 0 then
        f_X6_pack_B254 E k87 (f_X6_pack_L196 E k87 n) v0 v1 v2 v3 v4 σ
      else
        (oGr 7 11 v0 σ).bind fun x37 =>
        (oGi 7 10 v0 σ).bind fun x38 =>
        (oAl x37 (x38 - (1 : Int32)) σ).bind fun x39 =>
        if x39 = v3 then
          (oGi 7 10 v0 σ).bind fun x40 =>
          (oK 7 v0 σ).bind fun b43 =>
          bd (f_X6_groupBytes E v0 (x40 - (1 : Int32)) σ) fun r41 s42 =>
          (oGr 7 2 v0 s42).bind fun x44 =>
          (oGr 7 18 v0 s42).bind fun x45 =>
          (oAl x45 v4 s42).bind fun x46 =>
          (oAl x44 x46 s42).bind fun x47 =>
          if r41 + x47 ≤ v1 then
            f_X6_pack_B284 E k87 (f_X6_pack_L196 E k87 n) v0 v1 v2 v3 v4 s42
          else
            f_X6_pack_B254 E k87 (f_X6_pack_L196 E k87 n) v0 v1 v2 v3 v4 s42
        else
          f_X6_pack_B254 E k87 (f_X6_pack_L196 E k87 n) v0 v1 v2 v3 v4 σ
def f_X6_pack_B193 (E : PE) (k87 : Option Nat → Int32 → Int32 → Int32 → PS → Option (Int32 × PS)) (v0 : Option Nat) (v1 : Int32) (v2 : Int32) (v3 : Int32) (σ : PS) : Option (Int32 × PS) :=
  f_X6_pack_L196 E k87 E.1 v0 v1 v2 v3 (0 : Int32) σ
def f_X6_pack_B185 (E : PE) (k87 : Option Nat → Int32 → Int32 → Int32 → PS → Option (Int32 × PS)) (v0 : Option Nat) (v1 : Int32) (v2 : Int32) (v3 : Int32) (σ : PS) : Option (Int32 × PS) :=
  if v2 ≤ 0 then
    f_X6_pack_B193 E k87 v0 v1 v2 v3 σ
  else
    (oK 7 v0 σ).bind fun b34 =>
    bd (f_X6_chain E v0 σ) fun _ s33 =>
    f_X6_pack_B193 E k87 v0 v1 v2 v3 s33
def f_X6_pack_B154 (E : PE) (k87 : Option Nat → Int32 → Int32 → Int32 → PS → Option (Int32 × PS)) (k101 : Option Nat → Int32 → Int32 → Int32 → Int32 → PS → Option (Int32 × PS)) (v0 : Option Nat) (v1 : Int32) (v2 : Int32) (v3 : Int32) (v4 : Int32) (σ : PS) : Option (Int32 × PS) :=
  k101 v0 v1 v2 v3 (v4 + 1) σ
def f_X6_pack_L101 (E : PE) (k87 : Option Nat → Int32 → Int32 → Int32 → PS → Option (Int32 × PS)) : Nat → Option Nat → Int32 → Int32 → Int32 → Int32 → PS → Option (Int32 × PS)
  | 0, _, _, _, _, _, _ => none
  | n + 1, v0, v1, v2, v3, v4, σ =>
    (oGi 7 0 v0 σ).bind fun x16 =>
    if x16 ≤ v4 then
      if v2 = (2 : Int32) then
        (oGi 7 19 v0 σ).bind fun x17 =>
        bd (f_X6_isIn E x17 (1 : Int32) (7 : Int32) σ) fun r18 s19 =>
        if r18 = 0 then
          f_X6_pack_B185 E k87 v0 v1 v2 v3 s19
        else
          (oK 7 v0 s19).bind fun b22 =>
          bd (f_X6_bestOfAll E v0 s19) fun _ s21 =>
          f_X6_pack_B193 E k87 v0 v1 v2 v3 s21
      else
        f_X6_pack_B185 E k87 v0 v1 v2 v3 σ
    else
      (oGr 7 1 v0 σ).bind fun x23 =>
      (oAl x23 v4 σ).bind fun x24 =>
      if x24 = v3 then
        (oGr 7 6 v0 σ).bind fun x25 =>
        (oAl x25 v4 σ).bind fun x26 =>
        if x26 = v4 then
          (oGr 7 18 v0 σ).bind fun x27 =>
          (oGi 7 19 v0 σ).bind fun x28 =>
          (oAs x27 x28 v4 σ).bind fun s29 =>
          (oGi 7 19 v0 s29).bind fun x30 =>
          (oPi 7 19 v0 (x30 + (1 : Int32)) s29).bind fun s31 =>
          f_X6_pack_B154 E k87 (f_X6_pack_L101 E k87 n) v0 v1 v2 v3 v4 s31
        else
          f_X6_pack_B154 E k87 (f_X6_pack_L101 E k87 n) v0 v1 v2 v3 v4 σ
      else
        f_X6_pack_B154 E k87 (f_X6_pack_L101 E k87 n) v0 v1 v2 v3 v4 σ
def f_X6_pack_L87 (E : PE) : Nat → Option Nat → Int32 → Int32 → Int32 → PS → Option (Int32 × PS)
  | 0, _, _, _, _, _ => none
  | n + 1, v0, v1, v2, v3, σ =>
    if (6 : Int32) ≤ v3 then
      f_X6_pack_L339 E E.1 v0 (0 : Int32) σ
    else
      (oPi 7 19 v0 (0 : Int32) σ).bind fun s10 =>
      f_X6_pack_L101 E (f_X6_pack_L87 E n) E.1 v0 v1 v2 v3 (0 : Int32) s10
def f_X6_pack_L55 (E : PE) (k44 : Option Nat → Int32 → Int32 → Int32 → PS → Option (Int32 × PS)) : Nat → Option Nat → Int32 → Int32 → Int32 → Int32 → PS → Option (Int32 × PS)
  | 0, _, _, _, _, _, _ => none
  | n + 1, v0, v1, v2, v3, v4, σ =>
    (oK 7 v0 σ).bind fun b69 =>
    bd (f_X6_isSame E v0 v4 v3 σ) fun r67 s68 =>
    if r67 = 0 then
      f_X6_pack_L55 E k44 n v0 v1 v2 v3 (v4 + 1) s68
    else
      (oGr 7 6 v0 s68).bind fun x70 =>
      (oAs x70 v3 v4 s68).bind fun s71 =>
      k44 v0 v1 v2 (v3 + 1) s71
def f_X6_pack_L44 (E : PE) : Nat → Option Nat → Int32 → Int32 → Int32 → PS → Option (Int32 × PS)
  | 0, _, _, _, _, _ => none
  | n + 1, v0, v1, v2, v3, σ =>
    (oGi 7 0 v0 σ).bind fun x9 =>
    if x9 ≤ v3 then
      f_X6_pack_L87 E E.1 v0 v1 v2 (0 : Int32) σ
    else
      f_X6_pack_L55 E (f_X6_pack_L44 E n) E.1 v0 v1 v2 v3 (0 : Int32) σ
def g_X6_pack (E : PE) (v0 : Option Nat) (v1 : Int32) (v2 : Int32) (σ : PS) : Option (Int32 × PS) :=
  bd (f_X6_isIn E v1 (1 : Int32) (400 : Int32) σ) fun r1 s2 =>
  if r1 = 0 then
    f_X6_pack_B20 E s2
  else
    bd (f_X6_isIn E v2 (0 : Int32) (2 : Int32) s2) fun r3 s4 =>
    if r3 = 0 then
      f_X6_pack_B20 E s4
    else
      (oPi 7 4 v0 (1 : Int32) s4).bind fun s5 =>
      (oPi 7 5 v0 v1 s5).bind fun s6 =>
      (oPi 7 9 v0 (0 : Int32) s6).bind fun s7 =>
      (oPi 7 10 v0 (0 : Int32) s7).bind fun s8 =>
      f_X6_pack_L44 E E.1 v0 v1 v2 (0 : Int32) s8
def f_X6_pack (E : PE) (v0 : Option Nat) (v1 : Int32) (v2 : Int32) (σ : PS) : Option (Int32 × PS) := oM E σ (g_X6_pack E v0 v1 v2 σ)
theorem mo_X6_pack {E : PE} {v0 : Option Nat} {v1 : Int32} {v2 : Int32} {σ τ : PS} {rv : Int32} (h : f_X6_pack E v0 v1 v2 σ = some (rv, τ)) : sN σ ≤ sN τ ∧ sS σ ≤ sS τ ∧ sN τ ≤ E.2.1 ∧ sS τ ≤ E.2.2.1 := (oM_of h).2
def f_X6_placeInOrder_L2 (E : PE) : Nat → Option Nat → Int32 → Int32 → PS → Option (Int32 × PS)
  | 0, _, _, _, _ => none
  | n + 1, v0, v1, v2, σ =>
    (oGi 7 9 v0 σ).bind fun x1 =>
    if x1 ≤ v2 then
      some ((-2 : Int32), σ)
    else
      (oGr 7 7 v0 σ).bind fun x2 =>
      (oAl x2 v2 σ).bind fun x3 =>
      if x3 = v1 then
        some (v2, σ)
      else
        f_X6_placeInOrder_L2 E n v0 v1 (v2 + 1) σ
def g_X6_placeInOrder (E : PE) (v0 : Option Nat) (v1 : Int32) (σ : PS) : Option (Int32 × PS) :=
  f_X6_placeInOrder_L2 E E.1 v0 v1 (0 : Int32) σ
def f_X6_placeInOrder (E : PE) (v0 : Option Nat) (v1 : Int32) (σ : PS) : Option (Int32 × PS) := oM E σ (g_X6_placeInOrder E v0 v1 σ)
theorem mo_X6_placeInOrder {E : PE} {v0 : Option Nat} {v1 : Int32} {σ τ : PS} {rv : Int32} (h : f_X6_placeInOrder E v0 v1 σ = some (rv, τ)) : sN σ ≤ sN τ ∧ sS σ ≤ sS τ ∧ sN τ ≤ E.2.1 ∧ sS τ ≤ E.2.2.1 := (oM_of h).2
def f_X6_settles_B319 (E : PE) (v0 : Option Nat) (v1 : Int32) (v3 : Int32) (v4 : Int32) (σ : PS) : Option (Unit × PS) :=
  (oGr 7 7 v0 σ).bind fun x24 =>
  (oAs x24 v4 v1 σ).bind fun s25 =>
  (oGr 7 8 v0 s25).bind fun x26 =>
  (oAs x26 v4 v3 s25).bind fun s27 =>
  (oGi 7 9 v0 s27).bind fun x28 =>
  (oPi 7 9 v0 (x28 + (1 : Int32)) s27).bind fun s29 =>
  some ((), s29)
def f_X6_settles_L263 (E : PE) : Nat → Option Nat → Int32 → Int32 → Int32 → PS → Option (Unit × PS)
  | 0, _, _, _, _, _ => none
  | n + 1, v0, v1, v3, v4, σ =>
    if v4 ≤ 0 then
      f_X6_settles_B319 E v0 v1 v3 v4 σ
    else
      (oGr 7 8 v0 σ).bind fun x14 =>
      (oAl x14 (v4 - (1 : Int32)) σ).bind fun x15 =>
      if x15 ≤ v3 then
        f_X6_settles_B319 E v0 v1 v3 v4 σ
      else
        (oGr 7 7 v0 σ).bind fun x16 =>
        (oGr 7 7 v0 σ).bind fun x17 =>
        (oAl x17 (v4 - (1 : Int32)) σ).bind fun x18 =>
        (oAs x16 v4 x18 σ).bind fun s19 =>
        (oGr 7 8 v0 s19).bind fun x20 =>
        (oGr 7 8 v0 s19).bind fun x21 =>
        (oAl x21 (v4 - (1 : Int32)) s19).bind fun x22 =>
        (oAs x20 v4 x22 s19).bind fun s23 =>
        f_X6_settles_L263 E n v0 v1 v3 (v4 + (-1)) s23
def f_X6_settles_B257 (E : PE) (v0 : Option Nat) (v1 : Int32) (v3 : Int32) (σ : PS) : Option (Unit × PS) :=
  (oGi 7 9 v0 σ).bind fun x13 =>
  f_X6_settles_L263 E E.1 v0 v1 v3 x13 σ
def f_X6_settles_B249 (E : PE) (k216 : Option Nat → Int32 → Int32 → Int32 → PS → Option (Unit × PS)) (v0 : Option Nat) (v1 : Int32) (v3 : Int32) (v4 : Int32) (w0 : Option Nat) (w1 : Int32) (w2 : Int32) (w3 : Int32) (σ : PS) : Option (Unit × PS) :=
  (oAs w0 w1 (w2 + w3) σ).bind fun s55 =>
  k216 v0 v1 v3 (v4 + 1) s55
def f_X6_settles_L216 (E : PE) : Nat → Option Nat → Int32 → Int32 → Int32 → PS → Option (Unit × PS)
  | 0, _, _, _, _, _ => none
  | n + 1, v0, v1, v3, v4, σ =>
    (oGi 7 9 v0 σ).bind fun x50 =>
    if x50 ≤ v4 then
      f_X6_settles_B257 E v0 v1 v3 σ
    else
      (oGr 7 8 v0 σ).bind fun x51 =>
      (oAl x51 v4 σ).bind fun x52 =>
      (oGr 7 8 v0 σ).bind fun x53 =>
      (oAl x53 v4 σ).bind fun x54 =>
      if x54 < v3 then
        f_X6_settles_B249 E (f_X6_settles_L216 E n) v0 v1 v3 v4 x51 v4 x52 (0 : Int32) σ
      else
        f_X6_settles_B249 E (f_X6_settles_L216 E n) v0 v1 v3 v4 x51 v4 x52 (1 : Int32) σ
def f_X6_settles_L128 (E : PE) (k71 : Option Nat → Int32 → Int32 → Int32 → PS → Option (Unit × PS)) : Nat → Option Nat → Int32 → Int32 → Int32 → Int32 → PS → Option (Unit × PS)
  | 0, _, _, _, _, _, _ => none
  | n + 1, v0, v1, v3, v4, v5, σ =>
    (oGr 7 13 v0 σ).bind fun x56 =>
    (oAl x56 v4 σ).bind fun x57 =>
    if (3 : Int32) * x57 ≤ v5 then
      k71 v0 v1 v3 (v4 + (-1)) σ
    else
      (oGr 7 14 v0 σ).bind fun x58 =>
      (oGr 7 14 v0 σ).bind fun x59 =>
      (oAl x59 (((5400 : Int32) * (v4 - (1 : Int32))) + v5) σ).bind fun x60 =>
      (oAs x58 (((5400 : Int32) * v4) + v5) x60 σ).bind fun s61 =>
      f_X6_settles_L128 E k71 n v0 v1 v3 v4 (v5 + 1) s61
def f_X6_settles_L71 (E : PE) : Nat → Option Nat → Int32 → Int32 → Int32 → PS → Option (Unit × PS)
  | 0, _, _, _, _, _ => none
  | n + 1, v0, v1, v3, v4, σ =>
    if v4 ≤ v3 then
      (oGi 7 10 v0 σ).bind fun x30 =>
      (oPi 7 10 v0 (x30 + (1 : Int32)) σ).bind fun s31 =>
      (oGr 7 11 v0 s31).bind fun x32 =>
      (oGr 7 1 v0 s31).bind fun x33 =>
      (oAl x33 v1 s31).bind fun x34 =>
      (oAs x32 v3 x34 s31).bind fun s35 =>
      (oGr 7 12 v0 s35).bind fun x36 =>
      (oAs x36 v3 (0 : Int32) s35).bind fun s37 =>
      f_X6_settles_L216 E E.1 v0 v1 v3 (0 : Int32) s37
    else
      (oGr 7 11 v0 σ).bind fun x38 =>
      (oGr 7 11 v0 σ).bind fun x39 =>
      (oAl x39 (v4 - (1 : Int32)) σ).bind fun x40 =>
      (oAs x38 v4 x40 σ).bind fun s41 =>
      (oGr 7 12 v0 s41).bind fun x42 =>
      (oGr 7 12 v0 s41).bind fun x43 =>
      (oAl x43 (v4 - (1 : Int32)) s41).bind fun x44 =>
      (oAs x42 v4 x44 s41).bind fun s45 =>
      (oGr 7 13 v0 s45).bind fun x46 =>
      (oGr 7 13 v0 s45).bind fun x47 =>
      (oAl x47 (v4 - (1 : Int32)) s45).bind fun x48 =>
      (oAs x46 v4 x48 s45).bind fun s49 =>
      f_X6_settles_L128 E (f_X6_settles_L71 E n) E.1 v0 v1 v3 v4 (0 : Int32) s49
def f_X6_settles_B33 (E : PE) (k5 : Option Nat → Int32 → Int32 → Int32 → PS → Option (Unit × PS)) (v0 : Option Nat) (v1 : Int32) (v3 : Int32) (w0 : Int32) (σ : PS) : Option (Unit × PS) :=
  k5 v0 v1 w0 (v3 + 1) σ
def f_X6_settles_L5 (E : PE) : Nat → Option Nat → Int32 → Int32 → Int32 → PS → Option (Unit × PS)
  | 0, _, _, _, _, _ => none
  | n + 1, v0, v1, v2, v3, σ =>
    (oGi 7 10 v0 σ).bind fun x1 =>
    if x1 ≤ v3 then
      (oK 7 v0 σ).bind fun b4 =>
      bd (f_X6_groupBytes E v0 v2 σ) fun r2 s3 =>
      (oGr 7 2 v0 s3).bind fun x5 =>
      (oAl x5 v1 s3).bind fun x6 =>
      (oGi 7 5 v0 s3).bind fun x7 =>
      if r2 + x6 ≤ x7 then
        f_X6_settles_B257 E v0 v1 v2 s3
      else
        (oGi 7 10 v0 s3).bind fun x8 =>
        f_X6_settles_L71 E E.1 v0 v1 (v2 + (1 : Int32)) x8 s3
    else
      (oGr 7 11 v0 σ).bind fun x9 =>
      (oAl x9 v3 σ).bind fun x10 =>
      (oGr 7 1 v0 σ).bind fun x11 =>
      (oAl x11 v1 σ).bind fun x12 =>
      if x10 = x12 then
        f_X6_settles_B33 E (f_X6_settles_L5 E n) v0 v1 v3 v3 σ
      else
        f_X6_settles_B33 E (f_X6_settles_L5 E n) v0 v1 v3 v2 σ
def g_X6_settles (E : PE) (v0 : Option Nat) (v1 : Int32) (σ : PS) : Option (Unit × PS) :=
  f_X6_settles_L5 E E.1 v0 v1 (-2 : Int32) (0 : Int32) σ
def f_X6_settles (E : PE) (v0 : Option Nat) (v1 : Int32) (σ : PS) : Option (Unit × PS) := oM E σ (g_X6_settles E v0 v1 σ)
theorem mo_X6_settles {E : PE} {v0 : Option Nat} {v1 : Int32} {σ τ : PS} {rv : Unit} (h : f_X6_settles E v0 v1 σ = some (rv, τ)) : sN σ ≤ sN τ ∧ sS σ ≤ sS τ ∧ sN τ ≤ E.2.1 ∧ sS τ ≤ E.2.2.1 := (oM_of h).2
def f_X6_change_B35 (E : PE) (σ : PS) : Option (Int32 × PS) :=
  some ((-1 : Int32), σ)
def f_X6_change_B75 (E : PE) (v4 : Int32) (σ : PS) : Option (Int32 × PS) :=
  some (v4, σ)
def f_X6_change_B241 (E : PE) (v0 : Option Nat) (v1 : Int32) (v4 : Int32) (σ : PS) : Option (Int32 × PS) :=
  (oGr 7 8 v0 σ).bind fun x30 =>
  (oK 7 v0 σ).bind fun b33 =>
  bd (f_X6_placeInOrder E v0 v1 σ) fun r31 s32 =>
  (oAl x30 r31 s32).bind fun x34 =>
  (oK 7 v0 s32).bind fun b37 =>
  bd (f_X6_makes E v0 x34 s32) fun _ s36 =>
  (oGr 7 12 v0 s36).bind fun x38 =>
  (oAl x38 x34 s36).bind fun x39 =>
  (oAs x38 x34 (x39 + (1 : Int32)) s36).bind fun s40 =>
  some (v4, s40)
def f_X6_change_B236 (E : PE) (v0 : Option Nat) (v1 : Int32) (v4 : Int32) (σ : PS) : Option (Int32 × PS) :=
  (oK 7 v0 σ).bind fun b29 =>
  bd (f_X6_settles E v0 v1 σ) fun _ s28 =>
  f_X6_change_B241 E v0 v1 v4 s28
def f_X6_change_B217 (E : PE) (v0 : Option Nat) (v1 : Int32) (v4 : Int32) (v5 : Int32) (v6 : Int32) (σ : PS) : Option (Int32 × PS) :=
  (oGr 7 6 v0 σ).bind fun x25 =>
  (oAs x25 v1 v1 σ).bind fun s26 =>
  if v6 = 0 then
    if v5 = (-2 : Int32) then
      f_X6_change_B241 E v0 v1 v4 s26
    else
      f_X6_change_B236 E v0 v1 v4 s26
  else
    f_X6_change_B236 E v0 v1 v4 s26
def f_X6_change_B210 (E : PE) (k166 : Option Nat → Int32 → Int32 → Int32 → Int32 → Int32 → PS → Option (Int32 × PS)) (v0 : Option Nat) (v1 : Int32) (v4 : Int32) (v5 : Int32) (v6 : Int32) (v7 : Int32) (w0 : Option Nat) (w1 : Int32) (w2 : Int32) (σ : PS) : Option (Int32 × PS) :=
  (oAs w0 w1 w2 σ).bind fun s47 =>
  k166 v0 v1 v4 v5 v6 (v7 + 1) s47
def f_X6_change_B203 (E : PE) (k166 : Option Nat → Int32 → Int32 → Int32 → Int32 → Int32 → PS → Option (Int32 × PS)) (v0 : Option Nat) (v1 : Int32) (v4 : Int32) (v5 : Int32) (v6 : Int32) (v7 : Int32) (w0 : Option Nat) (w1 : Int32) (σ : PS) : Option (Int32 × PS) :=
  (oGr 7 6 v0 σ).bind fun x45 =>
  (oAl x45 v7 σ).bind fun x46 =>
  f_X6_change_B210 E k166 v0 v1 v4 v5 v6 v7 w0 w1 x46 σ
def f_X6_change_L166 (E : PE) : Nat → Option Nat → Int32 → Int32 → Int32 → Int32 → Int32 → PS → Option (Int32 × PS)
  | 0, _, _, _, _, _, _, _ => none
  | n + 1, v0, v1, v4, v5, v6, v7, σ =>
    (oGi 7 0 v0 σ).bind fun x41 =>
    if x41 ≤ v7 then
      f_X6_change_B217 E v0 v1 v4 v5 v6 σ
    else
      (oGr 7 6 v0 σ).bind fun x42 =>
      if v7 = v1 then
        f_X6_change_B203 E (f_X6_change_L166 E n) v0 v1 v4 v5 v6 v7 x42 v7 σ
      else
        (oGr 7 6 v0 σ).bind fun x43 =>
        (oAl x43 v7 σ).bind fun x44 =>
        if x44 = v1 then
          f_X6_change_B210 E (f_X6_change_L166 E n) v0 v1 v4 v5 v6 v7 x42 v7 v5 σ
        else
          f_X6_change_B203 E (f_X6_change_L166 E n) v0 v1 v4 v5 v6 v7 x42 v7 σ
def f_X6_change_B142 (E : PE) (v0 : Option Nat) (v1 : Int32) (v4 : Int32) (v5 : Int32) (w0 : Int32) (σ : PS) : Option (Int32 × PS) :=
  if v5 = (-2 : Int32) then
    f_X6_change_B217 E v0 v1 v4 v5 w0 σ
  else
    (oGr 7 7 v0 σ).bind fun x20 =>
    (oK 7 v0 σ).bind fun b23 =>
    bd (f_X6_placeInOrder E v0 v1 σ) fun r21 s22 =>
    (oAs x20 r21 v5 s22).bind fun s24 =>
    f_X6_change_L166 E E.1 v0 v1 v4 v5 w0 (0 : Int32) s24
def f_X6_change_B119 (E : PE) (k90 : Option Nat → Int32 → Int32 → Int32 → Int32 → PS → Option (Int32 × PS)) (v0 : Option Nat) (v1 : Int32) (v4 : Int32) (v6 : Int32) (w0 : Int32) (σ : PS) : Option (Int32 × PS) :=
  k90 v0 v1 v4 w0 (v6 + (-1)) σ
def f_X6_change_B117 (E : PE) (k90 : Option Nat → Int32 → Int32 → Int32 → Int32 → PS → Option (Int32 × PS)) (v0 : Option Nat) (v1 : Int32) (v4 : Int32) (v5 : Int32) (v6 : Int32) (σ : PS) : Option (Int32 × PS) :=
  f_X6_change_B119 E k90 v0 v1 v4 v6 v5 σ
def f_X6_change_L90 (E : PE) : Nat → Option Nat → Int32 → Int32 → Int32 → Int32 → PS → Option (Int32 × PS)
  | 0, _, _, _, _, _, _ => none
  | n + 1, v0, v1, v4, v5, v6, σ =>
    if v6 < 0 then
      (oGr 7 6 v0 σ).bind fun x16 =>
      (oAl x16 v1 σ).bind fun x17 =>
      if x17 = v1 then
        f_X6_change_B142 E v0 v1 v4 v5 (0 : Int32) σ
      else
        f_X6_change_B142 E v0 v1 v4 v5 (1 : Int32) σ
    else
      if v6 = v1 then
        f_X6_change_B117 E (f_X6_change_L90 E n) v0 v1 v4 v5 v6 σ
      else
        (oGr 7 6 v0 σ).bind fun x18 =>
        (oAl x18 v6 σ).bind fun x19 =>
        if x19 = v1 then
          f_X6_change_B119 E (f_X6_change_L90 E n) v0 v1 v4 v6 v6 σ
        else
          f_X6_change_B117 E (f_X6_change_L90 E n) v0 v1 v4 v5 v6 σ
def g_X6_change (E : PE) (v0 : Option Nat) (v1 : Int32) (v2 : Int32) (v3 : Int32) (σ : PS) : Option (Int32 × PS) :=
  (oK 7 v0 σ).bind fun b3 =>
  bd (f_X6_isEntry E v0 v1 σ) fun r1 s2 =>
  if r1 = 0 then
    f_X6_change_B35 E s2
  else
    (oGr 7 2 v0 s2).bind fun x4 =>
    (oAl x4 v1 s2).bind fun x5 =>
    bd (f_X6_isIn E v2 (0 : Int32) (x5 - (1 : Int32)) s2) fun r6 s7 =>
    if r6 = 0 then
      f_X6_change_B35 E s7
    else
      bd (f_X6_isIn E v3 (0 : Int32) (255 : Int32) s7) fun r8 s9 =>
      if r8 = 0 then
        f_X6_change_B35 E s9
      else
        (oGr 7 3 v0 s9).bind fun x10 =>
        (oAl x10 (((60 : Int32) * v1) + v2) s9).bind fun x11 =>
        (oGr 7 3 v0 s9).bind fun x12 =>
        (oAs x12 (((60 : Int32) * v1) + v2) v3 s9).bind fun s13 =>
        (oGi 7 4 v0 s13).bind fun x14 =>
        if x14 = 0 then
          f_X6_change_B75 E x11 s13
        else
          if x11 = v3 then
            f_X6_change_B75 E x11 s13
          else
            (oGi 7 0 v0 s13).bind fun x15 =>
            f_X6_change_L90 E E.1 v0 v1 x11 (-2 : Int32) (x15 - (1 : Int32)) s13
def f_X6_change (E : PE) (v0 : Option Nat) (v1 : Int32) (v2 : Int32) (v3 : Int32) (σ : PS) : Option (Int32 × PS) := oM E σ (g_X6_change E v0 v1 v2 v3 σ)
theorem mo_X6_change {E : PE} {v0 : Option Nat} {v1 : Int32} {v2 : Int32} {v3 : Int32} {σ τ : PS} {rv : Int32} (h : f_X6_change E v0 v1 v2 v3 σ = some (rv, τ)) : sN σ ≤ sN τ ∧ sS σ ≤ sS τ ∧ sN τ ≤ E.2.1 ∧ sS τ ≤ E.2.2.1 := (oM_of h).2
def f_X6_order_B34 (E : PE) (w0 : Int32) (σ : PS) : Option (Int32 × PS) :=
  some (w0, σ)
def g_X6_order (E : PE) (v0 : Option Nat) (v1 : Int32) (σ : PS) : Option (Int32 × PS) :=
  (oGi 7 4 v0 σ).bind fun x1 =>
  if x1 = 0 then
    some ((-2 : Int32), σ)
  else
    (oGi 7 9 v0 σ).bind fun x2 =>
    bd (f_X6_isIn E v1 (0 : Int32) (x2 - (1 : Int32)) σ) fun r3 s4 =>
    if r3 = 0 then
      f_X6_order_B34 E (-1 : Int32) s4
    else
      (oGr 7 7 v0 s4).bind fun x5 =>
      (oAl x5 v1 s4).bind fun x6 =>
      f_X6_order_B34 E x6 s4
def f_X6_order (E : PE) (v0 : Option Nat) (v1 : Int32) (σ : PS) : Option (Int32 × PS) := oM E σ (g_X6_order E v0 v1 σ)
theorem mo_X6_order {E : PE} {v0 : Option Nat} {v1 : Int32} {σ τ : PS} {rv : Int32} (h : f_X6_order E v0 v1 σ = some (rv, τ)) : sN σ ≤ sN τ ∧ sS σ ≤ sS τ ∧ sN τ ≤ E.2.1 ∧ sS τ ≤ E.2.2.1 := (oM_of h).2
def f_X6_twin_B28 (E : PE) (w0 : Int32) (σ : PS) : Option (Int32 × PS) :=
  some (w0, σ)
def g_X6_twin (E : PE) (v0 : Option Nat) (v1 : Int32) (σ : PS) : Option (Int32 × PS) :=
  (oK 7 v0 σ).bind fun b3 =>
  bd (f_X6_isEntry E v0 v1 σ) fun r1 s2 =>
  if r1 = 0 then
    some ((-1 : Int32), s2)
  else
    (oGi 7 4 v0 s2).bind fun x4 =>
    if x4 = 0 then
      f_X6_twin_B28 E (-2 : Int32) s2
    else
      (oGr 7 6 v0 s2).bind fun x5 =>
      (oAl x5 v1 s2).bind fun x6 =>
      f_X6_twin_B28 E x6 s2
def f_X6_twin (E : PE) (v0 : Option Nat) (v1 : Int32) (σ : PS) : Option (Int32 × PS) := oM E σ (g_X6_twin E v0 v1 σ)
theorem mo_X6_twin {E : PE} {v0 : Option Nat} {v1 : Int32} {σ τ : PS} {rv : Int32} (h : f_X6_twin E v0 v1 σ = some (rv, τ)) : sN σ ≤ sN τ ∧ sS σ ≤ sS τ ∧ sN τ ≤ E.2.1 ∧ sS τ ≤ E.2.2.1 := (oM_of h).2
def f_X6_group_B37 (E : PE) (w0 : Int32) (σ : PS) : Option (Int32 × PS) :=
  some (w0, σ)
def g_X6_group (E : PE) (v0 : Option Nat) (v1 : Int32) (σ : PS) : Option (Int32 × PS) :=
  (oK 7 v0 σ).bind fun b3 =>
  bd (f_X6_isEntry E v0 v1 σ) fun r1 s2 =>
  if r1 = 0 then
    some ((-1 : Int32), s2)
  else
    (oGi 7 4 v0 s2).bind fun x4 =>
    if x4 = 0 then
      f_X6_group_B37 E (-2 : Int32) s2
    else
      (oGr 7 8 v0 s2).bind fun x5 =>
      (oGr 7 6 v0 s2).bind fun x6 =>
      (oAl x6 v1 s2).bind fun x7 =>
      (oK 7 v0 s2).bind fun b10 =>
      bd (f_X6_placeInOrder E v0 x7 s2) fun r8 s9 =>
      (oAl x5 r8 s9).bind fun x11 =>
      f_X6_group_B37 E x11 s9
def f_X6_group (E : PE) (v0 : Option Nat) (v1 : Int32) (σ : PS) : Option (Int32 × PS) := oM E σ (g_X6_group E v0 v1 σ)
theorem mo_X6_group {E : PE} {v0 : Option Nat} {v1 : Int32} {σ τ : PS} {rv : Int32} (h : f_X6_group E v0 v1 σ = some (rv, τ)) : sN σ ≤ sN τ ∧ sS σ ≤ sS τ ∧ sN τ ≤ E.2.1 ∧ sS τ ≤ E.2.2.1 := (oM_of h).2
def f_X6_placeOf_B55 (E : PE) (k16 : Option Nat → Int32 → Int32 → Int32 → PS → Option (Int32 × PS)) (v0 : Option Nat) (v2 : Int32) (v4 : Int32) (w0 : Int32) (w1 : Int32) (σ : PS) : Option (Int32 × PS) :=
  k16 v0 v2 (w0 + w1) (v4 + 1) σ
def f_X6_placeOf_L16 (E : PE) : Nat → Option Nat → Int32 → Int32 → Int32 → PS → Option (Int32 × PS)
  | 0, _, _, _, _, _ => none
  | n + 1, v0, v2, v3, v4, σ =>
    if v2 ≤ v4 then
      some (v3, σ)
    else
      (oGr 7 8 v0 σ).bind fun x6 =>
      (oAl x6 v4 σ).bind fun x7 =>
      (oGr 7 8 v0 σ).bind fun x8 =>
      (oAl x8 v2 σ).bind fun x9 =>
      if x7 = x9 then
        (oGr 7 2 v0 σ).bind fun x10 =>
        (oGr 7 7 v0 σ).bind fun x11 =>
        (oAl x11 v4 σ).bind fun x12 =>
        (oAl x10 x12 σ).bind fun x13 =>
        f_X6_placeOf_B55 E (f_X6_placeOf_L16 E n) v0 v2 v4 v3 x13 σ
      else
        f_X6_placeOf_B55 E (f_X6_placeOf_L16 E n) v0 v2 v4 v3 (0 : Int32) σ
def g_X6_placeOf (E : PE) (v0 : Option Nat) (v1 : Int32) (σ : PS) : Option (Int32 × PS) :=
  (oGr 7 6 v0 σ).bind fun x1 =>
  (oAl x1 v1 σ).bind fun x2 =>
  (oK 7 v0 σ).bind fun b5 =>
  bd (f_X6_placeInOrder E v0 x2 σ) fun r3 s4 =>
  f_X6_placeOf_L16 E E.1 v0 r3 (0 : Int32) (0 : Int32) s4
def f_X6_placeOf (E : PE) (v0 : Option Nat) (v1 : Int32) (σ : PS) : Option (Int32 × PS) := oM E σ (g_X6_placeOf E v0 v1 σ)
theorem mo_X6_placeOf {E : PE} {v0 : Option Nat} {v1 : Int32} {σ τ : PS} {rv : Int32} (h : f_X6_placeOf E v0 v1 σ = some (rv, τ)) : sN σ ≤ sN τ ∧ sS σ ≤ sS τ ∧ sN τ ≤ E.2.1 ∧ sS τ ≤ E.2.2.1 := (oM_of h).2
def f_X6_place_B27 (E : PE) (w0 : Int32) (σ : PS) : Option (Int32 × PS) :=
  some (w0, σ)
def g_X6_place (E : PE) (v0 : Option Nat) (v1 : Int32) (σ : PS) : Option (Int32 × PS) :=
  (oK 7 v0 σ).bind fun b3 =>
  bd (f_X6_isEntry E v0 v1 σ) fun r1 s2 =>
  if r1 = 0 then
    some ((-1 : Int32), s2)
  else
    (oGi 7 4 v0 s2).bind fun x4 =>
    if x4 = 0 then
      f_X6_place_B27 E (-2 : Int32) s2
    else
      (oK 7 v0 s2).bind fun b7 =>
      bd (f_X6_placeOf E v0 v1 s2) fun r5 s6 =>
      f_X6_place_B27 E r5 s6
def f_X6_place (E : PE) (v0 : Option Nat) (v1 : Int32) (σ : PS) : Option (Int32 × PS) := oM E σ (g_X6_place E v0 v1 σ)
theorem mo_X6_place {E : PE} {v0 : Option Nat} {v1 : Int32} {σ τ : PS} {rv : Int32} (h : f_X6_place E v0 v1 σ = some (rv, τ)) : sN σ ≤ sN τ ∧ sS σ ≤ sS τ ∧ sN τ ≤ E.2.1 ∧ sS τ ≤ E.2.2.1 := (oM_of h).2
def f_X6_access_L58 (E : PE) : Nat → Option Nat → Int32 → Int32 → Int32 → Int32 → PS → Option (Int32 × PS)
  | 0, _, _, _, _, _, _ => none
  | n + 1, v0, v2, v3, v4, v5, σ =>
    if v3 ≤ v5 then
      some (v4, σ)
    else
      (oGr 7 14 v0 σ).bind fun x15 =>
      (oAl x15 ((((5400 : Int32) * v2) + ((3 : Int32) * v4)) + (2 : Int32)) σ).bind fun x16 =>
      f_X6_access_L58 E n v0 v2 v3 (v4 + 1) (v5 + x16) σ
def f_X6_access_B51 (E : PE) (v0 : Option Nat) (v2 : Int32) (w0 : Int32) (σ : PS) : Option (Int32 × PS) :=
  f_X6_access_L58 E E.1 v0 v2 w0 (0 : Int32) (0 : Int32) σ
def g_X6_access (E : PE) (v0 : Option Nat) (v1 : Int32) (σ : PS) : Option (Int32 × PS) :=
  (oK 7 v0 σ).bind fun b3 =>
  bd (f_X6_isEntry E v0 v1 σ) fun r1 s2 =>
  if r1 = 0 then
    some ((-1 : Int32), s2)
  else
    (oGi 7 4 v0 s2).bind fun x4 =>
    if x4 = 0 then
      some ((-2 : Int32), s2)
    else
      (oK 7 v0 s2).bind fun b7 =>
      bd (f_X6_group E v0 v1 s2) fun r5 s6 =>
      (oGr 7 2 v0 s6).bind fun x8 =>
      (oAl x8 v1 s6).bind fun x9 =>
      if x9 = 0 then
        f_X6_access_B51 E v0 r5 (0 : Int32) s6
      else
        (oK 7 v0 s6).bind fun b12 =>
        bd (f_X6_placeOf E v0 v1 s6) fun r10 s11 =>
        (oGr 7 2 v0 s11).bind fun x13 =>
        (oAl x13 v1 s11).bind fun x14 =>
        f_X6_access_B51 E v0 r5 (r10 + x14) s11
def f_X6_access (E : PE) (v0 : Option Nat) (v1 : Int32) (σ : PS) : Option (Int32 × PS) := oM E σ (g_X6_access E v0 v1 σ)
theorem mo_X6_access {E : PE} {v0 : Option Nat} {v1 : Int32} {σ τ : PS} {rv : Int32} (h : f_X6_access E v0 v1 σ = some (rv, τ)) : sN σ ≤ sN τ ∧ sS σ ≤ sS τ ∧ sN τ ≤ E.2.1 ∧ sS τ ≤ E.2.2.1 := (oM_of h).2
def f_X6_open_B24 (E : PE) (σ : PS) : Option (Int32 × PS) :=
  some ((-1 : Int32), σ)
def f_X6_open_B131 (E : PE) (k48 : Option Nat → Int32 → Int32 → Int32 → Int32 → Int32 → PS → Option (Int32 × PS)) (k74 : Option Nat → Int32 → Int32 → Int32 → Int32 → Int32 → Int32 → Int32 → PS → Option (Int32 × PS)) (v0 : Option Nat) (v1 : Int32) (v2 : Int32) (v3 : Int32) (v4 : Int32) (v5 : Int32) (v6 : Int32) (v7 : Int32) (w0 : Option Nat) (w1 : Int32) (w2 : Int32) (σ : PS) : Option (Int32 × PS) :=
  (oAs w0 w1 w2 σ).bind fun s30 =>
  k74 v0 v1 v2 v3 (v4 + 1) v5 v6 (v7 + 1) s30
def f_X6_open_L74 (E : PE) (k48 : Option Nat → Int32 → Int32 → Int32 → Int32 → Int32 → PS → Option (Int32 × PS)) : Nat → Option Nat → Int32 → Int32 → Int32 → Int32 → Int32 → Int32 → Int32 → PS → Option (Int32 × PS)
  | 0, _, _, _, _, _, _, _, _, _ => none
  | n + 1, v0, v1, v2, v3, v4, v5, v6, v7, σ =>
    (oGr 7 14 v0 σ).bind fun x19 =>
    (oAl x19 (v6 + (2 : Int32)) σ).bind fun x20 =>
    if x20 ≤ v7 then
      k48 v0 v1 v2 v3 v4 (v5 + 1) σ
    else
      (oGr 7 21 v0 σ).bind fun x21 =>
      (oGr 7 14 v0 σ).bind fun x22 =>
      (oAl x22 v6 σ).bind fun x23 =>
      if x23 < 0 then
        (oGr 7 21 v0 σ).bind fun x24 =>
        (oGr 7 14 v0 σ).bind fun x25 =>
        (oAl x25 (v6 + (1 : Int32)) σ).bind fun x26 =>
        (oAl x24 (v4 - x26) σ).bind fun x27 =>
        f_X6_open_B131 E k48 (f_X6_open_L74 E k48 n) v0 v1 v2 v3 v4 v5 v6 v7 x21 v4 x27 σ
      else
        (oGr 7 14 v0 σ).bind fun x28 =>
        (oAl x28 v6 σ).bind fun x29 =>
        f_X6_open_B131 E k48 (f_X6_open_L74 E k48 n) v0 v1 v2 v3 v4 v5 v6 v7 x21 v4 x29 σ
def f_X6_open_L48 (E : PE) : Nat → Option Nat → Int32 → Int32 → Int32 → Int32 → Int32 → PS → Option (Int32 × PS)
  | 0, _, _, _, _, _, _, _ => none
  | n + 1, v0, v1, v2, v3, v4, v5, σ =>
    (oGr 7 13 v0 σ).bind fun x12 =>
    (oAl x12 v3 σ).bind fun x13 =>
    if x13 ≤ v5 then
      (oGr 7 21 v0 σ).bind fun x14 =>
      (oK 7 v0 σ).bind fun b17 =>
      bd (f_X6_placeOf E v0 v1 σ) fun r15 s16 =>
      (oAl x14 (r15 + v2) s16).bind fun x18 =>
      some (x18, s16)
    else
      f_X6_open_L74 E (f_X6_open_L48 E n) E.1 v0 v1 v2 v3 v4 v5 (((5400 : Int32) * v3) + ((3 : Int32) * v5)) (0 : Int32) σ
def g_X6_open (E : PE) (v0 : Option Nat) (v1 : Int32) (v2 : Int32) (σ : PS) : Option (Int32 × PS) :=
  (oK 7 v0 σ).bind fun b3 =>
  bd (f_X6_isEntry E v0 v1 σ) fun r1 s2 =>
  if r1 = 0 then
    f_X6_open_B24 E s2
  else
    (oGr 7 2 v0 s2).bind fun x4 =>
    (oAl x4 v1 s2).bind fun x5 =>
    bd (f_X6_isIn E v2 (0 : Int32) (x5 - (1 : Int32)) s2) fun r6 s7 =>
    if r6 = 0 then
      f_X6_open_B24 E s7
    else
      (oGi 7 4 v0 s7).bind fun x8 =>
      if x8 = 0 then
        some ((-2 : Int32), s7)
      else
        (oK 7 v0 s7).bind fun b11 =>
        bd (f_X6_group E v0 v1 s7) fun r9 s10 =>
        f_X6_open_L48 E E.1 v0 v1 v2 r9 (0 : Int32) (0 : Int32) s10
def f_X6_open (E : PE) (v0 : Option Nat) (v1 : Int32) (v2 : Int32) (σ : PS) : Option (Int32 × PS) := oM E σ (g_X6_open E v0 v1 v2 σ)
theorem mo_X6_open {E : PE} {v0 : Option Nat} {v1 : Int32} {v2 : Int32} {σ τ : PS} {rv : Int32} (h : f_X6_open E v0 v1 v2 σ = some (rv, τ)) : sN σ ≤ sN τ ∧ sS σ ≤ sS τ ∧ sN τ ≤ E.2.1 ∧ sS τ ≤ E.2.2.1 := (oM_of h).2
def f_X6_sizeOf_B37 (E : PE) (k4 : Option Nat → Int32 → Int32 → Int32 → PS → Option (Int32 × PS)) (v0 : Option Nat) (v1 : Int32) (v3 : Int32) (w0 : Int32) (w1 : Int32) (σ : PS) : Option (Int32 × PS) :=
  k4 v0 v1 (w0 + w1) (v3 + 1) σ
def f_X6_sizeOf_L4 (E : PE) : Nat → Option Nat → Int32 → Int32 → Int32 → PS → Option (Int32 × PS)
  | 0, _, _, _, _, _ => none
  | n + 1, v0, v1, v2, v3, σ =>
    (oGr 7 13 v0 σ).bind fun x1 =>
    (oAl x1 v1 σ).bind fun x2 =>
    if x2 ≤ v3 then
      some (v2, σ)
    else
      (oGr 7 14 v0 σ).bind fun x3 =>
      (oAl x3 (((5400 : Int32) * v1) + ((3 : Int32) * v3)) σ).bind fun x4 =>
      if 0 ≤ x4 then
        f_X6_sizeOf_B37 E (f_X6_sizeOf_L4 E n) v0 v1 v3 v2 (1 : Int32) σ
      else
        f_X6_sizeOf_B37 E (f_X6_sizeOf_L4 E n) v0 v1 v3 v2 (3 : Int32) σ
def g_X6_sizeOf (E : PE) (v0 : Option Nat) (v1 : Int32) (σ : PS) : Option (Int32 × PS) :=
  f_X6_sizeOf_L4 E E.1 v0 v1 (0 : Int32) (0 : Int32) σ
def f_X6_sizeOf (E : PE) (v0 : Option Nat) (v1 : Int32) (σ : PS) : Option (Int32 × PS) := oM E σ (g_X6_sizeOf E v0 v1 σ)
theorem mo_X6_sizeOf {E : PE} {v0 : Option Nat} {v1 : Int32} {σ τ : PS} {rv : Int32} (h : f_X6_sizeOf E v0 v1 σ = some (rv, τ)) : sN σ ≤ sN τ ∧ sS σ ≤ sS τ ∧ sN τ ≤ E.2.1 ∧ sS τ ≤ E.2.2.1 := (oM_of h).2
def f_X6_of_B57 (E : PE) (k31 : Option Nat → Int32 → Int32 → Int32 → Int32 → PS → Option (Int32 × PS)) (v0 : Option Nat) (v1 : Int32) (v2 : Int32) (v4 : Int32) (w0 : Int32) (w1 : Int32) (σ : PS) : Option (Int32 × PS) :=
  k31 v0 v1 v2 (w0 + w1) (v4 + 1) σ
def f_X6_of_L31 (E : PE) : Nat → Option Nat → Int32 → Int32 → Int32 → Int32 → PS → Option (Int32 × PS)
  | 0, _, _, _, _, _, _ => none
  | n + 1, v0, v1, v2, v3, v4, σ =>
    (oGi 7 9 v0 σ).bind fun x5 =>
    if x5 ≤ v4 then
      if v2 = (0 : Int32) then
        (oGr 7 11 v0 σ).bind fun x6 =>
        (oAl x6 v1 σ).bind fun x7 =>
        some (x7, σ)
      else
      if v2 = (1 : Int32) then
        some (v3, σ)
      else
      if v2 = (2 : Int32) then
        (oK 7 v0 σ).bind fun b10 =>
        bd (f_X6_groupBytes E v0 v1 σ) fun r8 s9 =>
        some (r8, s9)
      else
      if v2 = (3 : Int32) then
        (oGr 7 13 v0 σ).bind fun x11 =>
        (oAl x11 v1 σ).bind fun x12 =>
        some (x12, σ)
      else
      if v2 = (4 : Int32) then
        (oK 7 v0 σ).bind fun b15 =>
        bd (f_X6_sizeOf E v0 v1 σ) fun r13 s14 =>
        some (r13, s14)
      else
      if v2 = (5 : Int32) then
        (oGr 7 12 v0 σ).bind fun x16 =>
        (oAl x16 v1 σ).bind fun x17 =>
        some (x17, σ)
      else
      some ((-1 : Int32), σ)
    else
      (oGr 7 8 v0 σ).bind fun x18 =>
      (oAl x18 v4 σ).bind fun x19 =>
      if x19 = v1 then
        f_X6_of_B57 E (f_X6_of_L31 E n) v0 v1 v2 v4 v3 (1 : Int32) σ
      else
        f_X6_of_B57 E (f_X6_of_L31 E n) v0 v1 v2 v4 v3 (0 : Int32) σ
def g_X6_of (E : PE) (v0 : Option Nat) (v1 : Int32) (v2 : Int32) (σ : PS) : Option (Int32 × PS) :=
  (oGi 7 4 v0 σ).bind fun x1 =>
  if x1 = 0 then
    some ((-2 : Int32), σ)
  else
    (oGi 7 10 v0 σ).bind fun x2 =>
    bd (f_X6_isIn E v1 (0 : Int32) (x2 - (1 : Int32)) σ) fun r3 s4 =>
    if r3 = 0 then
      some ((-1 : Int32), s4)
    else
      f_X6_of_L31 E E.1 v0 v1 v2 (0 : Int32) (0 : Int32) s4
def f_X6_of (E : PE) (v0 : Option Nat) (v1 : Int32) (v2 : Int32) (σ : PS) : Option (Int32 × PS) := oM E σ (g_X6_of E v0 v1 v2 σ)
theorem mo_X6_of {E : PE} {v0 : Option Nat} {v1 : Int32} {v2 : Int32} {σ τ : PS} {rv : Int32} (h : f_X6_of E v0 v1 v2 σ = some (rv, τ)) : sN σ ≤ sN τ ∧ sS σ ≤ sS τ ∧ sN τ ≤ E.2.1 ∧ sS τ ≤ E.2.2.1 := (oM_of h).2
def f_X6_token_B69 (E : PE) (w0 : Int32) (σ : PS) : Option (Int32 × PS) :=
  some (w0, σ)
def f_X6_token_B68 (E : PE) (σ : PS) : Option (Int32 × PS) :=
  f_X6_token_B69 E (-1 : Int32) σ
def g_X6_token (E : PE) (v0 : Option Nat) (v1 : Int32) (v2 : Int32) (v3 : Int32) (σ : PS) : Option (Int32 × PS) :=
  (oGi 7 4 v0 σ).bind fun x1 =>
  if x1 = 0 then
    some ((-2 : Int32), σ)
  else
    (oGi 7 10 v0 σ).bind fun x2 =>
    bd (f_X6_isIn E v1 (0 : Int32) (x2 - (1 : Int32)) σ) fun r3 s4 =>
    if r3 = 0 then
      f_X6_token_B68 E s4
    else
      (oGr 7 13 v0 s4).bind fun x5 =>
      (oAl x5 v1 s4).bind fun x6 =>
      bd (f_X6_isIn E v2 (0 : Int32) (x6 - (1 : Int32)) s4) fun r7 s8 =>
      if r7 = 0 then
        f_X6_token_B68 E s8
      else
        bd (f_X6_isIn E v3 (0 : Int32) (2 : Int32) s8) fun r9 s10 =>
        if r9 = 0 then
          f_X6_token_B68 E s10
        else
          (oGr 7 14 v0 s10).bind fun x11 =>
          (oAl x11 ((((5400 : Int32) * v1) + ((3 : Int32) * v2)) + v3) s10).bind fun x12 =>
          f_X6_token_B69 E x12 s10
def f_X6_token (E : PE) (v0 : Option Nat) (v1 : Int32) (v2 : Int32) (v3 : Int32) (σ : PS) : Option (Int32 × PS) := oM E σ (g_X6_token E v0 v1 v2 v3 σ)
theorem mo_X6_token {E : PE} {v0 : Option Nat} {v1 : Int32} {v2 : Int32} {v3 : Int32} {σ τ : PS} {rv : Int32} (h : f_X6_token E v0 v1 v2 v3 σ = some (rv, τ)) : sN σ ≤ sN τ ∧ sS σ ≤ sS τ ∧ sN τ ≤ E.2.1 ∧ sS τ ≤ E.2.2.1 := (oM_of h).2
def f_X6_sum_B87 (E : PE) (k29 : Option Nat → Int32 → Int32 → Int32 → Int32 → PS → Option (Int32 × PS)) (v0 : Option Nat) (v1 : Int32) (v2 : Int32) (v3 : Int32) (v4 : Int32) (σ : PS) : Option (Int32 × PS) :=
  k29 v0 v1 v2 v3 (v4 + 1) σ
def f_X6_sum_B77 (E : PE) (k29 : Option Nat → Int32 → Int32 → Int32 → Int32 → PS → Option (Int32 × PS)) (v0 : Option Nat) (v1 : Int32) (v4 : Int32) (w0 : Int32) (w1 : Int32) (σ : PS) : Option (Int32 × PS) :=
  (oGr 7 7 v0 σ).bind fun x14 =>
  (oAl x14 v4 σ).bind fun x15 =>
  f_X6_sum_B87 E k29 v0 v1 (w0 + w1) x15 v4 σ
def f_X6_sum_L29 (E : PE) : Nat → Option Nat → Int32 → Int32 → Int32 → Int32 → PS → Option (Int32 × PS)
  | 0, _, _, _, _, _, _ => none
  | n + 1, v0, v1, v2, v3, v4, σ =>
    (oGi 7 9 v0 σ).bind fun x4 =>
    if x4 ≤ v4 then
      some (v2, σ)
    else
      (oGr 7 1 v0 σ).bind fun x5 =>
      (oGr 7 7 v0 σ).bind fun x6 =>
      (oAl x6 v4 σ).bind fun x7 =>
      (oAl x5 x7 σ).bind fun x8 =>
      if x8 = v1 then
        if v3 = (-2 : Int32) then
          f_X6_sum_B77 E (f_X6_sum_L29 E n) v0 v1 v4 v2 (0 : Int32) σ
        else
          (oGr 7 7 v0 σ).bind fun x9 =>
          (oAl x9 v4 σ).bind fun x10 =>
          (oK 7 v0 σ).bind fun b13 =>
          bd (f_X6_distanceOf E v0 v3 x10 σ) fun r11 s12 =>
          f_X6_sum_B77 E (f_X6_sum_L29 E n) v0 v1 v4 v2 r11 s12
      else
        f_X6_sum_B87 E (f_X6_sum_L29 E n) v0 v1 v2 v3 v4 σ
def g_X6_sum (E : PE) (v0 : Option Nat) (v1 : Int32) (σ : PS) : Option (Int32 × PS) :=
  bd (f_X6_isIn E v1 (0 : Int32) (5 : Int32) σ) fun r1 s2 =>
  if r1 = 0 then
    some ((-1 : Int32), s2)
  else
    (oGi 7 4 v0 s2).bind fun x3 =>
    if x3 = 0 then
      some ((-2 : Int32), s2)
    else
      f_X6_sum_L29 E E.1 v0 v1 (0 : Int32) (-2 : Int32) (0 : Int32) s2
def f_X6_sum (E : PE) (v0 : Option Nat) (v1 : Int32) (σ : PS) : Option (Int32 × PS) := oM E σ (g_X6_sum E v0 v1 σ)
theorem mo_X6_sum {E : PE} {v0 : Option Nat} {v1 : Int32} {σ τ : PS} {rv : Int32} (h : f_X6_sum E v0 v1 σ = some (rv, τ)) : sN σ ≤ sN τ ∧ sS σ ≤ sS τ ∧ sN τ ≤ E.2.1 ∧ sS τ ≤ E.2.2.1 := (oM_of h).2
def f_X6_count_B81 (E : PE) (w0 : Int32) (σ : PS) : Option (Int32 × PS) :=
  some (w0, σ)
def f_X6_count_L34 (E : PE) : Nat → Option Nat → Int32 → Int32 → Int32 → PS → Option (Int32 × PS)
  | 0, _, _, _, _, _ => none
  | n + 1, v0, v1, v2, v3, σ =>
    (oGi 7 10 v0 σ).bind fun x5 =>
    if x5 ≤ v3 then
      if v1 = (1 : Int32) then
        (oGi 7 9 v0 σ).bind fun x7 =>
        f_X6_count_B81 E x7 σ
      else
        if v1 = (2 : Int32) then
          (oGi 7 10 v0 σ).bind fun x6 =>
          f_X6_count_B81 E x6 σ
        else
          f_X6_count_B81 E v2 σ
    else
      (oK 7 v0 σ).bind fun b10 =>
      bd (f_X6_sizeOf E v0 v3 σ) fun r8 s9 =>
      f_X6_count_L34 E n v0 v1 (v2 + r8) (v3 + 1) s9
def g_X6_count (E : PE) (v0 : Option Nat) (v1 : Int32) (σ : PS) : Option (Int32 × PS) :=
  bd (f_X6_isIn E v1 (0 : Int32) (3 : Int32) σ) fun r1 s2 =>
  if r1 = 0 then
    some ((-1 : Int32), s2)
  else
    if v1 = 0 then
      (oGi 7 0 v0 s2).bind fun x4 =>
      some (x4, s2)
    else
      (oGi 7 4 v0 s2).bind fun x3 =>
      if x3 = 0 then
        some ((-2 : Int32), s2)
      else
        f_X6_count_L34 E E.1 v0 v1 (0 : Int32) (0 : Int32) s2
def f_X6_count (E : PE) (v0 : Option Nat) (v1 : Int32) (σ : PS) : Option (Int32 × PS) := oM E σ (g_X6_count E v0 v1 σ)
theorem mo_X6_count {E : PE} {v0 : Option Nat} {v1 : Int32} {σ τ : PS} {rv : Int32} (h : f_X6_count E v0 v1 σ = some (rv, τ)) : sN σ ≤ sN τ ∧ sS σ ≤ sS τ ∧ sN τ ≤ E.2.1 ∧ sS τ ≤ E.2.2.1 := (oM_of h).2
def g_X1_markCount (E : PE) (v0 : Option Nat) (σ : PS) : Option (Int32 × PS) :=
  (oGi 2 4 v0 σ).bind fun x1 =>
  some ((if (0 : Int32) < (x1 - (2 : Int32)) then x1 - (2 : Int32) else (0 : Int32)), σ)
def f_X1_markCount (E : PE) (v0 : Option Nat) (σ : PS) : Option (Int32 × PS) := oM E σ (g_X1_markCount E v0 σ)
theorem mo_X1_markCount {E : PE} {v0 : Option Nat} {σ τ : PS} {rv : Int32} (h : f_X1_markCount E v0 σ = some (rv, τ)) : sN σ ≤ sN τ ∧ sS σ ≤ sS τ ∧ sN τ ≤ E.2.1 ∧ sS τ ≤ E.2.2.1 := (oM_of h).2
