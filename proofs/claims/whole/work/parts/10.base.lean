/-! STAGE 2, BASE: runs of the pure functions -/
def wp {α : Type} (m : Option (α × PS)) (P : α → PS → Prop) : Prop := ∃ a s, m = some (a, s) ∧ P a s
theorem wp_ret {α : Type} {a : α} {s : PS} {P : α → PS → Prop} (h : P a s) : wp (some (a, s)) P := ⟨a, s, rfl, h⟩
theorem wp_mono {α : Type} {m : Option (α × PS)} {P Q : α → PS → Prop} (h : wp m P) (k : ∀ a s, P a s → Q a s) : wp m Q := by
  obtain ⟨a, s, h1, h2⟩ := h
  exact ⟨a, s, h1, k a s h2⟩
theorem wp_bd {α β : Type} {m : Option (α × PS)} {f : α → PS → Option (β × PS)} {Q : α → PS → Prop} {P : β → PS → Prop} (h : wp m Q) (k : ∀ a s, Q a s → wp (f a s) P) : wp (bd m f) P := by
  obtain ⟨a, s, h1, h2⟩ := h
  rw [h1]
  exact k a s h2
theorem wp_rd {α β : Type} {m : Option (α × PS)} {f : α → PS → Option (β × PS)} {a : α} {s : PS} {P : β → PS → Prop} (h : m = some (a, s)) (k : wp (f a s) P) : wp (bd m f) P := by
  rw [h]
  exact k
theorem wp_if {α : Type} {c : Prop} {dc : Decidable c} {x y : Option (α × PS)} {P : α → PS → Prop} (h1 : c → wp x P) (h2 : ¬ c → wp y P) : wp (if c then x else y) P := by
  by_cases hc : c
  · rw [if_pos hc]; exact h1 hc
  · rw [if_neg hc]; exact h2 hc
theorem wp_t {α : Type} {c : Prop} {dc : Decidable c} {x y : Option (α × PS)} {P : α → PS → Prop} (hc : c) (h1 : wp x P) : wp (if c then x else y) P := by rw [if_pos hc]; exact h1
theorem wp_f {α : Type} {c : Prop} {dc : Decidable c} {x y : Option (α × PS)} {P : α → PS → Prop} (hc : ¬ c) (h1 : wp y P) : wp (if c then x else y) P := by rw [if_neg hc]; exact h1
theorem wp_oM {α : Type} {E : PE} {σ : PS} {r : Option (α × PS)} {P : α → PS → Prop} (h : wp r (fun a s => (sN σ ≤ sN s ∧ sS σ ≤ sS s ∧ sN s ≤ E.2.1 ∧ sS s ≤ E.2.2.1) ∧ P a s)) : wp (oM E σ r) P := by
  obtain ⟨a, s, h1, h2, h3⟩ := h
  exact ⟨a, s, oM_to h1 h2.1 h2.2.1 h2.2.2.1 h2.2.2.2, h3⟩
/-- the room is not passed -/
def Ok (E : PE) (σ : PS) : Prop := sN σ ≤ E.2.1 ∧ sS σ ≤ E.2.2.1
theorem oM_rd {α : Type} {E : PE} {σ : PS} {r : Option (α × PS)} {v : α} (hO : Ok E σ) (h : r = some (v, σ)) : oM E σ r = some (v, σ) := oM_to h (Nat.le_refl _) (Nat.le_refl _) hO.1 hO.2
theorem bd_some {α β : Type} {a : α} {s : PS} {f : α → PS → Option β} : bd (some (a, s)) f = f a s := rfl
theorem bd_rd {α β : Type} {m : Option (α × PS)} {a : α} {s : PS} {f : α → PS → Option β} {y : Option β} (h : m = some (a, s)) (k : f a s = y) : bd m f = y := by rw [h]; exact k
/-! the single operations -/
theorem oK_ok {kd a : Nat} {σ : PS} (h : sK σ a = some kd) : oK kd (some a) σ = some a := by simp only [oK, h, if_true]
theorem oGi_ok {ci k a : Nat} {σ : PS} (h : sK σ a = some ci) : oGi ci k (some a) σ = some (sI σ ci k a) := by simp only [oGi, oK_ok h, Option.bind_some]
theorem oGr_ok {ci k a : Nat} {σ : PS} (h : sK σ a = some ci) : oGr ci k (some a) σ = some (sR σ ci k a) := by simp only [oGr, oK_ok h, Option.bind_some]
theorem oPi_ok {ci k a : Nat} {σ : PS} {v : Int32} (h : sK σ a = some ci) : oPi ci k (some a) v σ = some (pI ci k a v σ) := by simp only [oPi, oK_ok h, Option.bind_some]
theorem oPr_ok {ci k a : Nat} {σ : PS} {v : Option Nat} (h : sK σ a = some ci) : oPr ci k (some a) v σ = some (pR ci k a v σ) := by simp only [oPr, oK_ok h, Option.bind_some]
theorem oX_ok {kd a j : Nat} {σ : PS} (h : sK σ a = some kd) (hj : j < sL σ a) (hl : sL σ a < 2 ^ 31) : oX kd (some a) (nI j) σ = some a := by
  simp only [oX, oK_ok h, Option.bind_some]
  rw [if_neg (nI_in hj hl)]
theorem oAl_ok {a j : Nat} {σ : PS} (h : sK σ a = some 100) (hj : j < sL σ a) (hl : sL σ a < 2 ^ 31) : oAl (some a) (nI j) σ = some (sA σ a j) := by
  simp only [oAl, oX_ok h hj hl, Option.bind_some]
  rw [nI_clamp (by omega)]
theorem oAs_ok {a j : Nat} {v : Int32} {σ : PS} (h : sK σ a = some 100) (hj : j < sL σ a) (hl : sL σ a < 2 ^ 31) : oAs (some a) (nI j) v σ = some (pA a j v σ) := by
  simp only [oAs, oX_ok h hj hl, Option.bind_some]
  rw [nI_clamp (by omega)]
theorem oQl_ok {a j : Nat} {σ : PS} (h : sK σ a = some 102) (hj : j < sL σ a) (hl : sL σ a < 2 ^ 31) : oQl (some a) (nI j) σ = some (sQ σ a j) := by
  simp only [oQl, oX_ok h hj hl, Option.bind_some]
  rw [nI_clamp (by omega)]
theorem oQs_ok {a j : Nat} {v : Option Nat} {σ : PS} (h : sK σ a = some 102) (hj : j < sL σ a) (hl : sL σ a < 2 ^ 31) (hv : oIs v σ = true) : oQs (some a) (nI j) v σ = some (pQ a j v σ) := by
  simp only [oQs, oX_ok h hj hl, Option.bind_some]
  rw [if_pos hv, nI_clamp (by omega)]
theorem oCa_ok {ci a : Nat} {σ : PS} (h : sK σ a = some ci) : oCa ci (some a) σ = some () := by simp only [oCa, h, if_true]
theorem oIs_ok {a k : Nat} {σ : PS} (h : sK σ a = some k) (hk : k = 2 ∨ k = 3) : oIs (some a) σ = true := by simp only [oIs, h]; exact decide_eq_true hk
theorem oIs_none {σ : PS} : oIs none σ = true := rfl
theorem oNw_ok {E : PE} {ci n : Nat} {σ : PS} (h1 : sN σ + 1 ≤ E.2.1) (h2 : sS σ + n ≤ E.2.2.1) : oNw E ci n σ = some (some (sN σ), pN ci n σ) := by unfold oNw; rw [if_pos ⟨h1, h2⟩]
theorem oNa_ok {E : PE} {kd n : Nat} {σ : PS} (hn : n ≤ 1000000) (h1 : sN σ + 1 ≤ E.2.1) (h2 : sS σ + n ≤ E.2.2.1) : oNa E kd (nI n) σ = some (some (sN σ), pN kd n σ) := by
  unfold oNa
  rw [nI_clamp (by omega), if_pos ⟨nI_pos (by omega), by omega, h1, h2⟩]
theorem oLn_ok {E : PE} {a k : Nat} {σ : PS} (hd : a ≠ E.2.2.2.1) (h : sK σ a = some k) (hk : k = 100 ∨ k = 101 ∨ k = 102) : oLn E (some a) σ = some (nI (sL σ a)) := by
  simp only [oLn]
  rw [if_neg hd, h]
  simp only []
  rw [if_pos hk]
  rfl
theorem oLn_df {E : PE} {σ : PS} : oLn E (some E.2.2.2.1) σ = some 0 := by simp only [oLn, if_true]
section WPO
variable {β : Type} {P : β → PS → Prop} {σ : PS} {E : PE} {ci k a j kd n : Nat} {r v : Option Nat} {i x : Int32}
theorem wp_K {f : Nat → Option (β × PS)} (hr : r = some a) (h : sK σ a = some kd) (w : wp (f a) P) : wp ((oK kd r σ).bind f) P := by subst hr; rw [oK_ok h]; exact w
theorem wp_gi {f : Int32 → Option (β × PS)} (hr : r = some a) (h : sK σ a = some ci) (w : wp (f (sI σ ci k a)) P) : wp ((oGi ci k r σ).bind f) P := by subst hr; rw [oGi_ok h]; exact w
theorem wp_gr {f : Option Nat → Option (β × PS)} (hr : r = some a) (h : sK σ a = some ci) (w : wp (f (sR σ ci k a)) P) : wp ((oGr ci k r σ).bind f) P := by subst hr; rw [oGr_ok h]; exact w
theorem wp_pi {f : PS → Option (β × PS)} (hr : r = some a) (h : sK σ a = some ci) (w : wp (f (pI ci k a x σ)) P) : wp ((oPi ci k r x σ).bind f) P := by subst hr; rw [oPi_ok h]; exact w
theorem wp_pr {f : PS → Option (β × PS)} (hr : r = some a) (h : sK σ a = some ci) (w : wp (f (pR ci k a v σ)) P) : wp ((oPr ci k r v σ).bind f) P := by subst hr; rw [oPr_ok h]; exact w
theorem wp_al {f : Int32 → Option (β × PS)} (hr : r = some a) (hi : i = nI j) (h : sK σ a = some 100) (hj : j < sL σ a) (hl : sL σ a < 2 ^ 31) (w : wp (f (sA σ a j)) P) : wp ((oAl r i σ).bind f) P := by subst hr; subst hi; rw [oAl_ok h hj hl]; exact w
theorem wp_as {f : PS → Option (β × PS)} (hr : r = some a) (hi : i = nI j) (h : sK σ a = some 100) (hj : j < sL σ a) (hl : sL σ a < 2 ^ 31) (w : wp (f (pA a j x σ)) P) : wp ((oAs r i x σ).bind f) P := by subst hr; subst hi; rw [oAs_ok h hj hl]; exact w
theorem wp_ql {f : Option Nat → Option (β × PS)} (hr : r = some a) (hi : i = nI j) (h : sK σ a = some 102) (hj : j < sL σ a) (hl : sL σ a < 2 ^ 31) (w : wp (f (sQ σ a j)) P) : wp ((oQl r i σ).bind f) P := by subst hr; subst hi; rw [oQl_ok h hj hl]; exact w
theorem wp_qs {f : PS → Option (β × PS)} (hr : r = some a) (hi : i = nI j) (h : sK σ a = some 102) (hj : j < sL σ a) (hl : sL σ a < 2 ^ 31) (hv : oIs v σ = true) (w : wp (f (pQ a j v σ)) P) : wp ((oQs r i v σ).bind f) P := by subst hr; subst hi; rw [oQs_ok h hj hl hv]; exact w
theorem wp_ca {f : Unit → Option (β × PS)} (hr : r = some a) (h : sK σ a = some ci) (w : wp (f ()) P) : wp ((oCa ci r σ).bind f) P := by subst hr; rw [oCa_ok h]; exact w
theorem wp_nw {f : Option Nat → PS → Option (β × PS)} (h1 : sN σ + 1 ≤ E.2.1) (h2 : sS σ + n ≤ E.2.2.1) (w : wp (f (some (sN σ)) (pN ci n σ)) P) : wp (bd (oNw E ci n σ) f) P := by rw [oNw_ok h1 h2]; exact w
theorem wp_na {f : Option Nat → PS → Option (β × PS)} (hi : i = nI n) (hn : n ≤ 1000000) (h1 : sN σ + 1 ≤ E.2.1) (h2 : sS σ + n ≤ E.2.2.1) (w : wp (f (some (sN σ)) (pN kd n σ)) P) : wp (bd (oNa E kd i σ) f) P := by subst hi; rw [oNa_ok hn h1 h2]; exact w
theorem wp_ln {f : Int32 → Option (β × PS)} (hr : r = some a) (hd : a ≠ E.2.2.2.1) (h : sK σ a = some kd) (hk : kd = 100 ∨ kd = 101 ∨ kd = 102) (w : wp (f (nI (sL σ a))) P) : wp ((oLn E r σ).bind f) P := by subst hr; rw [oLn_ok hd h hk]; exact w
theorem wp_ln0 {f : Int32 → Option (β × PS)} (hr : r = some E.2.2.2.1) (w : wp (f 0) P) : wp ((oLn E r σ).bind f) P := by subst hr; rw [oLn_df]; exact w
theorem wp_gc {f : Option Nat → Option (β × PS)} (hr : r = some a) (h : sK σ a = some 102) (w : wp (f (some E.2.2.2.2)) P) : wp ((oGc E r σ).bind f) P := by subst hr; simp only [oGc, oK_ok h, Option.bind_some]; exact w
theorem wp_cp {f : PS → Option (β × PS)} {r0 r1 : Option Nat} {a0 a1 sp dp m : Nat} {isp idp im : Int32} (hr0 : r0 = some a0) (hr1 : r1 = some a1) (e1 : isp = nI sp) (e2 : idp = nI dp) (e3 : im = nI m) (hk0 : sK σ a0 = some 102) (hk1 : sK σ a1 = some 102) (hb : sp + m ≤ sL σ a0 ∧ dp + m ≤ sL σ a1 ∧ sL σ a0 < 2 ^ 31 ∧ sL σ a1 < 2 ^ 31) (hel : ∀ q, q < m → oIs (sQ σ a0 (sp + q)) σ = true) (w : wp (f (pQs a1 (va_cpy (sQ σ a0) (sQ σ a1) sp dp m) σ)) P) : wp ((oCp r0 isp r1 idp im σ).bind f) P := by
  subst hr0; subst hr1; subst e1; subst e2; subst e3
  obtain ⟨b1, b2, b3, b4⟩ := hb
  have c1 : (nI sp).toNatClampNeg = sp := nI_clamp (by omega)
  have c2 : (nI dp).toNatClampNeg = dp := nI_clamp (by omega)
  have c3 : (nI m).toNatClampNeg = m := nI_clamp (by omega)
  simp only [oCp, oK_ok hk0, oK_ok hk1, Option.bind_some, c1, c2, c3]
  rw [if_pos ⟨⟨nI_pos (by omega), nI_pos (by omega), nI_pos (by omega)⟩, b1, b2, List.all_eq_true.mpr (fun q hq => hel q (List.mem_range.mp hq))⟩]
  exact w
end WPO
section EQO
variable {β : Type} {y : Option β} {σ : PS} {E : PE} {ci k a j kd n : Nat} {r v : Option Nat} {i x : Int32}
theorem e_K {f : Nat → Option β} (hr : r = some a) (h : sK σ a = some kd) (w : f a = y) : (oK kd r σ).bind f = y := by subst hr; rw [oK_ok h]; exact w
theorem e_gi {f : Int32 → Option β} (hr : r = some a) (h : sK σ a = some ci) (w : f (sI σ ci k a) = y) : (oGi ci k r σ).bind f = y := by subst hr; rw [oGi_ok h]; exact w
theorem e_gr {f : Option Nat → Option β} (hr : r = some a) (h : sK σ a = some ci) (w : f (sR σ ci k a) = y) : (oGr ci k r σ).bind f = y := by subst hr; rw [oGr_ok h]; exact w
theorem e_pi {f : PS → Option β} (hr : r = some a) (h : sK σ a = some ci) (w : f (pI ci k a x σ) = y) : (oPi ci k r x σ).bind f = y := by subst hr; rw [oPi_ok h]; exact w
theorem e_al {f : Int32 → Option β} (hr : r = some a) (hi : i = nI j) (h : sK σ a = some 100) (hj : j < sL σ a) (hl : sL σ a < 2 ^ 31) (w : f (sA σ a j) = y) : (oAl r i σ).bind f = y := by subst hr; subst hi; rw [oAl_ok h hj hl]; exact w
theorem e_as {f : PS → Option β} (hr : r = some a) (hi : i = nI j) (h : sK σ a = some 100) (hj : j < sL σ a) (hl : sL σ a < 2 ^ 31) (w : f (pA a j x σ) = y) : (oAs r i x σ).bind f = y := by subst hr; subst hi; rw [oAs_ok h hj hl]; exact w
theorem e_ql {f : Option Nat → Option β} (hr : r = some a) (hi : i = nI j) (h : sK σ a = some 102) (hj : j < sL σ a) (hl : sL σ a < 2 ^ 31) (w : f (sQ σ a j) = y) : (oQl r i σ).bind f = y := by subst hr; subst hi; rw [oQl_ok h hj hl]; exact w
theorem e_qs {f : PS → Option β} (hr : r = some a) (hi : i = nI j) (h : sK σ a = some 102) (hj : j < sL σ a) (hl : sL σ a < 2 ^ 31) (hv : oIs v σ = true) (w : f (pQ a j v σ) = y) : (oQs r i v σ).bind f = y := by subst hr; subst hi; rw [oQs_ok h hj hl hv]; exact w
theorem e_ca {f : Unit → Option β} (hr : r = some a) (h : sK σ a = some ci) (w : f () = y) : (oCa ci r σ).bind f = y := by subst hr; rw [oCa_ok h]; exact w
theorem e_t {c : Prop} {dc : Decidable c} {x z : Option β} (hc : c) (w : x = y) : (if c then x else z) = y := by rw [if_pos hc]; exact w
theorem e_f {c : Prop} {dc : Decidable c} {x z : Option β} (hc : ¬ c) (w : z = y) : (if c then x else z) = y := by rw [if_neg hc]; exact w
end EQO
/-! what the updates change -/
theorem sI_pI (ci k a : Nat) (v : Int32) (σ : PS) (c j b : Nat) : sI (pI ci k a v σ) c j b = if c = ci ∧ j = k ∧ b = a then v else sI σ c j b := rfl
theorem sR_pR (ci k a : Nat) (v : Option Nat) (σ : PS) (c j b : Nat) : sR (pR ci k a v σ) c j b = if c = ci ∧ j = k ∧ b = a then v else sR σ c j b := rfl
theorem sA_pA (a i : Nat) (v : Int32) (σ : PS) (b j : Nat) : sA (pA a i v σ) b j = if b = a ∧ j = i then v else sA σ b j := rfl
theorem sQ_pQ (a i : Nat) (v : Option Nat) (σ : PS) (b j : Nat) : sQ (pQ a i v σ) b j = if b = a ∧ j = i then v else sQ σ b j := rfl
theorem sQ_pQs (a : Nat) (f : Nat → Option Nat) (σ : PS) (b j : Nat) : sQ (pQs a f σ) b j = if b = a then f j else sQ σ b j := rfl
theorem sK_pN (kd n : Nat) (σ : PS) (b : Nat) : sK (pN kd n σ) b = if b = sN σ then some kd else sK σ b := rfl
theorem sL_pN (kd n : Nat) (σ : PS) (b : Nat) : sL (pN kd n σ) b = if b = sN σ then n else sL σ b := rfl
theorem sI_pN (kd n : Nat) (σ : PS) (c j b : Nat) : sI (pN kd n σ) c j b = if b = sN σ then 0 else sI σ c j b := rfl
theorem sR_pN (kd n : Nat) (σ : PS) (c j b : Nat) : sR (pN kd n σ) c j b = if b = sN σ then none else sR σ c j b := rfl
theorem sA_pN (kd n : Nat) (σ : PS) (b j : Nat) : sA (pN kd n σ) b j = if b = sN σ then 0 else sA σ b j := rfl
theorem sQ_pN (kd n : Nat) (σ : PS) (b j : Nat) : sQ (pN kd n σ) b j = if b = sN σ then none else sQ σ b j := rfl
/-! FRAMES: outside X nothing of what was there is changed; kinds and lengths never -/
def Fr (σ τ : PS) (X : Nat → Prop) : Prop := sN σ ≤ sN τ ∧ sS σ ≤ sS τ ∧ (∀ b, b < sN σ → sK τ b = sK σ b) ∧ (∀ b, b < sN σ → sL τ b = sL σ b) ∧ ∀ b, b < sN σ → ¬ X b → dEq σ τ b
theorem dEq.rf {σ : PS} {b : Nat} : dEq σ σ b := ⟨rfl, fun _ _ => rfl, fun _ _ => rfl, fun _ => rfl, fun _ => rfl, fun _ => rfl⟩
theorem dEq.tr {σ τ ρ : PS} {b : Nat} (h : dEq σ τ b) (k : dEq τ ρ b) : dEq σ ρ b := ⟨k.1.trans h.1, fun c j => (k.2.1 c j).trans (h.2.1 c j), fun c j => (k.2.2.1 c j).trans (h.2.2.1 c j), fun j => (k.2.2.2.1 j).trans (h.2.2.2.1 j), fun j => (k.2.2.2.2.1 j).trans (h.2.2.2.2.1 j), fun j => (k.2.2.2.2.2 j).trans (h.2.2.2.2.2 j)⟩
theorem Fr.rf {σ : PS} {X : Nat → Prop} : Fr σ σ X := ⟨Nat.le_refl _, Nat.le_refl _, fun _ _ => rfl, fun _ _ => rfl, fun _ _ _ => dEq.rf⟩
theorem Fr.tr {σ τ ρ : PS} {X Y Z : Nat → Prop} (h : Fr σ τ X) (k : Fr τ ρ Y) (hX : ∀ b, b < sN σ → X b → Z b) (hY : ∀ b, b < sN σ → Y b → Z b) : Fr σ ρ Z :=
  ⟨Nat.le_trans h.1 k.1, Nat.le_trans h.2.1 k.2.1, fun b hb => (k.2.2.1 b (Nat.lt_of_lt_of_le hb h.1)).trans (h.2.2.1 b hb), fun b hb => (k.2.2.2.1 b (Nat.lt_of_lt_of_le hb h.1)).trans (h.2.2.2.1 b hb), fun b hb hz => (h.2.2.2.2 b hb (fun x => hz (hX b hb x))).tr (k.2.2.2.2 b (Nat.lt_of_lt_of_le hb h.1) (fun y => hz (hY b hb y)))⟩
theorem Fr.wk {σ τ : PS} {X Y : Nat → Prop} (h : Fr σ τ X) (k : ∀ b, b < sN σ → X b → Y b) : Fr σ τ Y := ⟨h.1, h.2.1, h.2.2.1, h.2.2.2.1, fun b hb hy => h.2.2.2.2 b hb (fun x => hy (k b hb x))⟩
theorem Fr.pI {ci k a : Nat} {v : Int32} {σ : PS} : Fr σ (pI ci k a v σ) (fun b => b = a) := ⟨Nat.le_refl _, Nat.le_refl _, fun _ _ => rfl, fun _ _ => rfl, fun _ _ h => dEq_pI h⟩
theorem Fr.pR {ci k a : Nat} {v : Option Nat} {σ : PS} : Fr σ (pR ci k a v σ) (fun b => b = a) := ⟨Nat.le_refl _, Nat.le_refl _, fun _ _ => rfl, fun _ _ => rfl, fun _ _ h => dEq_pR h⟩
theorem Fr.pA {a i : Nat} {v : Int32} {σ : PS} : Fr σ (pA a i v σ) (fun b => b = a) := ⟨Nat.le_refl _, Nat.le_refl _, fun _ _ => rfl, fun _ _ => rfl, fun _ _ h => dEq_pA h⟩
theorem Fr.pQ {a i : Nat} {v : Option Nat} {σ : PS} : Fr σ (pQ a i v σ) (fun b => b = a) := ⟨Nat.le_refl _, Nat.le_refl _, fun _ _ => rfl, fun _ _ => rfl, fun _ _ h => dEq_pQ h⟩
theorem Fr.pQs {a : Nat} {f : Nat → Option Nat} {σ : PS} : Fr σ (pQs a f σ) (fun b => b = a) := ⟨Nat.le_refl _, Nat.le_refl _, fun _ _ => rfl, fun _ _ => rfl, fun _ _ h => dEq_pQs h⟩
theorem Fr.pN {kd n : Nat} {σ : PS} {X : Nat → Prop} : Fr σ (pN kd n σ) X := by
  refine ⟨Nat.le_succ _, Nat.le_add_right _ _, fun b hb => ?_, fun b hb => ?_, fun b hb _ => ⟨?_, fun c j => ?_, fun c j => ?_, fun j => ?_, fun j => ?_, fun j => ?_⟩⟩
  · rw [sK_pN, if_neg (by omega)]
  · rw [sL_pN, if_neg (by omega)]
  · rw [sL_pN, if_neg (by omega)]
  · rw [sI_pN, if_neg (by omega)]
  · rw [sR_pN, if_neg (by omega)]
  · rw [sA_pN, if_neg (by omega)]
  · rw [sQ_pN, if_neg (by omega)]
  · show (if b = sN σ then 0 else sJ σ b j) = _
    rw [if_neg (by omega)]
/-- which kind of thing a field holds -/
def tyK (c k : Nat) : Nat := match c with
  | 0 => 102
  | 1 => if k = 0 then 0 else 100
  | 3 => if k = 0 then 0 else 5
  | 6 => if k < 4 then 0 else if k = 4 then 1 else 4
  | _ => 100
/-- the state's own order: what has a kind is below the next place; the lists' empty row is none of ours; a field holds what it should; no two fields hold the same thing -/
def Wf (E : PE) (σ : PS) : Prop := (∀ b k, sK σ b = some k → b < sN σ) ∧ (∀ k, sK σ E.2.2.2.1 ≠ some k) ∧ E.2.2.2.1 < sN σ ∧ (∀ c k a d, sK σ a = some c → sR σ c k a = some d → d = E.2.2.2.1 ∨ sK σ d = some (tyK c k)) ∧ ∀ c k a c' k' a' d, sK σ a = some c → sK σ a' = some c' → sR σ c k a = some d → sR σ c' k' a' = some d → d ≠ E.2.2.2.1 → c = c' ∧ k = k' ∧ a = a'
theorem Wf.lt {E : PE} {σ : PS} (h : Wf E σ) {b k : Nat} (hk : sK σ b = some k) : b < sN σ := h.1 b k hk
theorem Wf.nd {E : PE} {σ : PS} (h : Wf E σ) {b k : Nat} (hk : sK σ b = some k) : b ≠ E.2.2.2.1 := fun e => h.2.1 k (e ▸ hk)
theorem Wf.ty {E : PE} {σ : PS} (h : Wf E σ) {c k a d kd : Nat} (hk : sK σ a = some c) (hr : sR σ c k a = some d) (hd : sK σ d = some kd) : kd = tyK c k := by
  rcases h.2.2.2.1 c k a d hk hr with e | e
  · exact absurd e (h.nd hd)
  · exact Option.some.inj (hd.symm.trans e)
theorem Wf.uo {E : PE} {σ : PS} (h : Wf E σ) {c k a c' k' a' d kd : Nat} (hk : sK σ a = some c) (hk' : sK σ a' = some c') (hr : sR σ c k a = some d) (hr' : sR σ c' k' a' = some d) (hd : sK σ d = some kd) : c = c' ∧ k = k' ∧ a = a' := h.2.2.2.2 c k a c' k' a' d hk hk' hr hr' (h.nd hd)
theorem Fr.k {σ τ : PS} {X : Nat → Prop} {E : PE} (h : Fr σ τ X) (hw : Wf E σ) {b k : Nat} (hk : sK σ b = some k) : sK τ b = some k := (h.2.2.1 b (hw.lt hk)).trans hk
/-- kinds and references as they were -/
theorem Wf.same {E : PE} {σ τ : PS} (h : Wf E σ) (hn : sN τ = sN σ) (hk : sK τ = sK σ) (hr : sR τ = sR σ) : Wf E τ := by
  obtain ⟨h1, h2, h3, h4, h5⟩ := h
  unfold Wf
  rw [hn, hk, hr]
  exact ⟨h1, h2, h3, h4, h5⟩
theorem Wf.pN {E : PE} {σ : PS} (h : Wf E σ) (kd n : Nat) : Wf E (pN kd n σ) := by
  obtain ⟨h1, h2, h3, h4, h5⟩ := h
  have old : ∀ {a c k d : Nat}, sK (Jvm.Pilot.@@N@@.pN kd n σ) a = some c → sR (Jvm.Pilot.@@N@@.pN kd n σ) c k a = some d → sK σ a = some c ∧ sR σ c k a = some d := by
    intro a c k d e1 e2
    rw [sK_pN] at e1
    rw [sR_pN] at e2
    by_cases e : a = sN σ
    · rw [if_pos e] at e2; cases e2
    · rw [if_neg e] at e1 e2; exact ⟨e1, e2⟩
  refine ⟨fun b k hb => ?_, fun k hk => ?_, Nat.lt_succ_of_lt h3, fun c k a d e1 e2 => ?_, fun c k a c' k' a' d e1 e1' e2 e2' hd => ?_⟩
  · rw [sK_pN] at hb
    show b < sN σ + 1
    by_cases e : b = sN σ
    · omega
    · rw [if_neg e] at hb
      have := h1 b k hb
      omega
  · rw [sK_pN, if_neg (by omega)] at hk
    exact h2 k hk
  · obtain ⟨g1, g2⟩ := old e1 e2
    rcases h4 c k a d g1 g2 with e | e
    · exact Or.inl e
    · right
      have := h1 _ _ e
      rw [sK_pN, if_neg (by omega)]
      exact e
  · obtain ⟨g1, g2⟩ := old e1 e2
    obtain ⟨g1', g2'⟩ := old e1' e2'
    exact h5 c k a c' k' a' d g1 g1' g2 g2' hd
/-- a thing that no field holds comes into one -/
theorem Wf.pR {E : PE} {σ : PS} (h : Wf E σ) {ci k a d : Nat} (hk : sK σ a = some ci) (hd : d = E.2.2.2.1 ∨ (sK σ d = some (tyK ci k) ∧ ∀ c k' a', sK σ a' = some c → sR σ c k' a' ≠ some d)) : Wf E (pR ci k a (some d) σ) := by
  obtain ⟨h1, h2, h3, h4, h5⟩ := h
  refine ⟨h1, h2, h3, fun c k2 b d2 e1 e2 => ?_, fun c k2 b c' k2' b' d2 e1 e1' e2 e2' hne => ?_⟩
  · have e1 : sK σ b = some c := e1
    rw [sR_pR] at e2
    by_cases e : c = ci ∧ k2 = k ∧ b = a
    · rw [if_pos e] at e2
      obtain ⟨rfl, rfl, rfl⟩ := e
      cases e2
      rcases hd with hd | hd
      · exact Or.inl hd
      · exact Or.inr hd.1
    · rw [if_neg e] at e2
      exact h4 c k2 b d2 e1 e2
  · have e1 : sK σ b = some c := e1
    have e1' : sK σ b' = some c' := e1'
    rw [sR_pR] at e2 e2'
    by_cases e : c = ci ∧ k2 = k ∧ b = a
    · by_cases e' : c' = ci ∧ k2' = k ∧ b' = a
      · obtain ⟨rfl, rfl, rfl⟩ := e
        obtain ⟨rfl, rfl, rfl⟩ := e'
        exact ⟨rfl, rfl, rfl⟩
      · rw [if_pos e] at e2
        rw [if_neg e'] at e2'
        cases e2
        rcases hd with hd | hd
        · exact absurd hd hne
        · exact absurd e2' (hd.2 c' k2' b' e1')
    · by_cases e' : c' = ci ∧ k2' = k ∧ b' = a
      · rw [if_neg e] at e2
        rw [if_pos e'] at e2'
        cases e2'
        rcases hd with hd | hd
        · exact absurd hd hne
        · exact absurd e2 (hd.2 c k2 b e1)
      · rw [if_neg e] at e2
        rw [if_neg e'] at e2'
        exact h5 c k2 b c' k2' b' d2 e1 e1' e2 e2' hne
/-- a new thing is no field's -/
theorem Wf.fresh {E : PE} {σ : PS} (h : Wf E σ) (kd n : Nat) : ∀ c k a, sK (Jvm.Pilot.@@N@@.pN kd n σ) a = some c → sR (Jvm.Pilot.@@N@@.pN kd n σ) c k a ≠ some (sN σ) := by
  intro c k a e1 e2
  rw [sK_pN] at e1
  rw [sR_pN] at e2
  by_cases e : a = sN σ
  · rw [if_pos e] at e2; cases e2
  · rw [if_neg e] at e1 e2
    rcases h.2.2.2.1 c k a _ e1 e2 with e3 | e3
    · have := h.2.2.1; omega
    · have := h.lt e3; omega
