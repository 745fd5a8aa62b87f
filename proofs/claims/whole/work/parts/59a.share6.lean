/-! share -/
def shAll (a b : List Nat) : Nat := (a.length - 2) + (b.length - 2) - commonN a b
def aShare (v w : Int32) (st : AS) : Option Int32 := if v < 0 ∨ nI st.1 ≤ v then some (-1) else if w < 0 ∨ nI st.1 ≤ w then some (-1) else
  if shAll (st.2.2.1 (cl v)) (st.2.2.1 (cl w)) = 0 then none else some (nI (100 * commonN (st.2.2.1 (cl v)) (st.2.2.1 (cl w)) / shAll (st.2.2.1 (cl v)) (st.2.2.1 (cl w))))
theorem sm_mono {f g : Nat → Nat} (h : ∀ i, f i ≤ g i) : ∀ n, sm f n ≤ sm g n
  | 0 => Nat.le_refl _
  | n + 1 => Nat.add_le_add (sm_mono h n) (h n)
theorem common_le1 (a b : List Nat) : commonN a b ≤ a.length - 2 := by
  rw [← sm_marks a]
  exact sm_mono (fun i => Nat.min_le_left _ _) 32
theorem sh_alg (a b c : Int32) : a - c + b = a + b - c := by
  rw [Int32.sub_eq_add_neg, Int32.sub_eq_add_neg, Int32.add_assoc, Int32.add_assoc, Int32.add_comm (-c) b]
section MBS
variable {E : PE} {σ0 σ : PS} {m : Nat} {Ma : Nat → Nat} {I : Nat → Int32} {X : Nat → Nat → Int32} {β : Type} {n : Nat} {kd : Nat → Nat} {bs bo : Nat → List Nat} {S : Option PK}
theorem sp_sh37 {a b C : Nat} {v3 : Int32} {P : Int32 → PS → Prop} (h : MB E σ0 σ m Ma I X) (hm : MK bs X a b)
    (kk : wp (f_X6_share_B81 E v3 (nI (sm (fun j => marks (bs a) j + marks (bs b) j) 32) - nI C) (some m) (if nI (sm (fun j => marks (bs a) j + marks (bs b) j) 32) - nI C = 0 then 1 else 0) σ) P) : ∀ (c f i : Nat), 32 = i + c → c < f → wp (f_X6_share_L37 E f (some m) v3 (nI (sm (fun j => marks (bs a) j + marks (bs b) j) i) - nI C) (nI i) σ) P
  | 0, f, i, hc, hf => by
    obtain ⟨f, rfl⟩ : ∃ z, f = z + 1 := ⟨f - 1, by omega⟩
    have hi : i = 32 := by omega
    subst hi
    rw [f_X6_share_L37]
    refine wp_t (show nI 32 ≤ nI 32 from Int32.le_refl _) ?_
    by_cases z : nI (sm (fun j => marks (bs a) j + marks (bs b) j) 32) - nI C = 0
    · rw [if_pos z] at kk ⊢
      exact kk
    · rw [if_neg z] at kk ⊢
      exact kk
  | c + 1, f, i, hc, hf => by
    obtain ⟨f, rfl⟩ : ∃ z, f = z + 1 := ⟨f - 1, by omega⟩
    rw [f_X6_share_L37]
    refine wp_f (show ¬ nI 32 ≤ nI i from nI_ge (by omega) (by omega)) (wm_gr h (by decide) (wm_al h (by decide) rfl (by show i < 32; omega) (wm_gr h (by decide) (wm_al h (by decide) rfl (by show i < 32; omega) ?_))))
    rw [(hm i (by omega)).1, (hm i (by omega)).2, sh_alg, nI_add, nI_add, nI_1]
    exact sp_sh37 h hm kk c f (i + 1) (by omega) (by omega)
theorem sp_share6 (hE : 1000 ≤ E.1) (hO : Ok E σ) (hA : AST (n, kd, bs, S)) (h : MB E σ σ m Ma I X) (hv : MV (n, kd, bs, S) I X) (v w : Int32) : wp (f_X6_share E (some m) v w σ) (fun r τ => ∃ I' X', MB E σ τ m Ma I' X' ∧ MV (n, kd, bs, S) I' X' ∧ ((∃ a, aShare v w (n, kd, bs, S) = some a ∧ r = a ∧ I' 17 = 0) ∨ (aShare v w (n, kd, bs, S) = none ∧ I' 17 = 1))) := by
  have hn : n ≤ 30 := hA.1.1
  refine wm_oM h hO (fun _ _ q => by obtain ⟨I', X', q, -⟩ := q; exact ⟨_, _, q⟩) ?_
  unfold g_X6_share f_X6_share_B21
  refine wm_pi h (fun s1 h1 => ?_)
  have hv1 : MV (n, kd, bs, S) (up I 17 0) X := hv.ko (fun k hk => up_n (by omega)) (fun _ _ => rfl)
  have e17 : up I 17 0 17 = 0 := up_s
  generalize up I 17 0 = I1 at h1 hv1 e17
  refine wm_K h1 (wp_rd (sp_isEntry6 h1 hO hn hv1.1.1 v) ?_)
  unfold aShare
  rcases in2 v (L := n) (by omega) with ⟨e1, e2⟩ | ⟨e1, e2, a, ha, rfl⟩
  · rw [if_pos e1, if_pos e1]; exact wp_t rfl (wp_ret ⟨I1, X, h1, hv1, Or.inl ⟨-1, rfl, rfl, e17⟩⟩)
  · rw [if_neg e1, if_neg e1]
    refine wp_f ne01 (wm_K h1 (wp_rd (sp_isEntry6 h1 hO hn hv1.1.1 w) ?_))
    rcases in2 w (L := n) (by omega) with ⟨d1, d2⟩ | ⟨d1, d2, b, hb, rfl⟩
    · rw [if_pos d1, if_pos d1]; exact wp_t rfl (wp_ret ⟨I1, X, h1, hv1, Or.inl ⟨-1, rfl, rfl, e17⟩⟩)
    · rw [if_neg d1, if_neg d1, cl_nI (show a < 2 ^ 31 by omega), cl_nI (show b < 2 ^ 31 by omega)]
      refine wp_f ne01 (wm_K h1 (wp_bd (sp_commonOf hE hO hA.1 ha hb h1 hv1.1) ?_))
      rintro r s ⟨g1, g2, rfl, h2, hmk⟩
      have hv2 : MV (n, kd, bs, S) I1 (up (up X 15 g1) 16 g2) := hv1.ko (fun _ _ => rfl) (fun k hk => sc_n hk)
      generalize up (up X 15 g1) 16 g2 = X2 at h2 hmk hv2
      have hca := common_le1 (bs a) (bs b)
      have hla : (bs a).length ≤ 60 := (hA.1.2 a ha).2.1
      have hlb : (bs b).length ≤ 60 := (hA.1.2 b hb).2.1
      have es : sm (fun j => marks (bs a) j + marks (bs b) j) 32 = ((bs a).length - 2) + ((bs b).length - 2) := by rw [sm_add, sm_marks, sm_marks]
      have e0 : -nI (commonN (bs a) (bs b)) = nI (sm (fun j => marks (bs a) j + marks (bs b) j) 0) - nI (commonN (bs a) (bs b)) := (Int32.zero_sub _).symm
      rw [e0]
      refine sp_sh37 h2 hmk ?_ 32 E.1 0 (by omega) (by omega)
      rw [es, pk_sub (by omega)]
      show wp (f_X6_share_B81 E _ (nI (shAll (bs a) (bs b))) (some m) (if nI (shAll (bs a) (bs b)) = 0 then 1 else 0) s) _
      have hsl : shAll (bs a) (bs b) ≤ 200 := by unfold shAll; omega
      unfold f_X6_share_B81 f_X6_share_B100
      by_cases z : shAll (bs a) (bs b) = 0
      · have zn : nI (shAll (bs a) (bs b)) = 0 := by rw [z]; rfl
        rw [if_pos zn]
        refine wm_pi h2 (fun s3 h3 => wp_t zn (wp_ret ⟨_, X2, h3, hv2.ko (fun k hk => up_n (by omega)) (fun _ _ => rfl), Or.inr ⟨if_pos z, up_s⟩⟩))
      · have zn : ¬ nI (shAll (bs a) (bs b)) = 0 := fun y => z ((nI_eq (b := 0) (by omega) (by omega)).mp y)
        rw [if_neg zn]
        refine wm_pi h2 (fun s3 h3 => wp_f zn ?_)
        have e100 : (100 : Int32) * nI (commonN (bs a) (bs b)) = nI (100 * commonN (bs a) (bs b)) := pk_mul 100 _
        have ed : oDv ((100 : Int32) * nI (commonN (bs a) (bs b))) (nI (shAll (bs a) (bs b))) = some (nI (100 * commonN (bs a) (bs b) / shAll (bs a) (bs b))) := by
          rw [e100]
          unfold oDv
          rw [if_neg zn, pk_div (by omega) (by omega) (by omega)]
        rw [ed]
        exact wp_ret ⟨_, X2, h3, hv2.ko (fun k hk => up_n (by omega)) (fun _ _ => rfl), Or.inl ⟨_, if_neg z, rfl, up_s⟩⟩
theorem sp_thrown (hO : Ok E σ0) (h : MB E σ0 σ m Ma I X) : f_X6_thrown E (some m) σ = some (I 17, σ) := by
  refine oM_rd (h.ok hO) ?_
  unfold g_X6_thrown
  exact em_gi h rfl
end MBS
