/-! a method's start, and stores into locals -/
def lvA : Nat → List Value → List Nat → List (Nat × Value)
  | i, v :: vs, c :: cs => (i, v) :: lvA (if c = 2 then i + 2 else i + 1) vs cs
  | _, _, _ => []
theorem lvA_eq : ∀ (vs : List Value) (cs : List Nat) (i : Nat), vs.map (fun v => v.category) = cs → lv_args i vs = lvA i vs cs
  | [], cs, i, _ => by cases cs <;> rfl
  | v :: vs, [], i, h => by simp at h
  | v :: vs, c :: cs, i, h => by
    simp only [List.map_cons, List.cons.injEq] at h
    obtain ⟨h1, h2⟩ := h
    show (i, v) :: lv_args (if v.category = 2 then i + 2 else i + 1) vs = (i, v) :: lvA (if c = 2 then i + 2 else i + 1) vs cs
    rw [h1, lvA_eq vs cs _ h2]
theorem lg_len : ∀ (vs : List Value) (cs : List Nat), vs.map (fun v => v.category) = cs → (lg_sl vs).length = (cs.map (fun c => if c = 2 then 2 else 1)).sum
  | [], cs, h => by cases h; rfl
  | v :: vs, [], h => by simp at h
  | v :: vs, c :: cs, h => by
    simp only [List.map_cons, List.cons.injEq] at h
    obtain ⟨h1, h2⟩ := h
    have ih := lg_len vs cs h2
    have e : lg_sl (v :: vs) = (if v.category = 2 then [Slot.val v, Slot.second] else [Slot.val v]) ++ lg_sl vs := rfl
    rw [e, List.length_append, ih, h1, List.map_cons, List.sum_cons]
    by_cases hc : c = 2
    · rw [if_pos hc, if_pos hc]; rfl
    · rw [if_neg hc, if_neg hc]; rfl
theorem Ct.of {l : Launch} {D : va_G} {G : GC} {base : Nat} {E : PE} {y : MethodName} {ws ws' : List Cond} {fr lo : Nat} {av : List Value} {σ : PS} {ov : Option Value} {τ : PS} {cc : ByteArray} {maxL : Nat} {ret : Option FieldType} {own : String} (cs : List Nat) (hy : plainName y.cls = true) (hw : ws = Cond.code y cc maxL ret :: ws') (hown : y.cls = own) (hmo : sN σ ≤ sN τ ∧ sS σ ≤ sS τ ∧ sN τ ≤ E.2.1 ∧ sS τ ≤ E.2.2.1) (hcs : av.map (fun v => v.category) = cs) (hle : (cs.map (fun c => if c = 2 then 2 else 1)).sum ≤ maxL)
    (body : ∀ (p : Program) (e : Env) (s : State) (m : MethodId) (below : List Frame) (meth : Method) (c : Code) (R : Room) (Q : State → Prop) (ls : Array Slot) (H : Heap) (locs : List Loc) (cells slots : Nat), CallFix p m c cc maxL s av.toArray ws own → Kn D G base E s → (R.cells = E.2.1 - sN σ ∧ R.slots = E.2.2.1 - sS σ) → R.frames = fr → R.locals = lo → meth.locks = false → meth.sig.returnType = ret → meth.name = y.name → Q = MQ below (fun _ st oc t => oc = .returned ov ∧ Rp D G base τ t.heap ∧ va_F (fun q => base ≤ q) st t) av.toArray s (sN τ - sN σ) (sS τ - sS σ) (fun q => base ≤ q) → Dy D G base E s.heap σ σ H locs cells slots → lv_has ls maxL (lvA 0 av cs) → W p l e R s m av.toArray below meth c H locs cells slots Q (F0 m 0 ls [])) : Ct l D G base E y ws fr lo av σ ov τ := by
  refine Met.ofW (cc := cc) (maxL := maxL) (ret := ret) hy hw ?_
  intro p e s m args below meth c s₁ B hml hv
  obtain ⟨rfl, hRp, hKn⟩ := hv
  have hts := atoms_spec (ws := ws) B.pre
  have hownC : s.vm.findClass own = some m.cls := by rw [← hown]; exact findClass_of_methodNamed B.named
  have hl := lv_entry av (n := maxL) (by rw [lg_len av cs hcs]; exact hle)
  rw [lvA_eq av cs 0 hcs] at hl
  rw [lg_entry_eq]
  exact body p e s m below meth c _ _ _ _ _ _ _ ⟨B.exec, B.bytes, hml, hownC, hts⟩ hKn ⟨rfl, rfl⟩ rfl rfl B.notSynchronized B.returns (name_of_methodNamed B.named B.method).1 rfl ⟨hRp, va_S.rf, rfl, rfl, by omega, by omega⟩ hl
theorem st_flt {lv : List (Nat × Value)} {i : Nat} (h : ∀ q ∈ lv, q.1 + 1 = i → q.2.category = 1) : lv.filter (fun q => !(q.1 == i) && !(q.1 + 1 == i && q.2.category == 2)) = lv.filter (fun q => !(q.1 == i)) := by
  refine List.filter_congr (fun q hq => ?_)
  by_cases e : q.1 + 1 = i
  · rw [h q hq e]; simp
  · have : (q.1 + 1 == i) = false := by simpa using e
    rw [this]; simp
section HS
variable {p : Program} {l : Launch} {e : Env} {R : Room} {s : State} {m : MethodId} {args : Array Value} {below : List Frame} {meth : Method} {c : Code} {H : Heap} {locs : List Loc} {cells slots : Nat} {Q : State → Prop}
variable {cc : ByteArray} {pc : Nat} {ls : Array Slot} {rest : List Value} {i nL : Nat} {x : Int32} {r : Option Nat} {lv lv' : List (Nat × Value)}
theorem hs_istore_n {k : Fin 4} (hx : p.tables.exec = Jvm.exec) (hb : c.code = cc) (hdg : decode cc pc = .ok (.istore_n k, 1)) (hi : (k : Nat) = i) (h : lv_has ls nL lv) (hn : i < nL) (hc : ∀ q ∈ lv, q.1 + 1 = i → q.2.category = 1) (hl : (i, Value.int x) :: lv.filter (fun q => !(q.1 == i)) = lv')
    (kk : ∀ ls' : Array Slot, lv_has ls' nL lv' → W p l e R s m args below meth c H locs cells slots Q (F0 m (pc + 1) ls' rest)) : W p l e R s m args below meth c H locs cells slots Q (F0 m pc ls (.int x :: rest)) := lv_istore_n hx hb hdg hi h hn (by rw [st_flt hc]; exact hl) kk
theorem hs_istore (hx : p.tables.exec = Jvm.exec) (hb : c.code = cc) (hdg : decode cc pc = .ok (.istore i, 2)) (h : lv_has ls nL lv) (hn : i < nL) (hc : ∀ q ∈ lv, q.1 + 1 = i → q.2.category = 1) (hl : (i, Value.int x) :: lv.filter (fun q => !(q.1 == i)) = lv')
    (kk : ∀ ls' : Array Slot, lv_has ls' nL lv' → W p l e R s m args below meth c H locs cells slots Q (F0 m (pc + 2) ls' rest)) : W p l e R s m args below meth c H locs cells slots Q (F0 m pc ls (.int x :: rest)) := lv_istore hx hb hdg h hn (by rw [st_flt hc]; exact hl) kk
theorem hs_astore_n {k : Fin 4} (hx : p.tables.exec = Jvm.exec) (hb : c.code = cc) (hdg : decode cc pc = .ok (.astore_n k, 1)) (hi : (k : Nat) = i) (h : lv_has ls nL lv) (hn : i < nL) (hc : ∀ q ∈ lv, q.1 + 1 = i → q.2.category = 1) (hl : (i, va_rf r) :: lv.filter (fun q => !(q.1 == i)) = lv')
    (kk : ∀ ls' : Array Slot, lv_has ls' nL lv' → W p l e R s m args below meth c H locs cells slots Q (F0 m (pc + 1) ls' rest)) : W p l e R s m args below meth c H locs cells slots Q (F0 m pc ls (va_rf r :: rest)) := hw_astore_n hx hb hdg hi h hn (by rw [st_flt hc]; exact hl) kk
theorem hs_astore (hx : p.tables.exec = Jvm.exec) (hb : c.code = cc) (hdg : decode cc pc = .ok (.astore i, 2)) (h : lv_has ls nL lv) (hn : i < nL) (hc : ∀ q ∈ lv, q.1 + 1 = i → q.2.category = 1) (hl : (i, va_rf r) :: lv.filter (fun q => !(q.1 == i)) = lv')
    (kk : ∀ ls' : Array Slot, lv_has ls' nL lv' → W p l e R s m args below meth c H locs cells slots Q (F0 m (pc + 2) ls' rest)) : W p l e R s m args below meth c H locs cells slots Q (F0 m pc ls (va_rf r :: rest)) := hw_astore hx hb hdg h hn (by rw [st_flt hc]; exact hl) kk
theorem hs_iinc {k : Nat} {n : Int} {v : Int32} (hx : p.tables.exec = Jvm.exec) (hb : c.code = cc) (hdg : decode cc pc = .ok (.iinc i n, 3)) (h : lv_has ls nL lv) (hk : lv[k]? = some (i, .int x)) (hv : x + Int32.ofInt n = v) (hn : i < nL) (hc : ∀ q ∈ lv, q.1 + 1 = i → q.2.category = 1) (hl : (i, Value.int v) :: lv.filter (fun q => !(q.1 == i)) = lv')
    (kk : ∀ ls' : Array Slot, lv_has ls' nL lv' → W p l e R s m args below meth c H locs cells slots Q (F0 m (pc + 3) ls' rest)) : W p l e R s m args below meth c H locs cells slots Q (F0 m pc ls rest) := lv_iinc hx hb hdg h hk hv hn (by rw [st_flt hc]; exact hl) kk
theorem hs_null (hx : p.tables.exec = Jvm.exec) (hb : c.code = cc) (hdg : decode cc pc = .ok (.aconst_null, 1)) (kk : W p l e R s m args below meth c H locs cells slots Q (F0 m (pc + 1) ls (va_rf none :: rest))) : W p l e R s m args below meth c H locs cells slots Q (F0 m pc ls rest) := lv_null hx hb hdg kk
end HS
theorem st_ok0 {i : Nat} : ∀ q ∈ ([] : List (Nat × Value)), q.1 + 1 = i → q.2.category = 1 := fun _ h => by cases h
theorem st_okI {lv : List (Nat × Value)} {i j : Nat} {x : Int32} (h : ∀ q ∈ lv, q.1 + 1 = i → q.2.category = 1) : ∀ q ∈ (j, Value.int x) :: lv, q.1 + 1 = i → q.2.category = 1 := fun q hq e => by
  rcases List.mem_cons.mp hq with rfl | hq
  · rfl
  · exact h q hq e
theorem st_okR {lv : List (Nat × Value)} {i j : Nat} {r : Option Nat} (h : ∀ q ∈ lv, q.1 + 1 = i → q.2.category = 1) : ∀ q ∈ (j, va_rf r) :: lv, q.1 + 1 = i → q.2.category = 1 := fun q hq e => by
  rcases List.mem_cons.mp hq with rfl | hq
  · exact va_rf_cat r
  · exact h q hq e
theorem st_okJ {lv : List (Nat × Value)} {i j : Nat} {x : Int64} (hj : (j + 1 == i) = false) (h : ∀ q ∈ lv, q.1 + 1 = i → q.2.category = 1) : ∀ q ∈ (j, Value.long x) :: lv, q.1 + 1 = i → q.2.category = 1 := fun q hq e => by
  rcases List.mem_cons.mp hq with rfl | hq
  · simp at hj; exact absurd e hj
  · exact h q hq e
theorem tb_out {x : Int32} {n : Nat} (hn : n < 1000) (h : ∀ k : Nat, k ≤ n → x ≠ nI k) : x.toInt < 0 ∨ (n : Int) < x.toInt := by
  by_cases h0 : x < 0
  · left
    simpa using Int32.lt_iff_toInt_lt.mp h0
  · obtain ⟨j, hj, rfl⟩ := nI_of h0
    right
    rw [nI_toInt hj]
    by_cases hl : j ≤ n
    · exact absurd rfl (h j hl)
    · omega
section HZ
variable {p : Program} {l : Launch} {e : Env} {R : Room} {s : State} {m : MethodId} {args : Array Value} {below : List Frame} {meth : Method} {c : Code} {H : Heap} {locs : List Loc} {cells slots : Nat} {Q : State → Prop}
variable {cc : ByteArray} {pc : Nat} {ls : Array Slot} {rest : List Value} {x y z : Int32}
theorem hs_idiv (hx : p.tables.exec = Jvm.exec) (hb : c.code = cc) (ho : oDv x y = some z) (hdg : decode cc pc = .ok (.idiv, 1)) (kk : W p l e R s m args below meth c H locs cells slots Q (F0 m (pc + 1) ls (.int z :: rest))) : W p l e R s m args below meth c H locs cells slots Q (F0 m pc ls (.int y :: .int x :: rest)) := by
  obtain ⟨h1, rfl⟩ := oDv_of ho
  exact lv_idiv hx hb hdg h1 kk
theorem hs_irem (hx : p.tables.exec = Jvm.exec) (hb : c.code = cc) (ho : oRm x y = some z) (hdg : decode cc pc = .ok (.irem, 1)) (kk : W p l e R s m args below meth c H locs cells slots Q (F0 m (pc + 1) ls (.int z :: rest))) : W p l e R s m args below meth c H locs cells slots Q (F0 m pc ls (.int y :: .int x :: rest)) := by
  obtain ⟨h1, rfl⟩ := oRm_of ho
  exact lv_irem hx hb hdg h1 kk
end HZ
theorem ret_eq {α : Type} {a b : α} {σ τ : PS} (h : some (a, σ) = some (b, τ)) : a = b ∧ σ = τ := by cases h; exact ⟨rfl, rfl⟩
theorem nar_z {x : Int32} (h : x = 0 ∨ x = 1) : narrow .boolean (.int x) = .int x := by rcases h with rfl | rfl <;> decide
theorem cs_0 : (([] : List Value).map fun v => v.category).sum ≤ 0 := Nat.le_refl 0
theorem cs_I {st : List Value} {n : Nat} {x : Int32} (h : (st.map fun v => v.category).sum ≤ n) : ((Value.int x :: st).map fun v => v.category).sum ≤ n + 1 := by
  rw [List.map_cons, List.sum_cons]
  have : (Value.int x).category = 1 := rfl
  omega
theorem cs_A {st : List Value} {n : Nat} {r : Option Nat} (h : (st.map fun v => v.category).sum ≤ n) : ((va_rf r :: st).map fun v => v.category).sum ≤ n + 1 := by
  rw [List.map_cons, List.sum_cons]
  have := va_rf_cat r
  omega
theorem cs_J {st : List Value} {n : Nat} {x : Int64} (h : (st.map fun v => v.category).sum ≤ n) : ((Value.long x :: st).map fun v => v.category).sum ≤ n + 2 := by
  rw [List.map_cons, List.sum_cons]
  have : (Value.long x).category = 2 := rfl
  omega
theorem ct_0 : ([] : List Value).map (fun v => v.category) = [] := rfl
theorem ct_I {vs : List Value} {cs : List Nat} {x : Int32} (h : vs.map (fun v => v.category) = cs) : (Value.int x :: vs).map (fun v => v.category) = 1 :: cs := by rw [List.map_cons, h]; rfl
theorem ct_J {vs : List Value} {cs : List Nat} {x : Int64} (h : vs.map (fun v => v.category) = cs) : (Value.long x :: vs).map (fun v => v.category) = 2 :: cs := by rw [List.map_cons, h]; rfl
theorem ct_R {vs : List Value} {cs : List Nat} {a : Nat} (h : vs.map (fun v => v.category) = cs) : (Value.ref a :: vs).map (fun v => v.category) = 1 :: cs := by rw [List.map_cons, h]; rfl
theorem ct_A {vs : List Value} {cs : List Nat} {r : Option Nat} (h : vs.map (fun v => v.category) = cs) : (va_rf r :: vs).map (fun v => v.category) = 1 :: cs := by rw [List.map_cons, h, va_rf_cat]
