/-! rows of the law's own walk -/
theorem st_okS {lv : List (Nat × Value)} {i j b : Nat} (h : ∀ q ∈ lv, q.1 + 1 = i → q.2.category = 1) : ∀ q ∈ (j, Value.ref b) :: lv, q.1 + 1 = i → q.2.category = 1 := fun q hq e => by
  rcases List.mem_cons.mp hq with rfl | hq
  · rfl
  · exact h q hq e
section HL
variable {p : Program} {l : Launch} {e : Env} {R : Room} {s : State} {m : MethodId} {args : Array Value} {below : List Frame} {meth : Method} {c : Code} {H : Heap} {locs : List Loc} {cells slots : Nat} {Q : State → Prop}
variable {cc : ByteArray} {pc : Nat} {ls : Array Slot} {rest : List Value} {D : va_G} {G : GC} {base : Nat} {E : PE} {σ σ0 τ : PS} {b L : Nat} {xs : Nat → Int32}
theorem hw_sl {i x : Int32} (hx : p.tables.exec = Jvm.exec) (hb : c.code = cc) (hX : va_X b L xs s s.heap) (hbl : b < s.heap.size) (hbA : ¬ base ≤ b) (hD : Dy D G base E s.heap σ0 σ H locs cells slots) (ho : oSl L xs i = some x) (hdg : decode cc pc = .ok (.iaload, 1)) (kk : W p l e R s m args below meth c H locs cells slots Q (F0 m (pc + 1) ls (.int x :: rest))) : W p l e R s m args below meth c H locs cells slots Q (F0 m pc ls (.int i :: .ref b :: rest)) := by
  unfold oSl at ho
  by_cases z : i < 0 ∨ L ≤ i.toNatClampNeg
  · rw [if_pos z] at ho; cases ho
  · rw [if_neg z] at ho
    cases ho
    exact va_sld (A := fun q => base ≤ q) hx hb hX hbl hbA hD.2.1 z hdg kk
theorem hw_sn (hx : p.tables.exec = Jvm.exec) (hb : c.code = cc) (hX : va_X b L xs s s.heap) (hbl : b < s.heap.size) (hbA : ¬ base ≤ b) (hD : Dy D G base E s.heap σ0 σ H locs cells slots) (hdg : decode cc pc = .ok (.arraylength, 1)) (kk : W p l e R s m args below meth c H locs cells slots Q (F0 m (pc + 1) ls (.int (nI L) :: rest))) : W p l e R s m args below meth c H locs cells slots Q (F0 m pc ls (.ref b :: rest)) :=
  va_slen (A := fun q => base ≤ q) hx hb hX hbl hbA hD.2.1 hdg kk
theorem hw_end (hx : p.tables.exec = Jvm.exec) (hb : c.code = cL_law) (hr : meth.sig.returnType = ret) (hlocks : meth.locks = false) (hbs : base = s.heap.size) (hD : Dy D G base E s.heap σ0 σ H locs cells slots) (e2 : σ = τ) (hmo : sN τ ≤ sN σ0 + 162966 ∧ sS τ ≤ sS σ0 + 8607208) (hdg : decode cL_law pc = .ok (.ireturn, 1)) : W p l e room_1 s m #[Value.ref b] below meth c H locs cells slots (lw_Z below #[Value.ref b] s) (F0 m pc ls [.int 1]) := by
  subst e2
  obtain ⟨-, d2, d3, d4, -, -⟩ := hD
  refine va_forget (fun q hq => by rw [← hbs]; exact d2.2.2 q hq) (W.widen (k := 162966) (n := 8607208) (by omega) (by omega) (lw_ret hx hb hr hlocks hdg))
end HL
