/-! one turn of the law, case by case -/
def stH (fc : Option ((Int32 × Sto) ⊕ (Nat × Sto))) (tab : List (Nat × Int32)) (o : Int64) (fm : Option (Int32 × Sto)) (Q : Sto → Sto → Int64 → Prop) : Prop :=
  Ok fc (hres tab o (fun r => Ok fm (fun p => Ok (f12_thrown p.2) (fun t => t = r.1 ∧ (r.1 = 0 → r.2.2 = p.1.toInt64) ∧ Q r.2.1 p.2 r.2.2))))
def stHZ (fc : Option ((Int32 × Sto) ⊕ (Nat × Sto))) (tab : List (Nat × Int32)) (o : Int64) (fm : Option (Int32 × Sto)) (Q : Sto → Sto → Int64 → Prop) : Prop :=
  Ok fc (hresZ tab o (fun r => Ok fm (fun p => Ok (f12_thrown p.2) (fun t => t = r.1 ∧ (r.1 = 0 → r.2.2 = if p.1 = 0 then 0 else 1) ∧ Q r.2.1 p.2 r.2.2))))
/-- what the law's body stands in -/
def LC (X : JX) (K : JK) (b L : Nat) (xs : Nat → Int32) : Prop :=
  Cx X K 9 RL cL_law ∧ X.2.1.stackTraces = false ∧ va_X b L xs X.2.2.2.2.1 X.2.2.2.2.1.heap ∧ b < X.2.2.2.2.1.heap.size ∧ (¬ jA K b) ∧ L ≤ 2560 ∧ 12 ≤ X.2.2.2.1.frames ∧ 428 ≤ X.2.2.2.1.locals
theorem ix_toInt {i j : Nat} (h : i + j ≤ 2560) (hj : j < 5) : (Int32.ofNat i + Int32.ofNat j).toInt = ((i + j : Nat) : Int) := by
  rw [← Int32.ofNat_add]
  exact Int32.toInt_ofNat_of_lt (by omega)
theorem ix_in {i j L : Nat} (h : i + j < L) (hL : L ≤ 2560) (hj : j < 5) : vp_in (Int32.ofNat i + Int32.ofNat j) L ∧ (Int32.ofNat i + Int32.ofNat j).toNatClampNeg = i + j := by
  have e := ix_toInt (i := i) (j := j) (by omega) hj
  have e2 : (Int32.ofNat i + Int32.ofNat j).toNatClampNeg = i + j := by
    unfold Int32.toNatClampNeg
    rw [e]
    omega
  refine ⟨?_, e2⟩
  intro q
  rcases q with q | q
  · rw [Int32.lt_iff_toInt_lt, e] at q
    have e0 : (0 : Int32).toInt = 0 := by decide
    omega
  · rw [e2] at q
    omega
theorem J_arg {X : JX} {K : JK} {b L : Nat} {xs : Nat → Int32} {g : Prop} {Q : State → Prop} {k sl n : Nat} {w : JW} {pc q : Nat} {lv : List (Nat × Value)} {st : List Value} (c : LC X K b L xs) {i : Nat} (j : Nat) {x : Int32} (hx : x = Int32.ofNat j) (hi : i + 5 ≤ L) (hj : j < 5) (d : decode cL_law pc = .ok (.iaload, 1)) (hq : pc + 1 = q) (h : J X K 9 g Q k sl n w q lv (.int (xs (i + j)) :: st)) : J X K 9 g Q k sl n w pc lv (.int (Int32.ofNat i + x) :: .ref b :: st) := by
  subst hx
  have e := ix_in (i := i) (j := j) (L := L) (by omega) c.2.2.2.2.2.1 hj
  refine J_sld c.1 c.2.2.1 c.2.2.2.1 c.2.2.2.2.1 e.1 d hq ?_
  rw [e.2]
  exact h
theorem J_outld {X : JX} {K : JK} {nL : Nat} {g : Prop} {Q : State → Prop} {k sl : Nat} {σ μ : Sto} {o : Int64} {pc q : Nat} {lv : List (Nat × Value)} {st : List Value} {own : String} {cc : ByteArray} (C : Cx X K nL own cc) (d : decode cc pc = .ok (.laload, 1)) (hq : pc + 1 = q) (h : J X K nL g Q k sl 2055 (jw K σ μ o) q lv (.long o :: st)) : J X K nL g Q k sl 2055 (jw K σ μ o) pc lv (.int 0 :: .ref (K.2.2 + 2054) :: st) :=
  J_lald (a := 2054) (len := 1) (f := fun _ => o) C (by omega) rfl (by intro q; rcases q with q | q; exact absurd q (by decide); exact absurd q (by decide)) d hq h
