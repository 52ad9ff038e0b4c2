/-! a share is at most one -/
theorem shr_all : ((List.range 301).all fun b => b == 0 || decide (Op.cmpValue (FP.fcmp (FP.fdiv (FP.i2f (Int32.ofNat b)) (FP.i2f (Int32.ofNat b))) FP.fconst1) .l = 0)) = true := by decide +kernel
def shrT (lo w : Nat) : Bool := (List.range w).all fun d => (List.range (lo + d + 1)).all fun a => decide (¬ 0 < Op.cmpValue (FP.fcmp (FP.fdiv (FP.i2f (Int32.ofNat a)) (FP.i2f (Int32.ofNat (lo + d)))) FP.fconst1) .g)
theorem shr_0 : shrT 1 79 = true := by decide +kernel
theorem shr_1 : shrT 80 35 = true := by decide +kernel
theorem shr_2 : shrT 115 25 = true := by decide +kernel
theorem shr_3 : shrT 140 20 = true := by decide +kernel
theorem shr_4 : shrT 160 20 = true := by decide +kernel
theorem shr_5 : shrT 180 20 = true := by decide +kernel
theorem shr_6 : shrT 200 15 = true := by decide +kernel
theorem shr_7 : shrT 215 15 = true := by decide +kernel
theorem shr_8 : shrT 230 15 = true := by decide +kernel
theorem shr_9 : shrT 245 15 = true := by decide +kernel
theorem shr_10 : shrT 260 15 = true := by decide +kernel
theorem shr_11 : shrT 275 13 = true := by decide +kernel
theorem shr_12 : shrT 288 13 = true := by decide +kernel
theorem shrT_at {lo w : Nat} (h : shrT lo w = true) {a b : Nat} (h1 : lo ≤ b) (h2 : b < lo + w) (ha : a ≤ b) : ¬ 0 < Op.cmpValue (FP.fcmp (FP.fdiv (FP.i2f (Int32.ofNat a)) (FP.i2f (Int32.ofNat b))) FP.fconst1) .g := by
  have k1 := List.all_eq_true.mp h (b - lo) (List.mem_range.mpr (by omega))
  have k2 := List.all_eq_true.mp k1 a (List.mem_range.mpr (by omega))
  have k3 := of_decide_eq_true k2
  rw [show lo + (b - lo) = b by omega] at k3
  exact k3
theorem shr_le {a b : Nat} (h1 : 1 ≤ b) (h2 : b ≤ 300) (ha : a ≤ b) : ¬ 0 < Op.cmpValue (FP.fcmp (FP.fdiv (FP.i2f (Int32.ofNat a)) (FP.i2f (Int32.ofNat b))) FP.fconst1) .g := by
  by_cases z0 : b < 80
  · exact shrT_at shr_0 (by omega) (by omega) ha
  by_cases z1 : b < 115
  · exact shrT_at shr_1 (by omega) (by omega) ha
  by_cases z2 : b < 140
  · exact shrT_at shr_2 (by omega) (by omega) ha
  by_cases z3 : b < 160
  · exact shrT_at shr_3 (by omega) (by omega) ha
  by_cases z4 : b < 180
  · exact shrT_at shr_4 (by omega) (by omega) ha
  by_cases z5 : b < 200
  · exact shrT_at shr_5 (by omega) (by omega) ha
  by_cases z6 : b < 215
  · exact shrT_at shr_6 (by omega) (by omega) ha
  by_cases z7 : b < 230
  · exact shrT_at shr_7 (by omega) (by omega) ha
  by_cases z8 : b < 245
  · exact shrT_at shr_8 (by omega) (by omega) ha
  by_cases z9 : b < 260
  · exact shrT_at shr_9 (by omega) (by omega) ha
  by_cases z10 : b < 275
  · exact shrT_at shr_10 (by omega) (by omega) ha
  by_cases z11 : b < 288
  · exact shrT_at shr_11 (by omega) (by omega) ha
  exact shrT_at shr_12 (by omega) (by omega) ha
theorem shr_one {b : Nat} (h1 : 1 ≤ b) (h2 : b ≤ 300) : Op.cmpValue (FP.fcmp (FP.fdiv (FP.i2f (Int32.ofNat b)) (FP.i2f (Int32.ofNat b))) FP.fconst1) .l = 0 := by
  have k1 := List.all_eq_true.mp shr_all b (List.mem_range.mpr (by omega))
  rw [Bool.or_eq_true] at k1
  rcases k1 with z | z
  · have : b = 0 := by simpa using z
    omega
  · exact of_decide_eq_true z
