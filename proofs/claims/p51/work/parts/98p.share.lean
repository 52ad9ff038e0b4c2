/-! a share is at most one -/
theorem shr_all : ((List.range 301).all fun b => b == 0 || decide (Op.cmpValue (FP.fcmp (FP.fdiv (FP.i2f (Int32.ofNat b)) (FP.i2f (Int32.ofNat b))) FP.fconst1) .l = 0)) = true := by decide +kernel
theorem shr_le : ((List.range 12).all fun b => b == 0 || (List.range (b + 1)).all fun a => decide (¬ 0 < Op.cmpValue (FP.fcmp (FP.fdiv (FP.i2f (Int32.ofNat a)) (FP.i2f (Int32.ofNat b))) FP.fconst1) .g)) = true := by decide +kernel
