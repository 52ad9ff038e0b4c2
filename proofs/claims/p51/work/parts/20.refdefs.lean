/-! functions of the whole claim that the law of this one does not run: the ghost beside the class -/
def f8_markFrom_j42 (a0 : Nat) (l1 : Int32) (σ : Sto) (l2_42 : Int32) (l3_42 : Int32) : Option ((Int32 × Int32) ⊕ Int32) :=
  stp (l3_42 + (1 : Int32)) fun x3_1 =>
  some (.inl (l2_42, x3_1))
def f8_markFrom_j40 (a0 : Nat) (l1 : Int32) (σ : Sto) (l3_40 : Int32) : Option ((Int32 × Int32) ⊕ Int32) :=
  stp l3_40 fun x2_2 =>
  f8_markFrom_j42 a0 l1 σ x2_2 l3_40
def f8_markFrom_b4 (a0 : Nat) (l1 : Int32) (σ : Sto) (l2_4 : Int32) (l3_4 : Int32) : Option ((Int32 × Int32) ⊕ Int32) :=
  if (16 : Int32) ≤ l3_4 then
    some (.inr l2_4)
  else
    gd (inb l3_4 16) <|
    if (aI σ (a0 + 5) (Int32.toNatClampNeg l3_4)) < l1 then
      f8_markFrom_j42 a0 l1 σ l2_4 l3_4
    else
      if l2_4 = (-1 : Int32) then
        f8_markFrom_j40 a0 l1 σ l3_4
      else
        gd (inb l3_4 16) <|
        gd (inb l2_4 16) <|
        if (aI σ (a0 + 5) (Int32.toNatClampNeg l2_4)) ≤ (aI σ (a0 + 5) (Int32.toNatClampNeg l3_4)) then
          f8_markFrom_j42 a0 l1 σ l2_4 l3_4
        else
          f8_markFrom_j40 a0 l1 σ l3_4
def f8_markFrom_j4 (a0 : Nat) (l1 : Int32) (σ : Sto) (l2_4 : Int32) (l3_4 : Int32) : Option (Int32) :=
  bnd (loopF (fun s_4 => f8_markFrom_b4 a0 l1 σ s_4.1 s_4.2) FU (l2_4, l3_4)) fun r_4 =>
    some r_4
def f8_markFrom (σ : Sto) (a0 : Nat) (l1 : Int32) : Option (Int32) :=
  stp (-1 : Int32) fun x2_3 =>
  stp (0 : Int32) fun x3_4 =>
  f8_markFrom_j4 a0 l1 σ x2_3 x3_4
def f8_markUpTo_j52 (a0 : Nat) (l1 : Int32) (σ : Sto) (l2_52 : Int32) (l3_52 : Int32) : Option ((Int32 × Int32) ⊕ Int32) :=
  stp (l3_52 + (1 : Int32)) fun x3_1 =>
  some (.inl (l2_52, x3_1))
def f8_markUpTo_j50 (a0 : Nat) (l1 : Int32) (σ : Sto) (l3_50 : Int32) : Option ((Int32 × Int32) ⊕ Int32) :=
  stp l3_50 fun x2_2 =>
  f8_markUpTo_j52 a0 l1 σ x2_2 l3_50
def f8_markUpTo_b4 (a0 : Nat) (l1 : Int32) (σ : Sto) (l2_4 : Int32) (l3_4 : Int32) : Option ((Int32 × Int32) ⊕ Int32) :=
  if (16 : Int32) ≤ l3_4 then
    some (.inr l2_4)
  else
    gd (inb l3_4 16) <|
    if (aI σ (a0 + 5) (Int32.toNatClampNeg l3_4)) = (-1 : Int32) then
      f8_markUpTo_j52 a0 l1 σ l2_4 l3_4
    else
      gd (inb l3_4 16) <|
      if l1 < (aI σ (a0 + 5) (Int32.toNatClampNeg l3_4)) then
        f8_markUpTo_j52 a0 l1 σ l2_4 l3_4
      else
        if l2_4 = (-1 : Int32) then
          f8_markUpTo_j50 a0 l1 σ l3_4
        else
          gd (inb l3_4 16) <|
          gd (inb l2_4 16) <|
          if (aI σ (a0 + 5) (Int32.toNatClampNeg l3_4)) ≤ (aI σ (a0 + 5) (Int32.toNatClampNeg l2_4)) then
            f8_markUpTo_j52 a0 l1 σ l2_4 l3_4
          else
            f8_markUpTo_j50 a0 l1 σ l3_4
def f8_markUpTo_j4 (a0 : Nat) (l1 : Int32) (σ : Sto) (l2_4 : Int32) (l3_4 : Int32) : Option (Int32) :=
  bnd (loopF (fun s_4 => f8_markUpTo_b4 a0 l1 σ s_4.1 s_4.2) FU (l2_4, l3_4)) fun r_4 =>
    some r_4
def f8_markUpTo (σ : Sto) (a0 : Nat) (l1 : Int32) : Option (Int32) :=
  stp (-1 : Int32) fun x2_3 =>
  stp (0 : Int32) fun x3_4 =>
  f8_markUpTo_j4 a0 l1 σ x2_3 x3_4
def f11_markBeside_j28 (l1 : Int32) (l2 : Int32) (σ_28 : Sto) (s0_28 : Int32) : Option ((Int32 × Sto) ⊕ (Nat × Sto)) :=
  some (.inl (s0_28, σ_28))
def f11_markBeside (σ : Sto) (l1 : Int32) (l2 : Int32) : Option ((Int32 × Sto) ⊕ (Nat × Sto)) :=
  bndX (f11_requirePlace σ l1) fun p_1 =>
  if l2 = 0 then
    bnd (f8_markUpTo p_1 1 l1) fun p_3 =>
    f11_markBeside_j28 l1 l2 p_1 p_3
  else
    bnd (f8_markFrom p_1 1 l1) fun p_4 =>
    f11_markBeside_j28 l1 l2 p_1 p_4
def f11_requireView_j9 (l1 : Int32) (σ_9 : Sto) : Option (Sto ⊕ (Nat × Sto)) :=
  some (.inr (1, σ_9))
def f11_requireView (σ : Sto) (l1 : Int32) : Option (Sto ⊕ (Nat × Sto)) :=
  if l1 < 0 then
    f11_requireView_j9 l1 σ
  else
    if l1 < (2 : Int32) then
      some (.inl σ)
    else
      f11_requireView_j9 l1 σ
def f11_setView_j20 (l1 : Int32) (l2 : Int32) (l3 : Int32) (σ_20 : Sto) : Option ((Int32 × Sto) ⊕ (Nat × Sto)) :=
  some (.inr (2, σ_20))
def f11_setView (σ : Sto) (l1 : Int32) (l2 : Int32) (l3 : Int32) : Option ((Int32 × Sto) ⊕ (Nat × Sto)) :=
  bndX (f11_requireView σ l1) fun p_1 =>
  if l2 < 0 then
    f11_setView_j20 l1 l2 l3 p_1
  else
    if l3 < (1 : Int32) then
      f11_setView_j20 l1 l2 l3 p_1
    else
      if l3 ≤ (40 : Int32) then
        gd (inb l1 2) <|
        stp (aI p_1 2015 (Int32.toNatClampNeg l1)) fun x4_1 =>
        gd (inb l1 2) <|
        stp (uA p_1 2015 (Int32.toNatClampNeg l1) l2) fun σx_2 =>
        gd (inb l1 2) <|
        stp (uA σx_2 2016 (Int32.toNatClampNeg l1) l3) fun σx_3 =>
        some (.inl (x4_1, σx_3))
      else
        f11_setView_j20 l1 l2 l3 p_1
def f11_rowOf_j138 (l1 : Int32) (l2 : Int32) (σ_138 : Sto) (s0_138 : Int32) : Option ((Int32 × Sto) ⊕ (Nat × Sto)) :=
  some (.inl (s0_138, σ_138))
def f11_rowOf_j122 (l1 : Int32) (l2 : Int32) (σ_122 : Sto) (l3_122 : Int32) : Option ((Int32 × Sto) ⊕ (Nat × Sto)) :=
  if (fI σ_122 1 4) ≤ l3_122 then
    f11_rowOf_j138 l1 l2 σ_122 (-1 : Int32)
  else
    f11_rowOf_j138 l1 l2 σ_122 l3_122
def f11_rowOf_b74 (l1 : Int32) (l2 : Int32) (σ_74 : Sto) (l3_74 : Int32) (l4_74 : Int32) : Option ((Int32 × Int32) ⊕ Int32) :=
  if l4_74 ≤ 0 then
    some (.inr l3_74)
  else
    if (fI σ_74 1 4) ≤ l3_74 then
      some (.inr l3_74)
    else
      stp (l3_74 + (1 : Int32)) fun x3_1 =>
      if (fI σ_74 1 4) ≤ x3_1 then
        some (.inl (x3_1, l4_74))
      else
        gd (okr (fR σ_74 1 3) 14) <|
        gd (inb x3_1 (ln ((fR σ_74 1 3) - 1))) <|
        if (aI σ_74 ((fR σ_74 1 3) - 1) (Int32.toNatClampNeg x3_1)) = 0 then
          stp (l4_74 + (-1 : Int32)) fun x4_2 =>
          some (.inl (x3_1, x4_2))
        else
          some (.inl (x3_1, l4_74))
def f11_rowOf_j74 (l1 : Int32) (l2 : Int32) (σ_74 : Sto) (l3_74 : Int32) (l4_74 : Int32) : Option ((Int32 × Sto) ⊕ (Nat × Sto)) :=
  bnd (loopF (fun s_74 => f11_rowOf_b74 l1 l2 σ_74 s_74.1 s_74.2) FU (l3_74, l4_74)) fun r_74 =>
    f11_rowOf_j122 l1 l2 σ_74 r_74
def f11_rowOf_j71 (l1 : Int32) (l2 : Int32) (σ_71 : Sto) (l3_71 : Int32) : Option ((Int32 × Sto) ⊕ (Nat × Sto)) :=
  stp l2 fun x4_3 =>
  f11_rowOf_j74 l1 l2 σ_71 l3_71 x4_3
def f11_rowOf_b49 (l1 : Int32) (l2 : Int32) (σ_49 : Sto) (l3_49 : Int32) : Option (Int32 ⊕ Int32) :=
  if l3_49 ≤ 0 then
    some (.inr l3_49)
  else
    gd (okr (fR σ_49 1 3) 14) <|
    gd (inb l3_49 (ln ((fR σ_49 1 3) - 1))) <|
    if (aI σ_49 ((fR σ_49 1 3) - 1) (Int32.toNatClampNeg l3_49)) = 0 then
      some (.inr l3_49)
    else
      stp (l3_49 + (-1 : Int32)) fun x3_4 =>
      some (.inl x3_4)
def f11_rowOf_j49 (l1 : Int32) (l2 : Int32) (σ_49 : Sto) (l3_49 : Int32) : Option ((Int32 × Sto) ⊕ (Nat × Sto)) :=
  bnd (loopF (fun s_49 => f11_rowOf_b49 l1 l2 σ_49 s_49) FU l3_49) fun r_49 =>
    f11_rowOf_j71 l1 l2 σ_49 r_49
def f11_rowOf_j19 (l1 : Int32) (l2 : Int32) (σ_19 : Sto) : Option ((Int32 × Sto) ⊕ (Nat × Sto)) :=
  some (.inr (2, σ_19))
def f11_rowOf (σ : Sto) (l1 : Int32) (l2 : Int32) : Option ((Int32 × Sto) ⊕ (Nat × Sto)) :=
  bndX (f11_requireView σ l1) fun p_12 =>
  if l2 < 0 then
    f11_rowOf_j19 l1 l2 p_12
  else
    gd (inb l1 2) <|
    if l2 < (aI p_12 2016 (Int32.toNatClampNeg l1)) then
      gd (inb l1 2) <|
      stp (imin (aI p_12 2015 (Int32.toNatClampNeg l1)) ((fI p_12 1 4) - (1 : Int32))) fun x3_5 =>
      f11_rowOf_j49 l1 l2 p_12 x3_5
    else
      f11_rowOf_j19 l1 l2 p_12
def f11_setTab_j11 (l1 : Int32) (σ_11 : Sto) : Option ((Int32 × Sto) ⊕ (Nat × Sto)) :=
  some (.inr (2, σ_11))
def f11_setTab (σ : Sto) (l1 : Int32) : Option ((Int32 × Sto) ⊕ (Nat × Sto)) :=
  if l1 < (1 : Int32) then
    f11_setTab_j11 l1 σ
  else
    if l1 ≤ (8 : Int32) then
      stp (fI σ 0 10) fun x2_1 =>
      stp (uI σ 0 10 l1) fun σx_2 =>
      some (.inl (x2_1, σx_2))
    else
      f11_setTab_j11 l1 σ
def f11_hash (σ : Sto) : Option (Int32) :=
  bnd (f8_sumOf σ 1 (0 : Int32) (fI σ 1 1)) fun p_1 =>
  some p_1
def f11_meanLine (σ : Sto) : Option (UInt64) :=
  stp ((fI σ 1 1) - ((fI σ 1 4) - (1 : Int32))) fun x1_1 =>
  gd (nf64 (FP.ddiv (FP.i2d x1_1) (FP.i2d (fI σ 1 4)))) <|
  some (FP.ddiv (FP.i2d x1_1) (FP.i2d (fI σ 1 4)))
def f12_thrown (μ : Sto) : Option (Int32) :=
  some (fI μ 2017 18)
def f12_in_j15 (l0 : Int32) (l1 : Int32) (l2 : Int32) (s0_15 : Int32) : Option (Int32) :=
  gd (isB s0_15) <|
  some s0_15
def f12_in_j14 (l0 : Int32) (l1 : Int32) (l2 : Int32) : Option (Int32) :=
  f12_in_j15 l0 l1 l2 (0 : Int32)
def f12_in (l0 : Int32) (l1 : Int32) (l2 : Int32) : Option (Int32) :=
  if l0 < l1 then
    f12_in_j14 l0 l1 l2
  else
    if l2 < l0 then
      f12_in_j14 l0 l1 l2
    else
      f12_in_j15 l0 l1 l2 (1 : Int32)
def f12_less_j10 (l0 : Int32) (l1 : Int32) (s0_10 : Int32) : Option (Int32) :=
  some s0_10
def f12_less (l0 : Int32) (l1 : Int32) : Option (Int32) :=
  if l1 ≤ l0 then
    f12_less_j10 l0 l1 l1
  else
    f12_less_j10 l0 l1 l0
def f12_more_j10 (l0 : Int32) (l1 : Int32) (s0_10 : Int32) : Option (Int32) :=
  some s0_10
def f12_more (l0 : Int32) (l1 : Int32) : Option (Int32) :=
  if l1 ≤ l0 then
    f12_more_j10 l0 l1 l0
  else
    f12_more_j10 l0 l1 l1
def f12_refuse (μ : Sto) (l1 : Int32) : Option (Int32 × Sto) :=
  stp (uI μ 2017 18 l1) fun μx_1 =>
  some ((0 : Int32), μx_1)
def f12_told (μ : Sto) (l1 : Int32) : Option (Int32 × Sto) :=
  stp (uI μ 2017 18 (0 : Int32)) fun μx_1 =>
  some (l1, μx_1)
def f12_says (μ : Sto) (l1 : Int32) : Option (Int32 × Sto) :=
  stp (uI μ 2017 18 (0 : Int32)) fun μx_1 =>
  gd (isB l1) <|
  some (l1, μx_1)
def f12_denies (μ : Sto) (l1 : Int32) : Option (Int32 × Sto) :=
  stp (uI μ 2017 18 l1) fun μx_1 =>
  some ((0 : Int32), μx_1)
def f12_isLetter_j28 (l0 : Int32) (s0_28 : Int32) : Option (Int32) :=
  gd (isB s0_28) <|
  some s0_28
def f12_isLetter_j23 (l0 : Int32) : Option (Int32) :=
  f12_isLetter_j28 l0 (1 : Int32)
def f12_isLetter (l0 : Int32) : Option (Int32) :=
  if l0 = (10 : Int32) then
    f12_isLetter_j23 l0
  else
    if l0 = (9 : Int32) then
      f12_isLetter_j23 l0
    else
      bnd (f12_in l0 (32 : Int32) (126 : Int32)) fun p_4 =>
      if p_4 = 0 then
        f12_isLetter_j28 l0 (0 : Int32)
      else
        f12_isLetter_j23 l0
def f12_isSpace_j17 (l0 : Int32) (s0_17 : Int32) : Option (Int32) :=
  gd (isB s0_17) <|
  some s0_17
def f12_isSpace_j12 (l0 : Int32) : Option (Int32) :=
  f12_isSpace_j17 l0 (1 : Int32)
def f12_isSpace (l0 : Int32) : Option (Int32) :=
  if l0 = (32 : Int32) then
    f12_isSpace_j12 l0
  else
    if l0 = (9 : Int32) then
      f12_isSpace_j12 l0
    else
      f12_isSpace_j17 l0 (0 : Int32)
def f12_isOfWord_j44 (l0 : Int32) (s0_44 : Int32) : Option (Int32) :=
  gd (isB s0_44) <|
  some s0_44
def f12_isOfWord_j39 (l0 : Int32) : Option (Int32) :=
  f12_isOfWord_j44 l0 (1 : Int32)
def f12_isOfWord (l0 : Int32) : Option (Int32) :=
  bnd (f12_in l0 (65 : Int32) (90 : Int32)) fun p_2 =>
  if p_2 = 0 then
    bnd (f12_in l0 (97 : Int32) (122 : Int32)) fun p_4 =>
    if p_4 = 0 then
      bnd (f12_in l0 (48 : Int32) (57 : Int32)) fun p_6 =>
      if p_6 = 0 then
        if l0 = (95 : Int32) then
          f12_isOfWord_j39 l0
        else
          f12_isOfWord_j44 l0 (0 : Int32)
      else
        f12_isOfWord_j39 l0
    else
      f12_isOfWord_j39 l0
  else
    f12_isOfWord_j39 l0
def f12_isPlace (μ : Sto) (l1 : Int32) : Option (Int32) :=
  bnd (f12_in l1 (0 : Int32) (fI μ 2017 5)) fun p_1 =>
  gd (isB p_1) <|
  some p_1
def f12_lines_j29 (μ : Sto) (l2_29 : Int32) (s0_29 : Int32) (s1_29 : Int32) : Option ((Int32 × Int32) ⊕ Int32) :=
  stp (s0_29 + s1_29) fun x1_1 =>
  stp (l2_29 + (1 : Int32)) fun x2_2 =>
  some (.inl (x1_1, x2_2))
def f12_lines_b4 (μ : Sto) (l1_4 : Int32) (l2_4 : Int32) : Option ((Int32 × Int32) ⊕ Int32) :=
  if (fI μ 2017 5) ≤ l2_4 then
    some (.inr l1_4)
  else
    gd (inb l2_4 3000) <|
    if (aI μ 2018 (Int32.toNatClampNeg l2_4)) = (10 : Int32) then
      f12_lines_j29 μ l2_4 l1_4 (1 : Int32)
    else
      f12_lines_j29 μ l2_4 l1_4 (0 : Int32)
def f12_lines_j4 (μ : Sto) (l1_4 : Int32) (l2_4 : Int32) : Option (Int32) :=
  bnd (loopF (fun s_4 => f12_lines_b4 μ s_4.1 s_4.2) FU (l1_4, l2_4)) fun r_4 =>
    some r_4
def f12_lines (μ : Sto) : Option (Int32) :=
  stp (1 : Int32) fun x1_3 =>
  stp (0 : Int32) fun x2_4 =>
  f12_lines_j4 μ x1_3 x2_4
def f12_isLine (μ : Sto) (l1 : Int32) : Option (Int32) :=
  bnd (f12_lines μ) fun p_1 =>
  bnd (f12_in l1 (0 : Int32) (p_1 - (1 : Int32))) fun p_2 =>
  gd (isB p_2) <|
  some p_2
def f12_lineAt_j26 (l1 : Int32) (μ : Sto) (l3_26 : Int32) (s0_26 : Int32) (s1_26 : Int32) : Option ((Int32 × Int32) ⊕ Int32) :=
  stp (s0_26 + s1_26) fun x2_1 =>
  stp (l3_26 + (1 : Int32)) fun x3_2 =>
  some (.inl (x2_1, x3_2))
def f12_lineAt_b4 (l1 : Int32) (μ : Sto) (l2_4 : Int32) (l3_4 : Int32) : Option ((Int32 × Int32) ⊕ Int32) :=
  if l1 ≤ l3_4 then
    some (.inr l2_4)
  else
    gd (inb l3_4 3000) <|
    if (aI μ 2018 (Int32.toNatClampNeg l3_4)) = (10 : Int32) then
      f12_lineAt_j26 l1 μ l3_4 l2_4 (1 : Int32)
    else
      f12_lineAt_j26 l1 μ l3_4 l2_4 (0 : Int32)
def f12_lineAt_j4 (l1 : Int32) (μ : Sto) (l2_4 : Int32) (l3_4 : Int32) : Option (Int32) :=
  bnd (loopF (fun s_4 => f12_lineAt_b4 l1 μ s_4.1 s_4.2) FU (l2_4, l3_4)) fun r_4 =>
    some r_4
def f12_lineAt (μ : Sto) (l1 : Int32) : Option (Int32) :=
  stp (0 : Int32) fun x2_3 =>
  stp (0 : Int32) fun x3_4 =>
  f12_lineAt_j4 l1 μ x2_3 x3_4
def f12_beginOf_j25 (l1 : Int32) (μ : Sto) (l3_25 : Int32) (s0_25 : Int32) (s1_25 : Int32) : Option ((Int32 × Int32) ⊕ Int32) :=
  stp (s0_25 - s1_25) fun x2_1 =>
  stp (l3_25 + (1 : Int32)) fun x3_2 =>
  some (.inl (x2_1, x3_2))
def f12_beginOf_b4 (l1 : Int32) (μ : Sto) (l2_4 : Int32) (l3_4 : Int32) : Option ((Int32 × Int32) ⊕ Int32) :=
  if l2_4 ≤ 0 then
    some (.inr l3_4)
  else
    gd (inb l3_4 3000) <|
    if (aI μ 2018 (Int32.toNatClampNeg l3_4)) = (10 : Int32) then
      f12_beginOf_j25 l1 μ l3_4 l2_4 (1 : Int32)
    else
      f12_beginOf_j25 l1 μ l3_4 l2_4 (0 : Int32)
def f12_beginOf_j4 (l1 : Int32) (μ : Sto) (l2_4 : Int32) (l3_4 : Int32) : Option (Int32) :=
  bnd (loopF (fun s_4 => f12_beginOf_b4 l1 μ s_4.1 s_4.2) FU (l2_4, l3_4)) fun r_4 =>
    some r_4
def f12_beginOf (μ : Sto) (l1 : Int32) : Option (Int32) :=
  stp l1 fun x2_3 =>
  stp (0 : Int32) fun x3_4 =>
  f12_beginOf_j4 l1 μ x2_3 x3_4
def f12_endOf_j31 (l1 : Int32) (μ : Sto) (l2_31 : Int32) : Option (Int32) :=
  some l2_31
def f12_endOf_b6 (l1 : Int32) (μ : Sto) (l2_6 : Int32) : Option (Int32 ⊕ Int32) :=
  if (fI μ 2017 5) ≤ l2_6 then
    some (.inr l2_6)
  else
    gd (inb l2_6 3000) <|
    if (aI μ 2018 (Int32.toNatClampNeg l2_6)) = (10 : Int32) then
      some (.inr l2_6)
    else
      stp (l2_6 + (1 : Int32)) fun x2_1 =>
      some (.inl x2_1)
def f12_endOf_j6 (l1 : Int32) (μ : Sto) (l2_6 : Int32) : Option (Int32) :=
  bnd (loopF (fun s_6 => f12_endOf_b6 l1 μ s_6) FU l2_6) fun r_6 =>
    f12_endOf_j31 l1 μ r_6
def f12_endOf (μ : Sto) (l1 : Int32) : Option (Int32) :=
  bnd (f12_beginOf μ l1) fun p_4 =>
  stp p_4 fun x2_2 =>
  f12_endOf_j6 l1 μ x2_2
def f12_column_j47 (l1 : Int32) (μ : Sto) (l3_47 : Int32) (s0_47 : Int32) : Option ((Int32 × Int32) ⊕ Int32) :=
  stp s0_47 fun x2_1 =>
  stp (l3_47 + (1 : Int32)) fun x3_2 =>
  some (.inl (x2_1, x3_2))
def f12_column_b12 (l1 : Int32) (μ : Sto) (l2_12 : Int32) (l3_12 : Int32) : Option ((Int32 × Int32) ⊕ Int32) :=
  if l1 ≤ l3_12 then
    some (.inr l2_12)
  else
    gd (inb l3_12 3000) <|
    if (aI μ 2018 (Int32.toNatClampNeg l3_12)) = (9 : Int32) then
      gd (nz (fI μ 2017 17)) <|
      f12_column_j47 l1 μ l3_12 (((l2_12 / (fI μ 2017 17)) + (1 : Int32)) * (fI μ 2017 17))
    else
      f12_column_j47 l1 μ l3_12 (l2_12 + (1 : Int32))
def f12_column_j12 (l1 : Int32) (μ : Sto) (l2_12 : Int32) (l3_12 : Int32) : Option (Int32) :=
  bnd (loopF (fun s_12 => f12_column_b12 l1 μ s_12.1 s_12.2) FU (l2_12, l3_12)) fun r_12 =>
    some r_12
def f12_column (μ : Sto) (l1 : Int32) : Option (Int32) :=
  stp (0 : Int32) fun x2_3 =>
  bnd (f12_lineAt μ l1) fun p_5 =>
  bnd (f12_beginOf μ p_5) fun p_6 =>
  stp p_6 fun x3_4 =>
  f12_column_j12 l1 μ x2_3 x3_4
def f12_placeIn_j73 (l1 : Int32) (l2 : Int32) (μ : Sto) (l4_73 : Int32) : Option (Int32) :=
  some l4_73
def f12_placeIn_j66 (l1 : Int32) (l2 : Int32) (μ : Sto) (l4_66 : Int32) (s0_66 : Int32) : Option ((Int32 × Int32) ⊕ Int32) :=
  stp s0_66 fun x3_1 =>
  stp (l4_66 + (1 : Int32)) fun x4_2 =>
  some (.inl (x3_1, x4_2))
def f12_placeIn_b9 (l1 : Int32) (l2 : Int32) (μ : Sto) (l3_9 : Int32) (l4_9 : Int32) : Option ((Int32 × Int32) ⊕ Int32) :=
  if (fI μ 2017 5) ≤ l4_9 then
    some (.inr l4_9)
  else
    gd (inb l4_9 3000) <|
    if (aI μ 2018 (Int32.toNatClampNeg l4_9)) = (10 : Int32) then
      some (.inr l4_9)
    else
      if l2 ≤ l3_9 then
        some (.inr l4_9)
      else
        gd (inb l4_9 3000) <|
        if (aI μ 2018 (Int32.toNatClampNeg l4_9)) = (9 : Int32) then
          gd (nz (fI μ 2017 17)) <|
          f12_placeIn_j66 l1 l2 μ l4_9 (((l3_9 / (fI μ 2017 17)) + (1 : Int32)) * (fI μ 2017 17))
        else
          f12_placeIn_j66 l1 l2 μ l4_9 (l3_9 + (1 : Int32))
def f12_placeIn_j9 (l1 : Int32) (l2 : Int32) (μ : Sto) (l3_9 : Int32) (l4_9 : Int32) : Option (Int32) :=
  bnd (loopF (fun s_9 => f12_placeIn_b9 l1 l2 μ s_9.1 s_9.2) FU (l3_9, l4_9)) fun r_9 =>
    f12_placeIn_j73 l1 l2 μ r_9
def f12_placeIn (μ : Sto) (l1 : Int32) (l2 : Int32) : Option (Int32) :=
  stp (0 : Int32) fun x3_3 =>
  bnd (f12_beginOf μ l1) fun p_8 =>
  stp p_8 fun x4_4 =>
  f12_placeIn_j9 l1 l2 μ x3_3 x4_4
def f12_opens_j67 (l1 : Int32) (μ_67 : Sto) (l3_67 : Int32) : Option (Int32 × Sto) :=
  some (l3_67, μ_67)
def f12_opens_b32 (l1 : Int32) (μ_32 : Sto) (l2_32 : Int32) (l3_32 : Int32) : Option ((Sto × Int32) ⊕ (Sto × Int32)) :=
  if (300 : Int32) ≤ (l2_32 + l3_32) then
    some (.inr (μ_32, l3_32))
  else
    gd (inb (l2_32 + l3_32) 301) <|
    if (aI μ_32 2022 (Int32.toNatClampNeg (l2_32 + l3_32))) = 0 then
      some (.inr (μ_32, l3_32))
    else
      gd (inb (l2_32 + l3_32) 301) <|
      stp (uA μ_32 2022 (Int32.toNatClampNeg (l2_32 + l3_32)) (vp_nar .boolean (0 : Int32))) fun μx_1 =>
      stp (l3_32 + (1 : Int32)) fun x3_2 =>
      some (.inl (μx_1, x3_2))
def f12_opens_j32 (l1 : Int32) (μ_32 : Sto) (l2_32 : Int32) (l3_32 : Int32) : Option (Int32 × Sto) :=
  bnd (loopF (fun s_32 => f12_opens_b32 l1 s_32.1 l2_32 s_32.2) FU (μ_32, l3_32)) fun r_32 =>
    f12_opens_j67 l1 r_32.1 r_32.2
def f12_opens_b13 (l1 : Int32) (μ_13 : Sto) (l2_13 : Int32) : Option (Int32 ⊕ Int32) :=
  gd (inb (l2_13 - (1 : Int32)) 301) <|
  if (aI μ_13 2022 (Int32.toNatClampNeg (l2_13 - (1 : Int32)))) = 0 then
    some (.inr l2_13)
  else
    stp (l2_13 + (-1 : Int32)) fun x2_4 =>
    some (.inl x2_4)
def f12_opens_j13 (l1 : Int32) (μ_13 : Sto) (l2_13 : Int32) : Option (Int32 × Sto) :=
  bnd (loopF (fun s_13 => f12_opens_b13 l1 μ_13 s_13) FU l2_13) fun r_13 =>
    stp (0 : Int32) fun x3_5 =>
    f12_opens_j32 l1 μ_13 r_13 x3_5
def f12_opens (μ : Sto) (l1 : Int32) : Option (Int32 × Sto) :=
  gd (inb l1 301) <|
  if (aI μ 2022 (Int32.toNatClampNeg l1)) = 0 then
    some ((0 : Int32), μ)
  else
    stp l1 fun x2_6 =>
    f12_opens_j13 l1 μ x2_6
def f12_opensAt (μ : Sto) (l1 : Int32) : Option (Sto) :=
  bnd (f12_lineAt μ l1) fun p_1 =>
  bnd (f12_opens μ p_1) fun p_2 =>
  stp p_2.1 fun x2_1 =>
  some p_2.2
def f12_hiddenMany_j26 (μ : Sto) (l2_26 : Int32) (s0_26 : Int32) (s1_26 : Int32) : Option ((Int32 × Int32) ⊕ Int32) :=
  stp (s0_26 + s1_26) fun x1_1 =>
  stp (l2_26 + (1 : Int32)) fun x2_2 =>
  some (.inl (x1_1, x2_2))
def f12_hiddenMany_b4 (μ : Sto) (l1_4 : Int32) (l2_4 : Int32) : Option ((Int32 × Int32) ⊕ Int32) :=
  if (300 : Int32) ≤ l2_4 then
    some (.inr l1_4)
  else
    gd (inb l2_4 301) <|
    if (aI μ 2022 (Int32.toNatClampNeg l2_4)) = 0 then
      f12_hiddenMany_j26 μ l2_4 l1_4 (0 : Int32)
    else
      f12_hiddenMany_j26 μ l2_4 l1_4 (1 : Int32)
def f12_hiddenMany_j4 (μ : Sto) (l1_4 : Int32) (l2_4 : Int32) : Option (Int32) :=
  bnd (loopF (fun s_4 => f12_hiddenMany_b4 μ s_4.1 s_4.2) FU (l1_4, l2_4)) fun r_4 =>
    some r_4
def f12_hiddenMany (μ : Sto) : Option (Int32) :=
  stp (0 : Int32) fun x1_3 =>
  stp (0 : Int32) fun x2_4 =>
  f12_hiddenMany_j4 μ x1_3 x2_4
def f12_keeps_b135 (l1 : Int32) (μ_135 : Sto) (l2_135 : Int32) : Option ((Sto × Int32) ⊕ Sto) :=
  if (300 : Int32) ≤ l2_135 then
    some (.inr μ_135)
  else
    gd (inb l2_135 301) <|
    gd (inb (((300 : Int32) * l1) + l2_135) 90601) <|
    stp (uA μ_135 2042 (Int32.toNatClampNeg (((300 : Int32) * l1) + l2_135)) (vp_nar .boolean (aI μ_135 2022 (Int32.toNatClampNeg l2_135)))) fun μx_1 =>
    stp (l2_135 + (1 : Int32)) fun x2_2 =>
    some (.inl (μx_1, x2_2))
def f12_keeps_j135 (l1 : Int32) (μ_135 : Sto) (l2_135 : Int32) : Option (Sto) :=
  bnd (loopF (fun s_135 => f12_keeps_b135 l1 s_135.1 s_135.2) FU (μ_135, l2_135)) fun r_135 =>
    some r_135
def f12_keeps_b87 (l1 : Int32) (μ_87 : Sto) (l2_87 : Int32) : Option ((Sto × Int32) ⊕ Sto) :=
  if (16 : Int32) ≤ l2_87 then
    some (.inr μ_87)
  else
    gd (inb l2_87 16) <|
    gd (inb (((16 : Int32) * l1) + l2_87) 4816) <|
    stp (uA μ_87 2040 (Int32.toNatClampNeg (((16 : Int32) * l1) + l2_87)) (aI μ_87 2020 (Int32.toNatClampNeg l2_87))) fun μx_4 =>
    gd (inb l2_87 16) <|
    gd (inb (((16 : Int32) * l1) + l2_87) 4816) <|
    stp (uA μx_4 2041 (Int32.toNatClampNeg (((16 : Int32) * l1) + l2_87)) (vp_nar .boolean (aI μx_4 2021 (Int32.toNatClampNeg l2_87)))) fun μx_5 =>
    stp (l2_87 + (1 : Int32)) fun x2_6 =>
    some (.inl (μx_5, x2_6))
def f12_keeps_j87 (l1 : Int32) (μ_87 : Sto) (l2_87 : Int32) : Option (Sto) :=
  bnd (loopF (fun s_87 => f12_keeps_b87 l1 s_87.1 s_87.2) FU (μ_87, l2_87)) fun r_87 =>
    stp (0 : Int32) fun x2_7 =>
    f12_keeps_j135 l1 r_87 x2_7
def f12_keeps_b56 (l1 : Int32) (μ_56 : Sto) (l2_56 : Int32) : Option ((Sto × Int32) ⊕ Sto) :=
  if (8 : Int32) ≤ l2_56 then
    some (.inr μ_56)
  else
    gd (inb l2_56 8) <|
    gd (inb (((8 : Int32) * l1) + l2_56) 2408) <|
    stp (uA μ_56 2038 (Int32.toNatClampNeg (((8 : Int32) * l1) + l2_56)) (aI μ_56 2019 (Int32.toNatClampNeg l2_56))) fun μx_9 =>
    stp (l2_56 + (1 : Int32)) fun x2_10 =>
    some (.inl (μx_9, x2_10))
def f12_keeps_j56 (l1 : Int32) (μ_56 : Sto) (l2_56 : Int32) : Option (Sto) :=
  bnd (loopF (fun s_56 => f12_keeps_b56 l1 s_56.1 s_56.2) FU (μ_56, l2_56)) fun r_56 =>
    stp (0 : Int32) fun x2_11 =>
    f12_keeps_j87 l1 r_56 x2_11
def f12_keeps_b22 (l1 : Int32) (μ_22 : Sto) (l2_22 : Int32) : Option ((Sto × Int32) ⊕ Sto) :=
  if (fI μ_22 2017 5) ≤ l2_22 then
    some (.inr μ_22)
  else
    gd (inb l2_22 3000) <|
    gd (inb (((3000 : Int32) * l1) + l2_22) 903000) <|
    stp (uA μ_22 2036 (Int32.toNatClampNeg (((3000 : Int32) * l1) + l2_22)) (aI μ_22 2018 (Int32.toNatClampNeg l2_22))) fun μx_13 =>
    stp (l2_22 + (1 : Int32)) fun x2_14 =>
    some (.inl (μx_13, x2_14))
def f12_keeps_j22 (l1 : Int32) (μ_22 : Sto) (l2_22 : Int32) : Option (Sto) :=
  bnd (loopF (fun s_22 => f12_keeps_b22 l1 s_22.1 s_22.2) FU (μ_22, l2_22)) fun r_22 =>
    stp (0 : Int32) fun x2_15 =>
    f12_keeps_j56 l1 r_22 x2_15
def f12_keeps (μ : Sto) (l1 : Int32) : Option (Sto) :=
  gd (inb l1 301) <|
  stp (uA μ 2037 (Int32.toNatClampNeg l1) (fI μ 2017 5)) fun μx_16 =>
  gd (inb l1 301) <|
  stp (uA μx_16 2039 (Int32.toNatClampNeg l1) (fI μx_16 2017 6)) fun μx_17 =>
  stp (0 : Int32) fun x2_18 =>
  f12_keeps_j22 l1 μx_17 x2_18
def f12_brings_b135 (l1 : Int32) (μ_135 : Sto) (l2_135 : Int32) : Option ((Sto × Int32) ⊕ Sto) :=
  if (300 : Int32) ≤ l2_135 then
    some (.inr μ_135)
  else
    gd (inb (((300 : Int32) * l1) + l2_135) 90601) <|
    gd (inb l2_135 301) <|
    stp (uA μ_135 2022 (Int32.toNatClampNeg l2_135) (vp_nar .boolean (aI μ_135 2042 (Int32.toNatClampNeg (((300 : Int32) * l1) + l2_135))))) fun μx_1 =>
    stp (l2_135 + (1 : Int32)) fun x2_2 =>
    some (.inl (μx_1, x2_2))
def f12_brings_j135 (l1 : Int32) (μ_135 : Sto) (l2_135 : Int32) : Option (Sto) :=
  bnd (loopF (fun s_135 => f12_brings_b135 l1 s_135.1 s_135.2) FU (μ_135, l2_135)) fun r_135 =>
    some r_135
def f12_brings_b87 (l1 : Int32) (μ_87 : Sto) (l2_87 : Int32) : Option ((Sto × Int32) ⊕ Sto) :=
  if (16 : Int32) ≤ l2_87 then
    some (.inr μ_87)
  else
    gd (inb (((16 : Int32) * l1) + l2_87) 4816) <|
    gd (inb l2_87 16) <|
    stp (uA μ_87 2020 (Int32.toNatClampNeg l2_87) (aI μ_87 2040 (Int32.toNatClampNeg (((16 : Int32) * l1) + l2_87)))) fun μx_4 =>
    gd (inb (((16 : Int32) * l1) + l2_87) 4816) <|
    gd (inb l2_87 16) <|
    stp (uA μx_4 2021 (Int32.toNatClampNeg l2_87) (vp_nar .boolean (aI μx_4 2041 (Int32.toNatClampNeg (((16 : Int32) * l1) + l2_87))))) fun μx_5 =>
    stp (l2_87 + (1 : Int32)) fun x2_6 =>
    some (.inl (μx_5, x2_6))
def f12_brings_j87 (l1 : Int32) (μ_87 : Sto) (l2_87 : Int32) : Option (Sto) :=
  bnd (loopF (fun s_87 => f12_brings_b87 l1 s_87.1 s_87.2) FU (μ_87, l2_87)) fun r_87 =>
    stp (0 : Int32) fun x2_7 =>
    f12_brings_j135 l1 r_87 x2_7
def f12_brings_b56 (l1 : Int32) (μ_56 : Sto) (l2_56 : Int32) : Option ((Sto × Int32) ⊕ Sto) :=
  if (8 : Int32) ≤ l2_56 then
    some (.inr μ_56)
  else
    gd (inb (((8 : Int32) * l1) + l2_56) 2408) <|
    gd (inb l2_56 8) <|
    stp (uA μ_56 2019 (Int32.toNatClampNeg l2_56) (aI μ_56 2038 (Int32.toNatClampNeg (((8 : Int32) * l1) + l2_56)))) fun μx_9 =>
    stp (l2_56 + (1 : Int32)) fun x2_10 =>
    some (.inl (μx_9, x2_10))
def f12_brings_j56 (l1 : Int32) (μ_56 : Sto) (l2_56 : Int32) : Option (Sto) :=
  bnd (loopF (fun s_56 => f12_brings_b56 l1 s_56.1 s_56.2) FU (μ_56, l2_56)) fun r_56 =>
    stp (0 : Int32) fun x2_11 =>
    f12_brings_j87 l1 r_56 x2_11
def f12_brings_b22 (l1 : Int32) (μ_22 : Sto) (l2_22 : Int32) : Option ((Sto × Int32) ⊕ Sto) :=
  if (fI μ_22 2017 5) ≤ l2_22 then
    some (.inr μ_22)
  else
    gd (inb (((3000 : Int32) * l1) + l2_22) 903000) <|
    gd (inb l2_22 3000) <|
    stp (uA μ_22 2018 (Int32.toNatClampNeg l2_22) (aI μ_22 2036 (Int32.toNatClampNeg (((3000 : Int32) * l1) + l2_22)))) fun μx_13 =>
    stp (l2_22 + (1 : Int32)) fun x2_14 =>
    some (.inl (μx_13, x2_14))
def f12_brings_j22 (l1 : Int32) (μ_22 : Sto) (l2_22 : Int32) : Option (Sto) :=
  bnd (loopF (fun s_22 => f12_brings_b22 l1 s_22.1 s_22.2) FU (μ_22, l2_22)) fun r_22 =>
    stp (0 : Int32) fun x2_15 =>
    f12_brings_j56 l1 r_22 x2_15
def f12_brings (μ : Sto) (l1 : Int32) : Option (Sto) :=
  gd (inb l1 301) <|
  stp (uI μ 2017 5 (aI μ 2037 (Int32.toNatClampNeg l1))) fun μx_16 =>
  gd (inb l1 301) <|
  stp (uI μx_16 2017 6 (aI μx_16 2039 (Int32.toNatClampNeg l1))) fun μx_17 =>
  stp (0 : Int32) fun x2_18 =>
  f12_brings_j22 l1 μx_17 x2_18
def f12_ahead (l0 : Int32) : Option (Int32) :=
  some (((2 : Int32) * l0) - (2 : Int32))
def f12_undone (l0 : Int32) : Option (Int32) :=
  some (((2 : Int32) * l0) - (1 : Int32))
def f12_begins (μ : Sto) : Option (Sto) :=
  stp (uI μ 2017 27 (0 : Int32)) fun μx_1 =>
  stp (uI μx_1 2017 28 (0 : Int32)) fun μx_2 =>
  some μx_2
def f12_puts (μ : Sto) (l1 : Int32) : Option (Sto) :=
  gd (inb (fI μ 2017 28) 3200) <|
  stp (uA μ 2033 (Int32.toNatClampNeg (fI μ 2017 28)) l1) fun μx_1 =>
  stp (uI μx_1 2017 28 ((fI μx_1 2017 28) + (1 : Int32))) fun μx_2 =>
  some μx_2
def f12_putsTape_b2 (μ_2 : Sto) (l1_2 : Int32) : Option ((Sto × Int32) ⊕ Sto) :=
  if (fI μ_2 2017 11) ≤ l1_2 then
    some (.inr μ_2)
  else
    gd (inb l1_2 200) <|
    bnd (f12_puts μ_2 (aI μ_2 2023 (Int32.toNatClampNeg l1_2))) fun p_3 =>
    stp (l1_2 + (1 : Int32)) fun x1_1 =>
    some (.inl (p_3, x1_1))
def f12_putsTape_j2 (μ_2 : Sto) (l1_2 : Int32) : Option (Sto) :=
  bnd (loopF (fun s_2 => f12_putsTape_b2 s_2.1 s_2.2) FU (μ_2, l1_2)) fun r_2 =>
    some r_2
def f12_putsTape (μ : Sto) : Option (Sto) :=
  stp (0 : Int32) fun x1_2 =>
  f12_putsTape_j2 μ x1_2
def f12_adds_j11 (l1 : Int32) (l2 : Int32) (l3 : Int32) (l4 : Int32) (μ_11 : Sto) : Option (Sto) :=
  gd (inb (fI μ_11 2017 27) 3001) <|
  stp (uA μ_11 2029 (Int32.toNatClampNeg (fI μ_11 2017 27)) l1) fun μx_1 =>
  gd (inb (fI μx_1 2017 27) 3001) <|
  stp (uA μx_1 2030 (Int32.toNatClampNeg (fI μx_1 2017 27)) l2) fun μx_2 =>
  gd (inb (fI μx_2 2017 27) 3001) <|
  stp (uA μx_2 2031 (Int32.toNatClampNeg (fI μx_2 2017 27)) l3) fun μx_3 =>
  gd (inb (fI μx_3 2017 27) 3001) <|
  stp (uA μx_3 2032 (Int32.toNatClampNeg (fI μx_3 2017 27)) l4) fun μx_4 =>
  stp (uI μx_4 2017 27 ((fI μx_4 2017 27) + (1 : Int32))) fun μx_5 =>
  some μx_5
def f12_adds (μ : Sto) (l1 : Int32) (l2 : Int32) (l3 : Int32) (l4 : Int32) : Option (Sto) :=
  if l1 = l2 then
    if l4 = 0 then
      some μ
    else
      f12_adds_j11 l1 l2 l3 l4 μ
  else
    f12_adds_j11 l1 l2 l3 l4 μ
def f12_endsIn_j38 (l1 : Int32) (μ : Sto) (l3_38 : Int32) (s0_38 : Int32) (s1_38 : Int32) : Option ((Int32 × Int32) ⊕ Int32) :=
  stp (s0_38 + s1_38) fun x2_1 =>
  stp (l3_38 + (1 : Int32)) fun x3_2 =>
  some (.inl (x2_1, x3_2))
def f12_endsIn_b4 (l1 : Int32) (μ : Sto) (l2_4 : Int32) (l3_4 : Int32) : Option ((Int32 × Int32) ⊕ Int32) :=
  gd (inb l1 3001) <|
  if (aI μ 2032 (Int32.toNatClampNeg l1)) ≤ l3_4 then
    some (.inr l2_4)
  else
    gd (inb l1 3001) <|
    gd (inb ((aI μ 2031 (Int32.toNatClampNeg l1)) + l3_4) 3200) <|
    if (aI μ 2033 (Int32.toNatClampNeg ((aI μ 2031 (Int32.toNatClampNeg l1)) + l3_4))) = (10 : Int32) then
      f12_endsIn_j38 l1 μ l3_4 l2_4 (1 : Int32)
    else
      f12_endsIn_j38 l1 μ l3_4 l2_4 (0 : Int32)
def f12_endsIn_j4 (l1 : Int32) (μ : Sto) (l2_4 : Int32) (l3_4 : Int32) : Option (Int32) :=
  bnd (loopF (fun s_4 => f12_endsIn_b4 l1 μ s_4.1 s_4.2) FU (l2_4, l3_4)) fun r_4 =>
    some r_4
def f12_endsIn (μ : Sto) (l1 : Int32) : Option (Int32) :=
  stp (0 : Int32) fun x2_3 =>
  stp (0 : Int32) fun x3_4 =>
  f12_endsIn_j4 l1 μ x2_3 x3_4
def f12_isTooMuch_j121 (μ : Sto) (s0_121 : Int32) : Option (Int32) :=
  gd (isB s0_121) <|
  some s0_121
def f12_isTooMuch_j116 (μ : Sto) : Option (Int32) :=
  f12_isTooMuch_j121 μ (1 : Int32)
def f12_isTooMuch_j88 (μ : Sto) (l1_59 : Int32) (l3_59 : Int32) (l4_88 : Int32) (s0_88 : Int32) (s1_88 : Int32) : Option ((Int32 × Int32) ⊕ Int32) :=
  stp (s0_88 - s1_88) fun x2_1 =>
  stp (l4_88 + (1 : Int32)) fun x4_2 =>
  some (.inl (x2_1, x4_2))
def f12_isTooMuch_b59 (μ : Sto) (l1_59 : Int32) (l2_59 : Int32) (l3_59 : Int32) (l4_59 : Int32) : Option ((Int32 × Int32) ⊕ Int32) :=
  gd (inb l3_59 3001) <|
  if (aI μ 2030 (Int32.toNatClampNeg l3_59)) ≤ l4_59 then
    some (.inr l2_59)
  else
    gd (inb l4_59 3000) <|
    if (aI μ 2018 (Int32.toNatClampNeg l4_59)) = (10 : Int32) then
      f12_isTooMuch_j88 μ l1_59 l3_59 l4_59 l2_59 (1 : Int32)
    else
      f12_isTooMuch_j88 μ l1_59 l3_59 l4_59 l2_59 (0 : Int32)
def f12_isTooMuch_j59 (μ : Sto) (l1_59 : Int32) (l2_59 : Int32) (l3_59 : Int32) (l4_59 : Int32) : Option ((Int32 × Int32 × Int32) ⊕ (Int32 × Int32)) :=
  bnd (loopF (fun s_59 => f12_isTooMuch_b59 μ l1_59 s_59.1 l3_59 s_59.2) FU (l2_59, l4_59)) fun r_59 =>
    stp (l3_59 + (1 : Int32)) fun x3_4 =>
    some (.inl (l1_59, r_59, x3_4))
def f12_isTooMuch_b12 (μ : Sto) (l1_12 : Int32) (l2_12 : Int32) (l3_12 : Int32) : Option ((Int32 × Int32 × Int32) ⊕ (Int32 × Int32)) :=
  if (fI μ 2017 27) ≤ l3_12 then
    some (.inr (l1_12, l2_12))
  else
    gd (inb l3_12 3001) <|
    gd (inb l3_12 3001) <|
    gd (inb l3_12 3001) <|
    stp (l1_12 + ((aI μ 2032 (Int32.toNatClampNeg l3_12)) - ((aI μ 2030 (Int32.toNatClampNeg l3_12)) - (aI μ 2029 (Int32.toNatClampNeg l3_12))))) fun x1_5 =>
    bnd (f12_endsIn μ l3_12) fun p_12 =>
    stp (l2_12 + p_12) fun x2_6 =>
    gd (inb l3_12 3001) <|
    stp (aI μ 2029 (Int32.toNatClampNeg l3_12)) fun x4_7 =>
    f12_isTooMuch_j59 μ x1_5 x2_6 l3_12 x4_7
def f12_isTooMuch_j12 (μ : Sto) (l1_12 : Int32) (l2_12 : Int32) (l3_12 : Int32) : Option (Int32) :=
  bnd (loopF (fun s_12 => f12_isTooMuch_b12 μ s_12.1 s_12.2.1 s_12.2.2) FU (l1_12, l2_12, l3_12)) fun r_12 =>
    if (3000 : Int32) < r_12.1 then
      f12_isTooMuch_j116 μ
    else
      if r_12.2 ≤ (300 : Int32) then
        f12_isTooMuch_j121 μ (0 : Int32)
      else
        f12_isTooMuch_j116 μ
def f12_isTooMuch (μ : Sto) : Option (Int32) :=
  stp (fI μ 2017 5) fun x1_8 =>
  bnd (f12_lines μ) fun p_16 =>
  stp p_16 fun x2_9 =>
  stp (0 : Int32) fun x3_10 =>
  f12_isTooMuch_j12 μ x1_8 x2_9 x3_10
def f12_moved_j42 (l0 : Int32) (l1 : Int32) (l2 : Int32) (l3 : Int32) (l4 : Int32) (s0_42 : Int32) : Option (Int32) :=
  some s0_42
def f12_moved_j24 (l0 : Int32) (l1 : Int32) (l2 : Int32) (l3 : Int32) (l4 : Int32) (s0_24 : Int32) : Option (Int32) :=
  some s0_24
def f12_moved (l0 : Int32) (l1 : Int32) (l2 : Int32) (l3 : Int32) (l4 : Int32) : Option (Int32) :=
  if l2 ≤ l0 then
    if l0 = l3 then
      if l1 = 0 then
        f12_moved_j24 l0 l1 l2 l3 l4 (l2 + l4)
      else
        f12_moved_j24 l0 l1 l2 l3 l4 l2
    else
      if l3 ≤ l0 then
        f12_moved_j42 l0 l1 l2 l3 l4 ((l0 + l4) - (l3 - l2))
      else
        f12_moved_j42 l0 l1 l2 l3 l4 l2
  else
    some l0
def f12_replaces_j444 (l1 : Int32) (l2_395 : Int32) (l3_395 : Int32) (l4_395 : Int32) (μ_444 : Sto) (l9_444 : Int32) (s1_444 : Int32) (s2_444 : Int32) : Option ((Sto × Int32) ⊕ Sto) :=
  gd (inb s1_444 16) <|
  stp (uA μ_444 2020 (Int32.toNatClampNeg s1_444) s2_444) fun μx_1 =>
  stp (l9_444 + (1 : Int32)) fun x9_2 =>
  some (.inl (μx_1, x9_2))
def f12_replaces_b395 (l1 : Int32) (μ_395 : Sto) (l2_395 : Int32) (l3_395 : Int32) (l4_395 : Int32) (l9_395 : Int32) : Option ((Sto × Int32) ⊕ Sto) :=
  if (16 : Int32) ≤ l9_395 then
    some (.inr μ_395)
  else
    gd (inb l9_395 16) <|
    if (aI μ_395 2020 (Int32.toNatClampNeg l9_395)) = (-1 : Int32) then
      f12_replaces_j444 l1 l2_395 l3_395 l4_395 μ_395 l9_395 l9_395 (-1 : Int32)
    else
      gd (inb l9_395 16) <|
      gd (inb l9_395 16) <|
      bnd (f12_moved (aI μ_395 2020 (Int32.toNatClampNeg l9_395)) (aI μ_395 2021 (Int32.toNatClampNeg l9_395)) l2_395 l3_395 l4_395) fun p_7 =>
      f12_replaces_j444 l1 l2_395 l3_395 l4_395 μ_395 l9_395 l9_395 p_7
def f12_replaces_j395 (l1 : Int32) (μ_395 : Sto) (l2_395 : Int32) (l3_395 : Int32) (l4_395 : Int32) (l9_395 : Int32) : Option (Sto) :=
  bnd (loopF (fun s_395 => f12_replaces_b395 l1 s_395.1 l2_395 l3_395 l4_395 s_395.2) FU (μ_395, l9_395)) fun r_395 =>
    some r_395
def f12_replaces_b355 (l1 : Int32) (μ_355 : Sto) (l2_355 : Int32) (l3_355 : Int32) (l4_355 : Int32) (l9_355 : Int32) : Option ((Sto × Int32) ⊕ Sto) :=
  if (fI μ_355 2017 6) ≤ l9_355 then
    some (.inr μ_355)
  else
    gd (inb l9_355 8) <|
    bnd (f12_moved (aI μ_355 2019 (Int32.toNatClampNeg l9_355)) (0 : Int32) l2_355 l3_355 l4_355) fun p_10 =>
    gd (inb l9_355 8) <|
    stp (uA μ_355 2019 (Int32.toNatClampNeg l9_355) p_10) fun μx_4 =>
    stp (l9_355 + (1 : Int32)) fun x9_5 =>
    some (.inl (μx_4, x9_5))
def f12_replaces_j355 (l1 : Int32) (μ_355 : Sto) (l2_355 : Int32) (l3_355 : Int32) (l4_355 : Int32) (l9_355 : Int32) : Option (Sto) :=
  bnd (loopF (fun s_355 => f12_replaces_b355 l1 s_355.1 l2_355 l3_355 l4_355 s_355.2) FU (μ_355, l9_355)) fun r_355 =>
    stp (0 : Int32) fun x9_6 =>
    f12_replaces_j395 l1 r_355 l2_355 l3_355 l4_355 x9_6
def f12_replaces_b305 (l1 : Int32) (μ_305 : Sto) (l2_305 : Int32) (l3_305 : Int32) (l4_305 : Int32) (l8_305 : Int32) (l9_305 : Int32) : Option ((Sto × Int32) ⊕ Sto) :=
  if l4_305 ≤ l9_305 then
    some (.inr μ_305)
  else
    gd (inb l1 3001) <|
    gd (inb ((aI μ_305 2031 (Int32.toNatClampNeg l1)) + l9_305) 3200) <|
    gd (inb (l2_305 + l9_305) 3000) <|
    stp (uA μ_305 2018 (Int32.toNatClampNeg (l2_305 + l9_305)) (aI μ_305 2033 (Int32.toNatClampNeg ((aI μ_305 2031 (Int32.toNatClampNeg l1)) + l9_305)))) fun μx_9 =>
    stp (l9_305 + (1 : Int32)) fun x9_10 =>
    some (.inl (μx_9, x9_10))
def f12_replaces_j305 (l1 : Int32) (μ_305 : Sto) (l2_305 : Int32) (l3_305 : Int32) (l4_305 : Int32) (l8_305 : Int32) (l9_305 : Int32) : Option (Sto) :=
  bnd (loopF (fun s_305 => f12_replaces_b305 l1 s_305.1 l2_305 l3_305 l4_305 l8_305 s_305.2) FU (μ_305, l9_305)) fun r_305 =>
    stp (uI r_305 2017 5 ((fI r_305 2017 5) + l8_305)) fun μx_11 =>
    stp (0 : Int32) fun x9_12 =>
    f12_replaces_j355 l1 μx_11 l2_305 l3_305 l4_305 x9_12
def f12_replaces_j302 (l1 : Int32) (μ_302 : Sto) (l2_302 : Int32) (l3_302 : Int32) (l4_302 : Int32) (l8_302 : Int32) : Option (Sto) :=
  stp (0 : Int32) fun x9_13 =>
  f12_replaces_j305 l1 μ_302 l2_302 l3_302 l4_302 l8_302 x9_13
def f12_replaces_b270 (l1 : Int32) (μ_270 : Sto) (l2_270 : Int32) (l3_270 : Int32) (l4_270 : Int32) (l8_270 : Int32) (l9_270 : Int32) : Option ((Sto × Int32) ⊕ Sto) :=
  if (fI μ_270 2017 5) ≤ l9_270 then
    some (.inr μ_270)
  else
    gd (inb l9_270 3000) <|
    gd (inb (l9_270 + l8_270) 3000) <|
    stp (uA μ_270 2018 (Int32.toNatClampNeg (l9_270 + l8_270)) (aI μ_270 2018 (Int32.toNatClampNeg l9_270))) fun μx_14 =>
    stp (l9_270 + (1 : Int32)) fun x9_15 =>
    some (.inl (μx_14, x9_15))
def f12_replaces_j270 (l1 : Int32) (μ_270 : Sto) (l2_270 : Int32) (l3_270 : Int32) (l4_270 : Int32) (l8_270 : Int32) (l9_270 : Int32) : Option (Sto) :=
  bnd (loopF (fun s_270 => f12_replaces_b270 l1 s_270.1 l2_270 l3_270 l4_270 l8_270 s_270.2) FU (μ_270, l9_270)) fun r_270 =>
    f12_replaces_j302 l1 r_270 l2_270 l3_270 l4_270 l8_270
def f12_replaces_b235 (l1 : Int32) (μ_235 : Sto) (l2_235 : Int32) (l3_235 : Int32) (l4_235 : Int32) (l8_235 : Int32) (l9_235 : Int32) : Option ((Sto × Int32) ⊕ Sto) :=
  if l9_235 < l3_235 then
    some (.inr μ_235)
  else
    gd (inb l9_235 3000) <|
    gd (inb (l9_235 + l8_235) 3000) <|
    stp (uA μ_235 2018 (Int32.toNatClampNeg (l9_235 + l8_235)) (aI μ_235 2018 (Int32.toNatClampNeg l9_235))) fun μx_16 =>
    stp (l9_235 + (-1 : Int32)) fun x9_17 =>
    some (.inl (μx_16, x9_17))
def f12_replaces_j235 (l1 : Int32) (μ_235 : Sto) (l2_235 : Int32) (l3_235 : Int32) (l4_235 : Int32) (l8_235 : Int32) (l9_235 : Int32) : Option (Sto) :=
  bnd (loopF (fun s_235 => f12_replaces_b235 l1 s_235.1 l2_235 l3_235 l4_235 l8_235 s_235.2) FU (μ_235, l9_235)) fun r_235 =>
    f12_replaces_j302 l1 r_235 l2_235 l3_235 l4_235 l8_235
def f12_replaces_b190 (l1 : Int32) (μ_190 : Sto) (l2_190 : Int32) (l3_190 : Int32) (l4_190 : Int32) (l6_190 : Int32) (l7_190 : Int32) (l8_190 : Int32) : Option ((Sto × Int32) ⊕ Sto) :=
  if (l6_190 + l7_190) < l8_190 then
    some (.inr μ_190)
  else
    gd (inb l8_190 301) <|
    stp (uA μ_190 2022 (Int32.toNatClampNeg l8_190) (vp_nar .boolean (0 : Int32))) fun μx_21 =>
    stp (l8_190 + (1 : Int32)) fun x8_22 =>
    some (.inl (μx_21, x8_22))
def f12_replaces_j190 (l1 : Int32) (μ_190 : Sto) (l2_190 : Int32) (l3_190 : Int32) (l4_190 : Int32) (l6_190 : Int32) (l7_190 : Int32) (l8_190 : Int32) : Option (Sto) :=
  bnd (loopF (fun s_190 => f12_replaces_b190 l1 s_190.1 l2_190 l3_190 l4_190 l6_190 l7_190 s_190.2) FU (μ_190, l8_190)) fun r_190 =>
    stp (l4_190 - (l3_190 - l2_190)) fun x8_23 =>
    if x8_23 ≤ 0 then
      stp l3_190 fun x9_24 =>
      f12_replaces_j270 l1 r_190 l2_190 l3_190 l4_190 x8_23 x9_24
    else
      stp ((fI r_190 2017 5) - (1 : Int32)) fun x9_25 =>
      f12_replaces_j235 l1 r_190 l2_190 l3_190 l4_190 x8_23 x9_25
def f12_replaces_j184 (l1 : Int32) (μ_184 : Sto) (l2_184 : Int32) (l3_184 : Int32) (l4_184 : Int32) (l5_184 : Int32) (l6_184 : Int32) (l7_184 : Int32) : Option (Sto) :=
  stp (l5_184 + (1 : Int32)) fun x8_26 =>
  f12_replaces_j190 l1 μ_184 l2_184 l3_184 l4_184 l6_184 l7_184 x8_26
def f12_replaces_j177 (l1 : Int32) (l2_134 : Int32) (l3_134 : Int32) (l4_134 : Int32) (l5_134 : Int32) (l6_134 : Int32) (l7_134 : Int32) (μ_177 : Sto) (l8_177 : Int32) (s1_177 : Int32) (s2_177 : Int32) : Option ((Sto × Int32) ⊕ Sto) :=
  gd (inb s1_177 301) <|
  stp (uA μ_177 2022 (Int32.toNatClampNeg s1_177) (vp_nar .boolean s2_177)) fun μx_27 =>
  stp (l8_177 + (1 : Int32)) fun x8_28 =>
  some (.inl (μx_27, x8_28))
def f12_replaces_j176 (l1 : Int32) (l2_134 : Int32) (l3_134 : Int32) (l4_134 : Int32) (l5_134 : Int32) (l6_134 : Int32) (l7_134 : Int32) (μ_176 : Sto) (l8_176 : Int32) (s1_176 : Int32) : Option ((Sto × Int32) ⊕ Sto) :=
  f12_replaces_j177 l1 l2_134 l3_134 l4_134 l5_134 l6_134 l7_134 μ_176 l8_176 s1_176 (0 : Int32)
def f12_replaces_b134 (l1 : Int32) (μ_134 : Sto) (l2_134 : Int32) (l3_134 : Int32) (l4_134 : Int32) (l5_134 : Int32) (l6_134 : Int32) (l7_134 : Int32) (l8_134 : Int32) : Option ((Sto × Int32) ⊕ Sto) :=
  if (300 : Int32) ≤ l8_134 then
    some (.inr μ_134)
  else
    if (300 : Int32) ≤ (l8_134 - l7_134) then
      f12_replaces_j176 l1 l2_134 l3_134 l4_134 l5_134 l6_134 l7_134 μ_134 l8_134 l8_134
    else
      gd (inb (l8_134 - l7_134) 301) <|
      if (aI μ_134 2022 (Int32.toNatClampNeg (l8_134 - l7_134))) = 0 then
        f12_replaces_j176 l1 l2_134 l3_134 l4_134 l5_134 l6_134 l7_134 μ_134 l8_134 l8_134
      else
        f12_replaces_j177 l1 l2_134 l3_134 l4_134 l5_134 l6_134 l7_134 μ_134 l8_134 l8_134 (1 : Int32)
def f12_replaces_j134 (l1 : Int32) (μ_134 : Sto) (l2_134 : Int32) (l3_134 : Int32) (l4_134 : Int32) (l5_134 : Int32) (l6_134 : Int32) (l7_134 : Int32) (l8_134 : Int32) : Option (Sto) :=
  bnd (loopF (fun s_134 => f12_replaces_b134 l1 s_134.1 l2_134 l3_134 l4_134 l5_134 l6_134 l7_134 s_134.2) FU (μ_134, l8_134)) fun r_134 =>
    f12_replaces_j184 l1 r_134 l2_134 l3_134 l4_134 l5_134 l6_134 l7_134
def f12_replaces_b84 (l1 : Int32) (μ_84 : Sto) (l2_84 : Int32) (l3_84 : Int32) (l4_84 : Int32) (l5_84 : Int32) (l6_84 : Int32) (l7_84 : Int32) (l8_84 : Int32) : Option ((Sto × Int32) ⊕ Sto) :=
  if l8_84 ≤ (l6_84 + l7_84) then
    some (.inr μ_84)
  else
    gd (inb (l8_84 - l7_84) 301) <|
    gd (inb l8_84 301) <|
    stp (uA μ_84 2022 (Int32.toNatClampNeg l8_84) (vp_nar .boolean (aI μ_84 2022 (Int32.toNatClampNeg (l8_84 - l7_84))))) fun μx_29 =>
    stp (l8_84 + (-1 : Int32)) fun x8_30 =>
    some (.inl (μx_29, x8_30))
def f12_replaces_j84 (l1 : Int32) (μ_84 : Sto) (l2_84 : Int32) (l3_84 : Int32) (l4_84 : Int32) (l5_84 : Int32) (l6_84 : Int32) (l7_84 : Int32) (l8_84 : Int32) : Option (Sto) :=
  bnd (loopF (fun s_84 => f12_replaces_b84 l1 s_84.1 l2_84 l3_84 l4_84 l5_84 l6_84 l7_84 s_84.2) FU (μ_84, l8_84)) fun r_84 =>
    f12_replaces_j184 l1 r_84 l2_84 l3_84 l4_84 l5_84 l6_84 l7_84
def f12_replaces_b40 (l1 : Int32) (μ_40 : Sto) (l2_40 : Int32) (l3_40 : Int32) (l4_40 : Int32) (l5_40 : Int32) (l6_40 : Int32) (l7_40 : Int32) : Option ((Sto × Int32) ⊕ Sto) :=
  if l6_40 < l7_40 then
    some (.inr μ_40)
  else
    bnd (f12_opens μ_40 l7_40) fun p_38 =>
    stp p_38.1 fun x8_34 =>
    stp (l7_40 + (1 : Int32)) fun x7_35 =>
    some (.inl (p_38.2, x7_35))
def f12_replaces_j40 (l1 : Int32) (μ_40 : Sto) (l2_40 : Int32) (l3_40 : Int32) (l4_40 : Int32) (l5_40 : Int32) (l6_40 : Int32) (l7_40 : Int32) : Option (Sto) :=
  bnd (loopF (fun s_40 => f12_replaces_b40 l1 s_40.1 l2_40 l3_40 l4_40 l5_40 l6_40 s_40.2) FU (μ_40, l7_40)) fun r_40 =>
    bnd (f12_endsIn r_40 l1) fun p_39 =>
    stp (p_39 - (l6_40 - l5_40)) fun x7_36 =>
    if x7_36 ≤ 0 then
      if 0 ≤ x7_36 then
        f12_replaces_j184 l1 r_40 l2_40 l3_40 l4_40 l5_40 l6_40 x7_36
      else
        stp ((l6_40 + x7_36) + (1 : Int32)) fun x8_37 =>
        f12_replaces_j134 l1 r_40 l2_40 l3_40 l4_40 l5_40 l6_40 x7_36 x8_37
    else
      stp (299 : Int32) fun x8_38 =>
      f12_replaces_j84 l1 r_40 l2_40 l3_40 l4_40 l5_40 l6_40 x7_36 x8_38
def f12_replaces (μ : Sto) (l1 : Int32) : Option (Sto) :=
  gd (inb l1 3001) <|
  stp (aI μ 2029 (Int32.toNatClampNeg l1)) fun x2_39 =>
  gd (inb l1 3001) <|
  stp (aI μ 2030 (Int32.toNatClampNeg l1)) fun x3_40 =>
  gd (inb l1 3001) <|
  stp (aI μ 2032 (Int32.toNatClampNeg l1)) fun x4_41 =>
  bnd (f12_lineAt μ x2_39) fun p_45 =>
  stp p_45 fun x5_42 =>
  bnd (f12_lineAt μ x3_40) fun p_46 =>
  stp p_46 fun x6_43 =>
  stp x5_42 fun x7_44 =>
  f12_replaces_j40 l1 μ x2_39 x3_40 x4_41 x5_42 x6_43 x7_44
def f12_orders_j112 (μ_112 : Sto) (l1_112 : Int32) (l2_112 : Int32) : Option ((Sto × Int32 × Int32) ⊕ (Sto × Int32)) :=
  stp (l2_112 + (1 : Int32)) fun x2_1 =>
  some (.inl (μ_112, l1_112, x2_1))
def f12_orders_b72 (μ_72 : Sto) (l1_72 : Int32) (l2_72 : Int32) : Option ((Sto × Int32 × Int32) ⊕ (Sto × Int32)) :=
  if (fI μ_72 2017 6) ≤ l2_72 then
    some (.inr (μ_72, l1_72))
  else
    gd (inb l2_72 8) <|
    gd (inb (l1_72 - (1 : Int32)) 8) <|
    if (aI μ_72 2019 (Int32.toNatClampNeg l2_72)) = (aI μ_72 2019 (Int32.toNatClampNeg (l1_72 - (1 : Int32)))) then
      f12_orders_j112 μ_72 l1_72 l2_72
    else
      gd (inb l2_72 8) <|
      gd (inb l1_72 8) <|
      stp (uA μ_72 2019 (Int32.toNatClampNeg l1_72) (aI μ_72 2019 (Int32.toNatClampNeg l2_72))) fun μx_3 =>
      stp (l1_72 + (1 : Int32)) fun x1_4 =>
      f12_orders_j112 μx_3 x1_4 l2_72
def f12_orders_j72 (μ_72 : Sto) (l1_72 : Int32) (l2_72 : Int32) : Option (Sto) :=
  bnd (loopF (fun s_72 => f12_orders_b72 s_72.1 s_72.2.1 s_72.2.2) FU (μ_72, l1_72, l2_72)) fun r_72 =>
    stp (uI r_72.1 2017 6 r_72.2) fun μx_5 =>
    some μx_5
def f12_orders_j55 (μ_55 : Sto) (l1_55 : Int32) (l2_55 : Int32) (l3_55 : Int32) : Option ((Sto × Int32) ⊕ Sto) :=
  gd (inb l3_55 8) <|
  stp (uA μ_55 2019 (Int32.toNatClampNeg l3_55) l2_55) fun μx_6 =>
  stp (l1_55 + (1 : Int32)) fun x1_7 =>
  some (.inl (μx_6, x1_7))
def f12_orders_b19 (μ_19 : Sto) (l1_19 : Int32) (l2_19 : Int32) (l3_19 : Int32) : Option ((Sto × Int32) ⊕ (Sto × Int32)) :=
  if l3_19 ≤ 0 then
    some (.inr (μ_19, l3_19))
  else
    gd (inb (l3_19 - (1 : Int32)) 8) <|
    if (aI μ_19 2019 (Int32.toNatClampNeg (l3_19 - (1 : Int32)))) ≤ l2_19 then
      some (.inr (μ_19, l3_19))
    else
      gd (inb (l3_19 - (1 : Int32)) 8) <|
      gd (inb l3_19 8) <|
      stp (uA μ_19 2019 (Int32.toNatClampNeg l3_19) (aI μ_19 2019 (Int32.toNatClampNeg (l3_19 - (1 : Int32))))) fun μx_8 =>
      stp (l3_19 + (-1 : Int32)) fun x3_9 =>
      some (.inl (μx_8, x3_9))
def f12_orders_j19 (μ_19 : Sto) (l1_19 : Int32) (l2_19 : Int32) (l3_19 : Int32) : Option ((Sto × Int32) ⊕ Sto) :=
  bnd (loopF (fun s_19 => f12_orders_b19 s_19.1 l1_19 l2_19 s_19.2) FU (μ_19, l3_19)) fun r_19 =>
    f12_orders_j55 r_19.1 l1_19 l2_19 r_19.2
def f12_orders_b2 (μ_2 : Sto) (l1_2 : Int32) : Option ((Sto × Int32) ⊕ Sto) :=
  if (fI μ_2 2017 6) ≤ l1_2 then
    some (.inr μ_2)
  else
    gd (inb l1_2 8) <|
    stp (aI μ_2 2019 (Int32.toNatClampNeg l1_2)) fun x2_12 =>
    stp l1_2 fun x3_13 =>
    f12_orders_j19 μ_2 l1_2 x2_12 x3_13
def f12_orders_j2 (μ_2 : Sto) (l1_2 : Int32) : Option (Sto) :=
  bnd (loopF (fun s_2 => f12_orders_b2 s_2.1 s_2.2) FU (μ_2, l1_2)) fun r_2 =>
    stp (1 : Int32) fun x1_14 =>
    stp (1 : Int32) fun x2_15 =>
    f12_orders_j72 r_2 x1_14 x2_15
def f12_orders (μ : Sto) : Option (Sto) :=
  stp (1 : Int32) fun x1_16 =>
  f12_orders_j2 μ x1_16
def f12_acts_b148 (μ_148 : Sto) (l2_148 : Int32) : Option ((Sto × Int32) ⊕ Sto) :=
  if l2_148 < 0 then
    some (.inr μ_148)
  else
    bnd (f12_replaces μ_148 l2_148) fun p_3 =>
    stp (l2_148 + (-1 : Int32)) fun x2_1 =>
    some (.inl (p_3, x2_1))
def f12_acts_j148 (μ_148 : Sto) (l2_148 : Int32) : Option (Int32 × Sto) :=
  bnd (loopF (fun s_148 => f12_acts_b148 s_148.1 s_148.2) FU (μ_148, l2_148)) fun r_148 =>
    bnd (f12_orders r_148) fun p_4 =>
    some ((1 : Int32), p_4)
def f12_acts_j141 (μ_141 : Sto) : Option (Int32 × Sto) :=
  stp ((fI μ_141 2017 27) - (1 : Int32)) fun x2_2 =>
  f12_acts_j148 μ_141 x2_2
def f12_acts_j127 (μ_127 : Sto) (s1_127 : Int32) : Option (Int32 × Sto) :=
  stp (uI μ_127 2017 33 s1_127) fun μx_3 =>
  bnd (f12_ahead (fI μx_3 2017 31)) fun p_5 =>
  bnd (f12_keeps μx_3 p_5) fun p_6 =>
  f12_acts_j141 p_6
def f12_acts_j53 (μ_53 : Sto) (l1_53 : Int32) : Option (Int32 × Sto) :=
  if l1_53 = 0 then
    f12_acts_j141 μ_53
  else
    stp (uI μ_53 2017 31 ((fI μ_53 2017 31) + (1 : Int32))) fun μx_4 =>
    gd (inb (fI μx_4 2017 31) 151) <|
    stp (uA μx_4 2034 (Int32.toNatClampNeg (fI μx_4 2017 31)) (fI μx_4 2017 32)) fun μx_5 =>
    gd (inb (fI μx_5 2017 31) 151) <|
    stp (uA μx_5 2035 (Int32.toNatClampNeg (fI μx_5 2017 31)) (0 : Int32)) fun μx_6 =>
    gd (inb (fI μx_6 2017 32) 151) <|
    stp (uA μx_6 2035 (Int32.toNatClampNeg (fI μx_6 2017 32)) (fI μx_6 2017 31)) fun μx_7 =>
    stp (uI μx_7 2017 32 (fI μx_7 2017 31)) fun μx_8 =>
    if (fI μx_8 2017 34) = 0 then
      f12_acts_j127 μx_8 (-1 : Int32)
    else
      f12_acts_j127 μx_8 (fI μx_8 2017 31)
def f12_acts_j51 (μ_51 : Sto) : Option (Int32 × Sto) :=
  some ((0 : Int32), μ_51)
def f12_acts_j29 (μ_29 : Sto) (s0_29 : Int32) : Option (Int32 × Sto) :=
  stp s0_29 fun x1_9 =>
  bnd (f12_isTooMuch μ_29) fun p_12 =>
  if p_12 = 0 then
    if x1_9 = 0 then
      f12_acts_j53 μ_29 x1_9
    else
      if (fI μ_29 2017 31) = (150 : Int32) then
        f12_acts_j51 μ_29
      else
        f12_acts_j53 μ_29 x1_9
  else
    f12_acts_j51 μ_29
def f12_acts_j24 (μ_24 : Sto) : Option (Int32 × Sto) :=
  f12_acts_j29 μ_24 (1 : Int32)
def f12_acts (μ : Sto) : Option (Int32 × Sto) :=
  if (fI μ 2017 27) = 0 then
    some ((1 : Int32), μ)
  else
    if (fI μ 2017 34) = 0 then
      f12_acts_j24 μ
    else
      if (fI μ 2017 33) = (-1 : Int32) then
        f12_acts_j24 μ
      else
        f12_acts_j29 μ (0 : Int32)
def f12_feed_j151 (l1 : Int64) (μ_151 : Sto) (l5_151 : Int32) : Option ((Sto × Int32) ⊕ Sto) :=
  stp (l5_151 + (-1 : Int32)) fun x5_1 =>
  some (.inl (μ_151, x5_1))
def f12_feed_b106 (l1 : Int64) (μ_106 : Sto) (l5_106 : Int32) : Option ((Sto × Int32) ⊕ Sto) :=
  if l5_106 < 0 then
    some (.inr μ_106)
  else
    stp (Int64.toInt32 ((UInt64.toInt64 (Int64.toUInt64 l1 >>> (Int64.toUInt64 (Int32.toInt64 ((8 : Int32) * l5_106)) &&& Int64.toUInt64 63))) &&& (255 : Int64))) fun x6_2 =>
    if x6_2 = 0 then
      f12_feed_j151 l1 μ_106 l5_106
    else
      gd (inb (fI μ_106 2017 11) 200) <|
      stp (uA μ_106 2023 (Int32.toNatClampNeg (fI μ_106 2017 11)) x6_2) fun μx_3 =>
      stp (uI μx_3 2017 11 ((fI μx_3 2017 11) + (1 : Int32))) fun μx_4 =>
      f12_feed_j151 l1 μx_4 l5_106
def f12_feed_j106 (l1 : Int64) (μ_106 : Sto) (l5_106 : Int32) : Option (Int32 × Sto) :=
  bnd (loopF (fun s_106 => f12_feed_b106 l1 s_106.1 s_106.2) FU (μ_106, l5_106)) fun r_106 =>
    bnd (f12_told r_106 (fI r_106 2017 11)) fun p_5 =>
    some (p_5.1, p_5.2)
def f12_feed_j65 (l1 : Int64) (μ_8 : Sto) (l3_65 : Int32) (l5_65 : Int32) (s0_65 : Int32) : Option ((Int32 × Int32 × Int32) ⊕ (Int32 × Int32)) :=
  stp s0_65 fun x4_5 =>
  stp (l5_65 + (1 : Int32)) fun x5_6 =>
  some (.inl (l3_65, x4_5, x5_6))
def f12_feed_j64 (l1 : Int64) (μ_8 : Sto) (l3_64 : Int32) (l5_64 : Int32) : Option ((Int32 × Int32 × Int32) ⊕ (Int32 × Int32)) :=
  f12_feed_j65 l1 μ_8 l3_64 l5_64 (0 : Int32)
def f12_feed_j60 (l1 : Int64) (μ_8 : Sto) (l3_60 : Int32) (l5_60 : Int32) : Option ((Int32 × Int32 × Int32) ⊕ (Int32 × Int32)) :=
  f12_feed_j65 l1 μ_8 l3_60 l5_60 (1 : Int32)
def f12_feed_j40 (l1 : Int64) (μ_8 : Sto) (l4_40 : Int32) (l5_40 : Int32) (l6_40 : Int32) (s0_40 : Int32) (s1_40 : Int32) : Option ((Int32 × Int32 × Int32) ⊕ (Int32 × Int32)) :=
  stp (s0_40 + s1_40) fun x3_7 =>
  if l4_40 = 0 then
    f12_feed_j64 l1 μ_8 x3_7 l5_40
  else
    if l6_40 = 0 then
      f12_feed_j60 l1 μ_8 x3_7 l5_40
    else
      bnd (f12_isLetter l6_40) fun p_8 =>
      if p_8 = 0 then
        f12_feed_j64 l1 μ_8 x3_7 l5_40
      else
        f12_feed_j60 l1 μ_8 x3_7 l5_40
def f12_feed_b8 (l1 : Int64) (μ_8 : Sto) (l3_8 : Int32) (l4_8 : Int32) (l5_8 : Int32) : Option ((Int32 × Int32 × Int32) ⊕ (Int32 × Int32)) :=
  if (8 : Int32) ≤ l5_8 then
    some (.inr (l3_8, l4_8))
  else
    stp (Int64.toInt32 ((UInt64.toInt64 (Int64.toUInt64 l1 >>> (Int64.toUInt64 (Int32.toInt64 ((8 : Int32) * l5_8)) &&& Int64.toUInt64 63))) &&& (255 : Int64))) fun x6_9 =>
    if x6_9 = 0 then
      f12_feed_j40 l1 μ_8 l4_8 l5_8 x6_9 l3_8 (0 : Int32)
    else
      f12_feed_j40 l1 μ_8 l4_8 l5_8 x6_9 l3_8 (1 : Int32)
def f12_feed_j8 (l1 : Int64) (μ_8 : Sto) (l3_8 : Int32) (l4_8 : Int32) (l5_8 : Int32) : Option (Int32 × Sto) :=
  bnd (loopF (fun s_8 => f12_feed_b8 l1 μ_8 s_8.1 s_8.2.1 s_8.2.2) FU (l3_8, l4_8, l5_8)) fun r_8 =>
    if r_8.2 = 0 then
      bnd (f12_refuse μ_8 (1 : Int32)) fun p_19 =>
      some (p_19.1, p_19.2)
    else
      if ((fI μ_8 2017 11) + r_8.1) ≤ (200 : Int32) then
        stp (7 : Int32) fun x5_10 =>
        f12_feed_j106 l1 μ_8 x5_10
      else
        bnd (f12_refuse μ_8 (2 : Int32)) fun p_18 =>
        some (p_18.1, p_18.2)
def f12_feed (μ : Sto) (l1 : Int64) : Option (Int32 × Sto) :=
  stp (0 : Int32) fun x3_11 =>
  stp (1 : Int32) fun x4_12 =>
  stp (0 : Int32) fun x5_13 =>
  f12_feed_j8 l1 μ x3_11 x4_12 x5_13
def f12_clearTape (μ : Sto) : Option (Int32 × Sto) :=
  stp (fI μ 2017 11) fun x1_1 =>
  stp (uI μ 2017 11 (0 : Int32)) fun μx_2 =>
  bnd (f12_told μx_2 x1_1) fun p_1 =>
  some (p_1.1, p_1.2)
def f12_clips_b14 (l1 : Int32) (l2 : Int32) (μ_14 : Sto) (l3_14 : Int32) : Option ((Sto × Int32) ⊕ Sto) :=
  if l2 ≤ l3_14 then
    some (.inr μ_14)
  else
    gd (inb l3_14 3000) <|
    gd (inb (l3_14 - l1) 12000) <|
    stp (uA μ_14 2024 (Int32.toNatClampNeg (l3_14 - l1)) (aI μ_14 2018 (Int32.toNatClampNeg l3_14))) fun μx_1 =>
    stp (l3_14 + (1 : Int32)) fun x3_2 =>
    some (.inl (μx_1, x3_2))
def f12_clips_j14 (l1 : Int32) (l2 : Int32) (μ_14 : Sto) (l3_14 : Int32) : Option (Sto) :=
  bnd (loopF (fun s_14 => f12_clips_b14 l1 l2 s_14.1 s_14.2) FU (μ_14, l3_14)) fun r_14 =>
    some r_14
def f12_clips (μ : Sto) (l1 : Int32) (l2 : Int32) : Option (Sto) :=
  stp (uI μ 2017 13 (0 : Int32)) fun μx_3 =>
  stp (uI μx_3 2017 12 (l2 - l1)) fun μx_4 =>
  stp l1 fun x3_5 =>
  f12_clips_j14 l1 l2 μx_4 x3_5
def f12_copy_j16 (l1 : Int32) (l2 : Int32) (μ_16 : Sto) : Option (Int32 × Sto) :=
  bnd (f12_refuse μ_16 (1 : Int32)) fun p_1 =>
  some (p_1.1, p_1.2)
def f12_copy (μ : Sto) (l1 : Int32) (l2 : Int32) : Option (Int32 × Sto) :=
  bnd (f12_isPlace μ l1) fun p_2 =>
  if p_2 = 0 then
    f12_copy_j16 l1 l2 μ
  else
    bnd (f12_isPlace μ l2) fun p_4 =>
    if p_4 = 0 then
      f12_copy_j16 l1 l2 μ
    else
      if l1 ≤ l2 then
        bnd (f12_clips μ l1 l2) fun p_7 =>
        bnd (f12_told p_7 (fI p_7 2017 12)) fun p_8 =>
        some (p_8.1, p_8.2)
      else
        bnd (f12_refuse μ (2 : Int32)) fun p_9 =>
        some (p_9.1, p_9.2)
def f12_copyBlock_j165 (l1 : Int32) (l2 : Int32) (l3 : Int32) (l4 : Int32) (l6_92 : Int32) (l7_92 : Int32) (l8_92 : Int32) (μ_165 : Sto) (l9_165 : Int32) (s0_165 : Int32) (s1_165 : Int32) : Option ((Sto × Int32 × Int32) ⊕ (Sto × Int32)) :=
  stp (s0_165 + s1_165) fun x5_1 =>
  stp (l9_165 + (1 : Int32)) fun x9_2 =>
  some (.inl (μ_165, x5_1, x9_2))
def f12_copyBlock_j152 (l1 : Int32) (l2 : Int32) (l3 : Int32) (l4 : Int32) (l6_92 : Int32) (l7_92 : Int32) (l8_92 : Int32) (μ_152 : Sto) (l5_152 : Int32) (l9_152 : Int32) (l10_152 : Int32) (s1_152 : Int32) (s2_152 : Int32) : Option ((Sto × Int32 × Int32) ⊕ (Sto × Int32)) :=
  gd (inb s1_152 12000) <|
  stp (uA μ_152 2024 (Int32.toNatClampNeg s1_152) s2_152) fun μx_3 =>
  if l10_152 = 0 then
    f12_copyBlock_j165 l1 l2 l3 l4 l6_92 l7_92 l8_92 μx_3 l9_152 l5_152 (0 : Int32)
  else
    f12_copyBlock_j165 l1 l2 l3 l4 l6_92 l7_92 l8_92 μx_3 l9_152 l5_152 (1 : Int32)
def f12_copyBlock_j116 (l1 : Int32) (l2 : Int32) (l3 : Int32) (l4 : Int32) (l6_92 : Int32) (l7_92 : Int32) (l8_92 : Int32) (μ_116 : Sto) (l5_116 : Int32) (l9_116 : Int32) (s0_116 : Int32) : Option ((Sto × Int32 × Int32) ⊕ (Sto × Int32)) :=
  stp s0_116 fun x10_4 =>
  if x10_4 = 0 then
    f12_copyBlock_j152 l1 l2 l3 l4 l6_92 l7_92 l8_92 μ_116 l5_116 l9_116 x10_4 ((l4 * l6_92) + l9_116) (32 : Int32)
  else
    gd (inb ((l7_92 + l3) + l9_116) 3000) <|
    f12_copyBlock_j152 l1 l2 l3 l4 l6_92 l7_92 l8_92 μ_116 l5_116 l9_116 x10_4 ((l4 * l6_92) + l9_116) (aI μ_116 2018 (Int32.toNatClampNeg ((l7_92 + l3) + l9_116)))
def f12_copyBlock_b92 (l1 : Int32) (l2 : Int32) (l3 : Int32) (l4 : Int32) (μ_92 : Sto) (l5_92 : Int32) (l6_92 : Int32) (l7_92 : Int32) (l8_92 : Int32) (l9_92 : Int32) : Option ((Sto × Int32 × Int32) ⊕ (Sto × Int32)) :=
  if l4 ≤ l9_92 then
    some (.inr (μ_92, l5_92))
  else
    if l8_92 ≤ ((l7_92 + l3) + l9_92) then
      f12_copyBlock_j116 l1 l2 l3 l4 l6_92 l7_92 l8_92 μ_92 l5_92 l9_92 (0 : Int32)
    else
      f12_copyBlock_j116 l1 l2 l3 l4 l6_92 l7_92 l8_92 μ_92 l5_92 l9_92 (1 : Int32)
def f12_copyBlock_j92 (l1 : Int32) (l2 : Int32) (l3 : Int32) (l4 : Int32) (μ_92 : Sto) (l5_92 : Int32) (l6_92 : Int32) (l7_92 : Int32) (l8_92 : Int32) (l9_92 : Int32) : Option ((Sto × Int32 × Int32) ⊕ (Sto × Int32)) :=
  bnd (loopF (fun s_92 => f12_copyBlock_b92 l1 l2 l3 l4 s_92.1 s_92.2.1 l6_92 l7_92 l8_92 s_92.2.2) FU (μ_92, l5_92, l9_92)) fun r_92 =>
    stp (l6_92 + (1 : Int32)) fun x6_6 =>
    some (.inl (r_92.1, r_92.2, x6_6))
def f12_copyBlock_b63 (l1 : Int32) (l2 : Int32) (l3 : Int32) (l4 : Int32) (μ_63 : Sto) (l5_63 : Int32) (l6_63 : Int32) : Option ((Sto × Int32 × Int32) ⊕ (Sto × Int32)) :=
  if l2 ≤ l6_63 then
    some (.inr (μ_63, l5_63))
  else
    bnd (f12_beginOf μ_63 (l1 + l6_63)) fun p_9 =>
    stp p_9 fun x7_10 =>
    bnd (f12_endOf μ_63 (l1 + l6_63)) fun p_10 =>
    stp p_10 fun x8_11 =>
    stp (0 : Int32) fun x9_12 =>
    f12_copyBlock_j92 l1 l2 l3 l4 μ_63 l5_63 l6_63 x7_10 x8_11 x9_12
def f12_copyBlock_j63 (l1 : Int32) (l2 : Int32) (l3 : Int32) (l4 : Int32) (μ_63 : Sto) (l5_63 : Int32) (l6_63 : Int32) : Option (Int32 × Sto) :=
  bnd (loopF (fun s_63 => f12_copyBlock_b63 l1 l2 l3 l4 s_63.1 s_63.2.1 s_63.2.2) FU (μ_63, l5_63, l6_63)) fun r_63 =>
    stp (uI r_63.1 2017 13 l2) fun μx_13 =>
    stp (uI μx_13 2017 14 l4) fun μx_14 =>
    stp (uI μx_14 2017 12 (l2 * l4)) fun μx_15 =>
    bnd (f12_told μx_15 r_63.2) fun p_11 =>
    some (p_11.1, p_11.2)
def f12_copyBlock_j51 (l1 : Int32) (l2 : Int32) (l3 : Int32) (l4 : Int32) (μ_51 : Sto) : Option (Int32 × Sto) :=
  bnd (f12_refuse μ_51 (2 : Int32)) fun p_12 =>
  some (p_12.1, p_12.2)
def f12_copyBlock_j18 (l1 : Int32) (l2 : Int32) (l3 : Int32) (l4 : Int32) (μ_18 : Sto) : Option (Int32 × Sto) :=
  bnd (f12_refuse μ_18 (1 : Int32)) fun p_13 =>
  some (p_13.1, p_13.2)
def f12_copyBlock (μ : Sto) (l1 : Int32) (l2 : Int32) (l3 : Int32) (l4 : Int32) : Option (Int32 × Sto) :=
  bnd (f12_isLine μ l1) fun p_14 =>
  if p_14 = 0 then
    f12_copyBlock_j18 l1 l2 l3 l4 μ
  else
    bnd (f12_lines μ) fun p_16 =>
    if l2 ≤ (p_16 - l1) then
      if l2 < (1 : Int32) then
        f12_copyBlock_j51 l1 l2 l3 l4 μ
      else
        bnd (f12_in l3 (0 : Int32) (200 : Int32)) fun p_19 =>
        if p_19 = 0 then
          f12_copyBlock_j51 l1 l2 l3 l4 μ
        else
          bnd (f12_in l4 (1 : Int32) (40 : Int32)) fun p_21 =>
          if p_21 = 0 then
            f12_copyBlock_j51 l1 l2 l3 l4 μ
          else
            stp (0 : Int32) fun x5_16 =>
            stp (0 : Int32) fun x6_17 =>
            f12_copyBlock_j63 l1 l2 l3 l4 μ x5_16 x6_17
    else
      f12_copyBlock_j18 l1 l2 l3 l4 μ
def f12_types_b10 (μ_10 : Sto) (l1_10 : Int32) : Option ((Sto × Int32) ⊕ Sto) :=
  if (fI μ_10 2017 6) ≤ l1_10 then
    some (.inr μ_10)
  else
    gd (inb l1_10 8) <|
    gd (inb l1_10 8) <|
    bnd (f12_adds μ_10 (aI μ_10 2019 (Int32.toNatClampNeg l1_10)) (aI μ_10 2019 (Int32.toNatClampNeg l1_10)) (0 : Int32) (fI μ_10 2017 28)) fun p_6 =>
    stp (l1_10 + (1 : Int32)) fun x1_1 =>
    some (.inl (p_6, x1_1))
def f12_types_j10 (μ_10 : Sto) (l1_10 : Int32) : Option (Int32 × Sto) :=
  bnd (loopF (fun s_10 => f12_types_b10 s_10.1 s_10.2) FU (μ_10, l1_10)) fun r_10 =>
    bnd (f12_acts r_10) fun p_7 =>
    gd (isB p_7.1) <|
    some (p_7.1, p_7.2)
def f12_types (μ : Sto) : Option (Int32 × Sto) :=
  bnd (f12_begins μ) fun p_9 =>
  bnd (f12_putsTape p_9) fun p_10 =>
  stp (0 : Int32) fun x1_2 =>
  f12_types_j10 p_10 x1_2
def f12_steps_b63 (l1 : Int32) (l2 : Int32) (l3 : Int32) (μ_63 : Sto) (l4_63 : Int32) : Option ((Sto × Int32) ⊕ Sto) :=
  if (fI μ_63 2017 11) ≤ l4_63 then
    some (.inr μ_63)
  else
    gd (inb l4_63 200) <|
    gd (inb (((200 : Int32) * (fI μ_63 2017 50)) + l4_63) 8000) <|
    stp (uA μ_63 2048 (Int32.toNatClampNeg (((200 : Int32) * (fI μ_63 2017 50)) + l4_63)) (aI μ_63 2023 (Int32.toNatClampNeg l4_63))) fun μx_2 =>
    stp (l4_63 + (1 : Int32)) fun x4_3 =>
    some (.inl (μx_2, x4_3))
def f12_steps_j63 (l1 : Int32) (l2 : Int32) (l3 : Int32) (μ_63 : Sto) (l4_63 : Int32) : Option (Sto) :=
  bnd (loopF (fun s_63 => f12_steps_b63 l1 l2 l3 s_63.1 s_63.2) FU (μ_63, l4_63)) fun r_63 =>
    stp (uI r_63 2017 50 ((fI r_63 2017 50) + (1 : Int32))) fun μx_4 =>
    some μx_4
def f12_steps_j16 (l1 : Int32) (l2 : Int32) (l3 : Int32) (μ_16 : Sto) : Option (Sto) :=
  some μ_16
def f12_steps (μ : Sto) (l1 : Int32) (l2 : Int32) (l3 : Int32) : Option (Sto) :=
  if (fI μ 2017 51) = 0 then
    f12_steps_j16 l1 l2 l3 μ
  else
    if (fI μ 2017 50) = (40 : Int32) then
      f12_steps_j16 l1 l2 l3 μ
    else
      gd (inb (fI μ 2017 50) 40) <|
      stp (uA μ 2044 (Int32.toNatClampNeg (fI μ 2017 50)) l1) fun μx_5 =>
      gd (inb (fI μx_5 2017 50) 40) <|
      stp (uA μx_5 2045 (Int32.toNatClampNeg (fI μx_5 2017 50)) l2) fun μx_6 =>
      gd (inb (fI μx_6 2017 50) 40) <|
      stp (uA μx_6 2046 (Int32.toNatClampNeg (fI μx_6 2017 50)) l3) fun μx_7 =>
      gd (inb (fI μx_7 2017 50) 40) <|
      stp (uA μx_7 2047 (Int32.toNatClampNeg (fI μx_7 2017 50)) (fI μx_7 2017 11)) fun μx_8 =>
      stp (0 : Int32) fun x4_9 =>
      f12_steps_j63 l1 l2 l3 μx_8 x4_9
def f12_type (μ : Sto) : Option (Int32 × Sto) :=
  bnd (f12_types μ) fun p_1 =>
  if p_1.1 = 0 then
    bnd (f12_refuse p_1.2 (1 : Int32)) fun p_5 =>
    some (p_5.1, p_5.2)
  else
    bnd (f12_steps p_1.2 (0 : Int32) (0 : Int32) (0 : Int32)) fun p_3 =>
    bnd (f12_told p_3 (fI p_3 2017 5)) fun p_4 =>
    some (p_4.1, p_4.2)
def f12_erases_j116 (l1 : Int32) (μ_116 : Sto) (l2_116 : Int32) (l3_116 : Int32) : Option ((Sto × Int32 × Int32) ⊕ Sto) :=
  stp (l3_116 + (1 : Int32)) fun x3_1 =>
  some (.inl (μ_116, l2_116, x3_1))
def f12_erases_j80 (l1 : Int32) (μ_80 : Sto) (l2_80 : Int32) (l3_80 : Int32) (l4_80 : Int32) (s0_80 : Int32) : Option ((Sto × Int32 × Int32) ⊕ Sto) :=
  stp s0_80 fun x5_2 =>
  if x5_2 ≤ l4_80 then
    f12_erases_j116 l1 μ_80 l2_80 l3_80
  else
    bnd (f12_adds μ_80 l4_80 x5_2 (0 : Int32) (0 : Int32)) fun p_2 =>
    stp (uI p_2 2017 42 ((fI p_2 2017 42) + (x5_2 - l4_80))) fun μx_3 =>
    stp x5_2 fun x2_4 =>
    f12_erases_j116 l1 μx_3 x2_4 l3_80
def f12_erases_j47 (l1 : Int32) (μ_47 : Sto) (l2_47 : Int32) (l3_47 : Int32) (s0_47 : Int32) (s1_47 : Int32) : Option ((Sto × Int32 × Int32) ⊕ Sto) :=
  bnd (f12_more s0_47 s1_47) fun p_3 =>
  stp p_3 fun x4_5 =>
  if 0 ≤ l1 then
    gd (inb l3_47 8) <|
    bnd (f12_less (fI μ_47 2017 5) ((aI μ_47 2019 (Int32.toNatClampNeg l3_47)) + l1)) fun p_6 =>
    f12_erases_j80 l1 μ_47 l2_47 l3_47 x4_5 p_6
  else
    gd (inb l3_47 8) <|
    f12_erases_j80 l1 μ_47 l2_47 l3_47 x4_5 (aI μ_47 2019 (Int32.toNatClampNeg l3_47))
def f12_erases_b13 (l1 : Int32) (μ_13 : Sto) (l2_13 : Int32) (l3_13 : Int32) : Option ((Sto × Int32 × Int32) ⊕ Sto) :=
  if (fI μ_13 2017 6) ≤ l3_13 then
    some (.inr μ_13)
  else
    if 0 ≤ l1 then
      gd (inb l3_13 8) <|
      f12_erases_j47 l1 μ_13 l2_13 l3_13 l2_13 (aI μ_13 2019 (Int32.toNatClampNeg l3_13))
    else
      gd (inb l3_13 8) <|
      bnd (f12_more (0 : Int32) ((aI μ_13 2019 (Int32.toNatClampNeg l3_13)) + l1)) fun p_14 =>
      f12_erases_j47 l1 μ_13 l2_13 l3_13 l2_13 p_14
def f12_erases_j13 (l1 : Int32) (μ_13 : Sto) (l2_13 : Int32) (l3_13 : Int32) : Option (Int32 × Sto) :=
  bnd (loopF (fun s_13 => f12_erases_b13 l1 s_13.1 s_13.2.1 s_13.2.2) FU (μ_13, l2_13, l3_13)) fun r_13 =>
    bnd (f12_acts r_13) fun p_15 =>
    gd (isB p_15.1) <|
    some (p_15.1, p_15.2)
def f12_erases (μ : Sto) (l1 : Int32) : Option (Int32 × Sto) :=
  bnd (f12_begins μ) fun p_17 =>
  stp (uI p_17 2017 42 (0 : Int32)) fun μx_6 =>
  stp (0 : Int32) fun x2_7 =>
  stp (0 : Int32) fun x3_8 =>
  f12_erases_j13 l1 μx_6 x2_7 x3_8
def f12_erase (μ : Sto) (l1 : Int32) : Option (Int32 × Sto) :=
  bnd (f12_in l1 (-100 : Int32) (100 : Int32)) fun p_1 =>
  if p_1 = 0 then
    bnd (f12_refuse μ (1 : Int32)) fun p_8 =>
    some (p_8.1, p_8.2)
  else
    bnd (f12_erases μ l1) fun p_3 =>
    if p_3.1 = 0 then
      bnd (f12_refuse p_3.2 (2 : Int32)) fun p_7 =>
      some (p_7.1, p_7.2)
    else
      bnd (f12_steps p_3.2 (1 : Int32) l1 (0 : Int32)) fun p_5 =>
      bnd (f12_told p_5 (fI p_5 2017 42)) fun p_6 =>
      some (p_6.1, p_6.2)
def f12_replace_j75 (l1 : Int32) (l2 : Int32) (μ_75 : Sto) (s0_75 : Int32) : Option (Int32 × Sto) :=
  some (s0_75, μ_75)
def f12_replace_j16 (l1 : Int32) (l2 : Int32) (μ_16 : Sto) : Option (Int32 × Sto) :=
  bnd (f12_refuse μ_16 (1 : Int32)) fun p_1 =>
  some (p_1.1, p_1.2)
def f12_replace (μ : Sto) (l1 : Int32) (l2 : Int32) : Option (Int32 × Sto) :=
  bnd (f12_isPlace μ l1) fun p_2 =>
  if p_2 = 0 then
    f12_replace_j16 l1 l2 μ
  else
    bnd (f12_isPlace μ l2) fun p_4 =>
    if p_4 = 0 then
      f12_replace_j16 l1 l2 μ
    else
      if l1 ≤ l2 then
        bnd (f12_begins μ) fun p_7 =>
        bnd (f12_putsTape p_7) fun p_8 =>
        bnd (f12_adds p_8 l1 l2 (0 : Int32) (fI p_8 2017 28)) fun p_9 =>
        bnd (f12_acts p_9) fun p_10 =>
        if p_10.1 = 0 then
          bnd (f12_refuse p_10.2 (3 : Int32)) fun p_12 =>
          f12_replace_j75 l1 l2 p_12.2 p_12.1
        else
          bnd (f12_told p_10.2 (fI p_10.2 2017 5)) fun p_13 =>
          f12_replace_j75 l1 l2 p_13.2 p_13.1
      else
        bnd (f12_refuse μ (2 : Int32)) fun p_14 =>
        some (p_14.1, p_14.2)
def f12_cut_b99 (l1 : Int32) (l2 : Int32) (μ_99 : Sto) (l3_99 : Int32) : Option ((Sto × Int32) ⊕ Sto) :=
  if (fI μ_99 2017 12) ≤ l3_99 then
    some (.inr μ_99)
  else
    gd (inb l3_99 3000) <|
    gd (inb l3_99 12000) <|
    stp (uA μ_99 2024 (Int32.toNatClampNeg l3_99) (aI μ_99 2043 (Int32.toNatClampNeg l3_99))) fun μx_1 =>
    stp (l3_99 + (1 : Int32)) fun x3_2 =>
    some (.inl (μx_1, x3_2))
def f12_cut_j99 (l1 : Int32) (l2 : Int32) (μ_99 : Sto) (l3_99 : Int32) : Option (Int32 × Sto) :=
  bnd (loopF (fun s_99 => f12_cut_b99 l1 l2 s_99.1 s_99.2) FU (μ_99, l3_99)) fun r_99 =>
    bnd (f12_told r_99 (fI r_99 2017 12)) fun p_5 =>
    some (p_5.1, p_5.2)
def f12_cut_b35 (l1 : Int32) (l2 : Int32) (μ_35 : Sto) (l3_35 : Int32) : Option ((Sto × Int32) ⊕ Sto) :=
  if l2 ≤ l3_35 then
    some (.inr μ_35)
  else
    gd (inb l3_35 3000) <|
    gd (inb (l3_35 - l1) 3000) <|
    stp (uA μ_35 2043 (Int32.toNatClampNeg (l3_35 - l1)) (aI μ_35 2018 (Int32.toNatClampNeg l3_35))) fun μx_6 =>
    stp (l3_35 + (1 : Int32)) fun x3_7 =>
    some (.inl (μx_6, x3_7))
def f12_cut_j35 (l1 : Int32) (l2 : Int32) (μ_35 : Sto) (l3_35 : Int32) : Option (Int32 × Sto) :=
  bnd (loopF (fun s_35 => f12_cut_b35 l1 l2 s_35.1 s_35.2) FU (μ_35, l3_35)) fun r_35 =>
    bnd (f12_begins r_35) fun p_14 =>
    bnd (f12_adds p_14 l1 l2 (0 : Int32) (0 : Int32)) fun p_15 =>
    bnd (f12_acts p_15) fun p_16 =>
    if p_16.1 = 0 then
      bnd (f12_refuse p_16.2 (3 : Int32)) fun p_18 =>
      some (p_18.1, p_18.2)
    else
      stp (uI p_16.2 2017 13 (0 : Int32)) fun μx_8 =>
      stp (uI μx_8 2017 12 (l2 - l1)) fun μx_9 =>
      stp (0 : Int32) fun x3_10 =>
      f12_cut_j99 l1 l2 μx_9 x3_10
def f12_cut_j16 (l1 : Int32) (l2 : Int32) (μ_16 : Sto) : Option (Int32 × Sto) :=
  bnd (f12_refuse μ_16 (1 : Int32)) fun p_19 =>
  some (p_19.1, p_19.2)
def f12_cut (μ : Sto) (l1 : Int32) (l2 : Int32) : Option (Int32 × Sto) :=
  bnd (f12_isPlace μ l1) fun p_20 =>
  if p_20 = 0 then
    f12_cut_j16 l1 l2 μ
  else
    bnd (f12_isPlace μ l2) fun p_22 =>
    if p_22 = 0 then
      f12_cut_j16 l1 l2 μ
    else
      if l1 ≤ l2 then
        stp l1 fun x3_11 =>
        f12_cut_j35 l1 l2 μ x3_11
      else
        bnd (f12_refuse μ (2 : Int32)) fun p_25 =>
        some (p_25.1, p_25.2)
def f12_blockLetters_j69 (l1 : Int32) (l2 : Int32) (μ : Sto) (l4_11 : Int32) (l5_69 : Int32) (l7_69 : Int32) (s0_69 : Int32) (s1_69 : Int32) (s2_69 : Int32) : Option ((Int32 × Int32) ⊕ Int32) :=
  bnd (f12_more (0 : Int32) (l2 - l7_69)) fun p_1 =>
  stp (s0_69 + ((s1_69 + s2_69) + p_1)) fun x3_1 =>
  stp (l5_69 + (1 : Int32)) fun x5_2 =>
  some (.inl (x3_1, x5_2))
def f12_blockLetters_j50 (l1 : Int32) (l2 : Int32) (μ : Sto) (l4_11 : Int32) (l3_50 : Int32) (l5_50 : Int32) (l6_50 : Int32) (s0_50 : Int32) : Option ((Int32 × Int32) ⊕ Int32) :=
  stp s0_50 fun x7_3 =>
  if l4_11 ≤ l6_50 then
    f12_blockLetters_j69 l1 l2 μ l4_11 l5_50 x7_3 l3_50 (fI μ 2017 14) (1 : Int32)
  else
    f12_blockLetters_j69 l1 l2 μ l4_11 l5_50 x7_3 l3_50 (fI μ 2017 14) (0 : Int32)
def f12_blockLetters_b11 (l1 : Int32) (l2 : Int32) (μ : Sto) (l3_11 : Int32) (l4_11 : Int32) (l5_11 : Int32) : Option ((Int32 × Int32) ⊕ Int32) :=
  if (fI μ 2017 13) ≤ l5_11 then
    some (.inr l3_11)
  else
    stp (l1 + l5_11) fun x6_4 =>
    if l4_11 ≤ x6_4 then
      f12_blockLetters_j50 l1 l2 μ l4_11 l3_11 l5_11 x6_4 (0 : Int32)
    else
      bnd (f12_endOf μ x6_4) fun p_5 =>
      bnd (f12_beginOf μ x6_4) fun p_6 =>
      f12_blockLetters_j50 l1 l2 μ l4_11 l3_11 l5_11 x6_4 (p_5 - p_6)
def f12_blockLetters_j11 (l1 : Int32) (l2 : Int32) (μ : Sto) (l3_11 : Int32) (l4_11 : Int32) (l5_11 : Int32) : Option (Int32) :=
  bnd (loopF (fun s_11 => f12_blockLetters_b11 l1 l2 μ s_11.1 l4_11 s_11.2) FU (l3_11, l5_11)) fun r_11 =>
    some r_11
def f12_blockLetters (μ : Sto) (l1 : Int32) (l2 : Int32) : Option (Int32) :=
  stp (0 : Int32) fun x3_5 =>
  bnd (f12_lines μ) fun p_7 =>
  stp p_7 fun x4_6 =>
  stp (0 : Int32) fun x5_7 =>
  f12_blockLetters_j11 l1 l2 μ x3_5 x4_6 x5_7
def f12_pastesBlock_j266 (l1_60 : Int32) (l2_60 : Int32) (l3_60 : Int32) (μ_266 : Sto) (l4_266 : Int32) (l5_266 : Int32) (l6_266 : Int32) : Option ((Sto × Int32 × Int32 × Int32) ⊕ Sto) :=
  stp (l6_266 + (1 : Int32)) fun x6_1 =>
  some (.inl (μ_266, l4_266, l5_266, x6_1))
def f12_pastesBlock_j242 (l1_60 : Int32) (l2_60 : Int32) (l3_60 : Int32) (μ_242 : Sto) (l4_242 : Int32) (l5_242 : Int32) (l6_242 : Int32) (s0_242 : Int32) : Option ((Sto × Int32 × Int32 × Int32) ⊕ Sto) :=
  stp s0_242 fun x9_2 =>
  if x9_2 = 0 then
    bnd (f12_adds μ_242 l5_242 l5_242 l4_242 ((fI μ_242 2017 28) - l4_242)) fun p_2 =>
    f12_pastesBlock_j266 l1_60 l2_60 l3_60 p_2 l4_242 l5_242 l6_242
  else
    f12_pastesBlock_j266 l1_60 l2_60 l3_60 μ_242 l4_242 l5_242 l6_242
def f12_pastesBlock_j241 (l1_60 : Int32) (l2_60 : Int32) (l3_60 : Int32) (μ_241 : Sto) (l4_241 : Int32) (l5_241 : Int32) (l6_241 : Int32) : Option ((Sto × Int32 × Int32 × Int32) ⊕ Sto) :=
  f12_pastesBlock_j242 l1_60 l2_60 l3_60 μ_241 l4_241 l5_241 l6_241 (0 : Int32)
def f12_pastesBlock_b175 (l1_60 : Int32) (l2_60 : Int32) (l3_60 : Int32) (μ_175 : Sto) (l4_175 : Int32) (l5_175 : Int32) (l6_175 : Int32) (l7_175 : Int32) (l9_175 : Int32) : Option ((Sto × Int32) ⊕ Sto) :=
  if (fI μ_175 2017 14) ≤ l9_175 then
    some (.inr μ_175)
  else
    gd (inb (((fI μ_175 2017 14) * l6_175) + l9_175) 12000) <|
    bnd (f12_puts μ_175 (aI μ_175 2024 (Int32.toNatClampNeg (((fI μ_175 2017 14) * l6_175) + l9_175)))) fun p_8 =>
    stp (l9_175 + (1 : Int32)) fun x9_3 =>
    some (.inl (p_8, x9_3))
def f12_pastesBlock_j175 (l1_60 : Int32) (l2_60 : Int32) (l3_60 : Int32) (μ_175 : Sto) (l4_175 : Int32) (l5_175 : Int32) (l6_175 : Int32) (l7_175 : Int32) (l9_175 : Int32) : Option ((Sto × Int32 × Int32 × Int32) ⊕ Sto) :=
  bnd (loopF (fun s_175 => f12_pastesBlock_b175 l1_60 l2_60 l3_60 s_175.1 l4_175 l5_175 l6_175 l7_175 s_175.2) FU (μ_175, l9_175)) fun r_175 =>
    if (l7_175 + (1 : Int32)) < l3_60 then
      f12_pastesBlock_j241 l1_60 l2_60 l3_60 r_175 l4_175 l5_175 l6_175
    else
      if l5_175 = (fI r_175 2017 5) then
        if (fI r_175 2017 13) ≤ (l6_175 + (1 : Int32)) then
          f12_pastesBlock_j241 l1_60 l2_60 l3_60 r_175 l4_175 l5_175 l6_175
        else
          f12_pastesBlock_j242 l1_60 l2_60 l3_60 r_175 l4_175 l5_175 l6_175 (1 : Int32)
      else
        f12_pastesBlock_j241 l1_60 l2_60 l3_60 r_175 l4_175 l5_175 l6_175
def f12_pastesBlock_b154 (l1_60 : Int32) (l2_60 : Int32) (l3_60 : Int32) (μ_154 : Sto) (l4_154 : Int32) (l5_154 : Int32) (l6_154 : Int32) (l7_154 : Int32) (l9_154 : Int32) : Option ((Sto × Int32) ⊕ Sto) :=
  if l2_60 ≤ l9_154 then
    some (.inr μ_154)
  else
    bnd (f12_puts μ_154 (32 : Int32)) fun p_13 =>
    stp (l9_154 + (1 : Int32)) fun x9_5 =>
    some (.inl (p_13, x9_5))
def f12_pastesBlock_j154 (l1_60 : Int32) (l2_60 : Int32) (l3_60 : Int32) (μ_154 : Sto) (l4_154 : Int32) (l5_154 : Int32) (l6_154 : Int32) (l7_154 : Int32) (l9_154 : Int32) : Option ((Sto × Int32 × Int32 × Int32) ⊕ Sto) :=
  bnd (loopF (fun s_154 => f12_pastesBlock_b154 l1_60 l2_60 l3_60 s_154.1 l4_154 l5_154 l6_154 l7_154 s_154.2) FU (μ_154, l9_154)) fun r_154 =>
    stp (0 : Int32) fun x9_6 =>
    f12_pastesBlock_j175 l1_60 l2_60 l3_60 r_154 l4_154 l5_154 l6_154 l7_154 x9_6
def f12_pastesBlock_j150 (l1_60 : Int32) (l2_60 : Int32) (l3_60 : Int32) (μ_150 : Sto) (l4_150 : Int32) (l5_150 : Int32) (l6_150 : Int32) (l7_150 : Int32) (l8_150 : Int32) : Option ((Sto × Int32 × Int32 × Int32) ⊕ Sto) :=
  stp l8_150 fun x9_7 =>
  f12_pastesBlock_j154 l1_60 l2_60 l3_60 μ_150 l4_150 l5_150 l6_150 l7_150 x9_7
def f12_pastesBlock_j144 (l1_60 : Int32) (l2_60 : Int32) (l3_60 : Int32) (μ_144 : Sto) (l4_144 : Int32) (l5_144 : Int32) (l6_144 : Int32) (l7_144 : Int32) (l8_144 : Int32) : Option ((Sto × Int32 × Int32 × Int32) ⊕ Sto) :=
  bnd (f12_puts μ_144 (10 : Int32)) fun p_14 =>
  f12_pastesBlock_j150 l1_60 l2_60 l3_60 p_14 l4_144 l5_144 l6_144 l7_144 l8_144
def f12_pastesBlock_b60 (μ_60 : Sto) (l1_60 : Int32) (l2_60 : Int32) (l3_60 : Int32) (l4_60 : Int32) (l5_60 : Int32) (l6_60 : Int32) : Option ((Sto × Int32 × Int32 × Int32) ⊕ Sto) :=
  if (fI μ_60 2017 13) ≤ l6_60 then
    some (.inr μ_60)
  else
    stp (l1_60 + l6_60) fun x7_8 =>
    stp (0 : Int32) fun x8_9 =>
    if l3_60 ≤ x7_8 then
      if (fI μ_60 2017 5) ≤ l5_60 then
        f12_pastesBlock_j144 l1_60 l2_60 l3_60 μ_60 l4_60 l5_60 l6_60 x7_8 x8_9
      else
        stp (fI μ_60 2017 28) fun x4_10 =>
        stp (fI μ_60 2017 5) fun x5_11 =>
        f12_pastesBlock_j144 l1_60 l2_60 l3_60 μ_60 x4_10 x5_11 l6_60 x7_8 x8_9
    else
      bnd (f12_endOf μ_60 x7_8) fun p_20 =>
      bnd (f12_beginOf μ_60 x7_8) fun p_21 =>
      stp (p_20 - p_21) fun x8_12 =>
      stp (fI μ_60 2017 28) fun x4_13 =>
      bnd (f12_beginOf μ_60 x7_8) fun p_22 =>
      bnd (f12_less x8_12 l2_60) fun p_23 =>
      stp (p_22 + p_23) fun x5_14 =>
      f12_pastesBlock_j150 l1_60 l2_60 l3_60 μ_60 x4_13 x5_14 l6_60 x7_8 x8_12
def f12_pastesBlock_j60 (μ_60 : Sto) (l1_60 : Int32) (l2_60 : Int32) (l3_60 : Int32) (l4_60 : Int32) (l5_60 : Int32) (l6_60 : Int32) : Option (Int32 × Sto) :=
  bnd (loopF (fun s_60 => f12_pastesBlock_b60 s_60.1 l1_60 l2_60 l3_60 s_60.2.1 s_60.2.2.1 s_60.2.2.2) FU (μ_60, l4_60, l5_60, l6_60)) fun r_60 =>
    bnd (f12_acts r_60) fun p_24 =>
    gd (isB p_24.1) <|
    some (p_24.1, p_24.2)
def f12_pastesBlock (μ : Sto) : Option (Int32 × Sto) :=
  gd (inb (0 : Int32) 8) <|
  bnd (f12_lineAt μ (aI μ 2019 (Int32.toNatClampNeg (0 : Int32)))) fun p_27 =>
  stp p_27 fun x1_15 =>
  gd (inb (0 : Int32) 8) <|
  bnd (f12_beginOf μ x1_15) fun p_29 =>
  stp ((aI μ 2019 (Int32.toNatClampNeg (0 : Int32))) - p_29) fun x2_16 =>
  bnd (f12_blockLetters μ x1_15 x2_16) fun p_30 =>
  if ((fI μ 2017 5) + p_30) ≤ (3000 : Int32) then
    bnd (f12_lines μ) fun p_32 =>
    stp p_32 fun x3_17 =>
    stp (0 : Int32) fun x4_18 =>
    stp (fI μ 2017 5) fun x5_19 =>
    stp (0 : Int32) fun x6_20 =>
    f12_pastesBlock_j60 μ x1_15 x2_16 x3_17 x4_18 x5_19 x6_20
  else
    some ((0 : Int32), μ)
def f12_pastes_b56 (μ_56 : Sto) (l1_56 : Int32) : Option ((Sto × Int32) ⊕ Sto) :=
  if (fI μ_56 2017 6) ≤ l1_56 then
    some (.inr μ_56)
  else
    gd (inb l1_56 8) <|
    gd (inb l1_56 8) <|
    bnd (f12_adds μ_56 (aI μ_56 2019 (Int32.toNatClampNeg l1_56)) (aI μ_56 2019 (Int32.toNatClampNeg l1_56)) (0 : Int32) (fI μ_56 2017 28)) fun p_6 =>
    stp (l1_56 + (1 : Int32)) fun x1_1 =>
    some (.inl (p_6, x1_1))
def f12_pastes_j56 (μ_56 : Sto) (l1_56 : Int32) : Option (Int32 × Sto) :=
  bnd (loopF (fun s_56 => f12_pastes_b56 s_56.1 s_56.2) FU (μ_56, l1_56)) fun r_56 =>
    bnd (f12_acts r_56) fun p_7 =>
    gd (isB p_7.1) <|
    some (p_7.1, p_7.2)
def f12_pastes_b30 (μ_30 : Sto) (l1_30 : Int32) : Option ((Sto × Int32) ⊕ Sto) :=
  if (fI μ_30 2017 12) ≤ l1_30 then
    some (.inr μ_30)
  else
    gd (inb l1_30 12000) <|
    bnd (f12_puts μ_30 (aI μ_30 2024 (Int32.toNatClampNeg l1_30))) fun p_11 =>
    stp (l1_30 + (1 : Int32)) fun x1_3 =>
    some (.inl (p_11, x1_3))
def f12_pastes_j30 (μ_30 : Sto) (l1_30 : Int32) : Option (Int32 × Sto) :=
  bnd (loopF (fun s_30 => f12_pastes_b30 s_30.1 s_30.2) FU (μ_30, l1_30)) fun r_30 =>
    stp (0 : Int32) fun x1_4 =>
    f12_pastes_j56 r_30 x1_4
def f12_pastes (μ : Sto) : Option (Int32 × Sto) :=
  bnd (f12_begins μ) fun p_12 =>
  if (fI p_12 2017 13) ≤ 0 then
    if (fI p_12 2017 12) ≤ (3000 : Int32) then
      stp (0 : Int32) fun x1_5 =>
      f12_pastes_j30 p_12 x1_5
    else
      some ((0 : Int32), p_12)
  else
    bnd (f12_pastesBlock p_12) fun p_15 =>
    gd (isB p_15.1) <|
    some (p_15.1, p_15.2)
def f12_paste (μ : Sto) : Option (Int32 × Sto) :=
  bnd (f12_pastes μ) fun p_1 =>
  if p_1.1 = 0 then
    bnd (f12_refuse p_1.2 (1 : Int32)) fun p_5 =>
    some (p_5.1, p_5.2)
  else
    bnd (f12_steps p_1.2 (3 : Int32) (0 : Int32) (0 : Int32)) fun p_3 =>
    bnd (f12_told p_3 (fI p_3 2017 5)) fun p_4 =>
    some (p_4.1, p_4.2)
def f12_indent_j205 (l1 : Int32) (l2 : Int32) (l3 : Int32) (μ_205 : Sto) (s0_205 : Int32) : Option (Int32 × Sto) :=
  some (s0_205, μ_205)
def f12_indent_j172 (l1 : Int32) (l2 : Int32) (l3 : Int32) (μ_172 : Sto) (l4_172 : Int32) : Option ((Sto × Int32) ⊕ Sto) :=
  stp (l4_172 + (1 : Int32)) fun x4_1 =>
  some (.inl (μ_172, x4_1))
def f12_indent_j131 (l1 : Int32) (l2 : Int32) (l3 : Int32) (μ_131 : Sto) (l4_131 : Int32) (l5_131 : Int32) (l6_131 : Int32) : Option ((Sto × Int32) ⊕ Sto) :=
  if 0 ≤ l3 then
    bnd (f12_endOf μ_131 l4_131) fun p_2 =>
    if p_2 ≤ l5_131 then
      f12_indent_j172 l1 l2 l3 μ_131 l4_131
    else
      bnd (f12_adds μ_131 l5_131 l5_131 (0 : Int32) (fI μ_131 2017 28)) fun p_4 =>
      f12_indent_j172 l1 l2 l3 p_4 l4_131
  else
    bnd (f12_adds μ_131 l5_131 l6_131 (0 : Int32) (0 : Int32)) fun p_5 =>
    f12_indent_j172 l1 l2 l3 p_5 l4_131
def f12_indent_b94 (l1 : Int32) (l2 : Int32) (l3 : Int32) (μ_94 : Sto) (l4_94 : Int32) (l5_94 : Int32) (l6_94 : Int32) : Option (Int32 ⊕ Int32) :=
  if (l5_94 - l3) ≤ l6_94 then
    some (.inr l6_94)
  else
    if (fI μ_94 2017 5) ≤ l6_94 then
      some (.inr l6_94)
    else
      gd (inb l6_94 3000) <|
      bnd (f12_isSpace (aI μ_94 2018 (Int32.toNatClampNeg l6_94))) fun p_9 =>
      if p_9 = 0 then
        some (.inr l6_94)
      else
        stp (l6_94 + (1 : Int32)) fun x6_2 =>
        some (.inl x6_2)
def f12_indent_j94 (l1 : Int32) (l2 : Int32) (l3 : Int32) (μ_94 : Sto) (l4_94 : Int32) (l5_94 : Int32) (l6_94 : Int32) : Option ((Sto × Int32) ⊕ Sto) :=
  bnd (loopF (fun s_94 => f12_indent_b94 l1 l2 l3 μ_94 l4_94 l5_94 s_94) FU l6_94) fun r_94 =>
    f12_indent_j131 l1 l2 l3 μ_94 l4_94 l5_94 r_94
def f12_indent_b76 (l1 : Int32) (l2 : Int32) (l3 : Int32) (μ_76 : Sto) (l4_76 : Int32) : Option ((Sto × Int32) ⊕ Sto) :=
  if l2 < l4_76 then
    some (.inr μ_76)
  else
    bnd (f12_beginOf μ_76 l4_76) fun p_16 =>
    stp p_16 fun x5_4 =>
    stp x5_4 fun x6_5 =>
    f12_indent_j94 l1 l2 l3 μ_76 l4_76 x5_4 x6_5
def f12_indent_j76 (l1 : Int32) (l2 : Int32) (l3 : Int32) (μ_76 : Sto) (l4_76 : Int32) : Option (Int32 × Sto) :=
  bnd (loopF (fun s_76 => f12_indent_b76 l1 l2 l3 s_76.1 s_76.2) FU (μ_76, l4_76)) fun r_76 =>
    stp (fI r_76 2017 27) fun x4_6 =>
    bnd (f12_acts r_76) fun p_17 =>
    if p_17.1 = 0 then
      bnd (f12_refuse p_17.2 (3 : Int32)) fun p_19 =>
      f12_indent_j205 l1 l2 l3 p_19.2 p_19.1
    else
      bnd (f12_told p_17.2 x4_6) fun p_20 =>
      f12_indent_j205 l1 l2 l3 p_20.2 p_20.1
def f12_indent_b55 (l1 : Int32) (l2 : Int32) (l3 : Int32) (μ_55 : Sto) (l4_55 : Int32) : Option ((Sto × Int32) ⊕ Sto) :=
  if l3 ≤ l4_55 then
    some (.inr μ_55)
  else
    bnd (f12_puts μ_55 (32 : Int32)) fun p_22 =>
    stp (l4_55 + (1 : Int32)) fun x4_8 =>
    some (.inl (p_22, x4_8))
def f12_indent_j55 (l1 : Int32) (l2 : Int32) (l3 : Int32) (μ_55 : Sto) (l4_55 : Int32) : Option (Int32 × Sto) :=
  bnd (loopF (fun s_55 => f12_indent_b55 l1 l2 l3 s_55.1 s_55.2) FU (μ_55, l4_55)) fun r_55 =>
    stp l1 fun x4_9 =>
    f12_indent_j76 l1 l2 l3 r_55 x4_9
def f12_indent_j42 (l1 : Int32) (l2 : Int32) (l3 : Int32) (μ_42 : Sto) : Option (Int32 × Sto) :=
  bnd (f12_refuse μ_42 (2 : Int32)) fun p_23 =>
  some (p_23.1, p_23.2)
def f12_indent_j16 (l1 : Int32) (l2 : Int32) (l3 : Int32) (μ_16 : Sto) : Option (Int32 × Sto) :=
  bnd (f12_refuse μ_16 (1 : Int32)) fun p_24 =>
  some (p_24.1, p_24.2)
def f12_indent (μ : Sto) (l1 : Int32) (l2 : Int32) (l3 : Int32) : Option (Int32 × Sto) :=
  bnd (f12_isLine μ l1) fun p_25 =>
  if p_25 = 0 then
    f12_indent_j16 l1 l2 l3 μ
  else
    bnd (f12_isLine μ l2) fun p_27 =>
    if p_27 = 0 then
      f12_indent_j16 l1 l2 l3 μ
    else
      if l2 < l1 then
        f12_indent_j42 l1 l2 l3 μ
      else
        if l3 = 0 then
          f12_indent_j42 l1 l2 l3 μ
        else
          bnd (f12_in l3 (-8 : Int32) (8 : Int32)) fun p_31 =>
          if p_31 = 0 then
            f12_indent_j42 l1 l2 l3 μ
          else
            bnd (f12_begins μ) fun p_33 =>
            stp (0 : Int32) fun x4_10 =>
            f12_indent_j55 l1 l2 l3 p_33 x4_10
def f12_wrap_j202 (l1 : Int32) (l2 : Int32) (μ_202 : Sto) (s0_202 : Int32) : Option (Int32 × Sto) :=
  some (s0_202, μ_202)
def f12_wrap_j175 (l1 : Int32) (l2 : Int32) (μ_175 : Sto) : Option (Int32 × Sto) :=
  stp (fI μ_175 2017 27) fun x6_1 =>
  bnd (f12_acts μ_175) fun p_1 =>
  if p_1.1 = 0 then
    bnd (f12_refuse p_1.2 (3 : Int32)) fun p_3 =>
    f12_wrap_j202 l1 l2 p_3.2 p_3.1
  else
    bnd (f12_told p_1.2 x6_1) fun p_4 =>
    f12_wrap_j202 l1 l2 p_4.2 p_4.1
def f12_wrap_j172 (l1 : Int32) (l2 : Int32) (l4_56 : Int32) (μ_172 : Sto) (l3_172 : Int32) (l5_172 : Int32) : Option ((Sto × Int32 × Int32) ⊕ Sto) :=
  some (.inl (μ_172, l3_172, l5_172))
def f12_wrap_j148 (l1 : Int32) (l2 : Int32) (l4_56 : Int32) (μ_148 : Sto) (l3_148 : Int32) (l6_148 : Int32) (s0_148 : Int32) : Option ((Sto × Int32 × Int32) ⊕ Sto) :=
  stp s0_148 fun x5_2 =>
  if x5_2 = 0 then
    f12_wrap_j172 l1 l2 l4_56 μ_148 l3_148 x5_2
  else
    bnd (f12_adds μ_148 l6_148 (l6_148 + (1 : Int32)) (0 : Int32) (1 : Int32)) fun p_6 =>
    stp (l6_148 + (1 : Int32)) fun x3_3 =>
    f12_wrap_j172 l1 l2 l4_56 p_6 x3_3 x5_2
def f12_wrap_j136 (l1 : Int32) (l2 : Int32) (l4_56 : Int32) (μ_136 : Sto) (l3_136 : Int32) (l6_136 : Int32) : Option ((Sto × Int32 × Int32) ⊕ Sto) :=
  if l4_56 ≤ l6_136 then
    f12_wrap_j148 l1 l2 l4_56 μ_136 l3_136 l6_136 (0 : Int32)
  else
    f12_wrap_j148 l1 l2 l4_56 μ_136 l3_136 l6_136 (1 : Int32)
def f12_wrap_b111 (l1 : Int32) (l2 : Int32) (l4_56 : Int32) (μ_111 : Sto) (l3_111 : Int32) (l6_111 : Int32) : Option (Int32 ⊕ Int32) :=
  if l4_56 ≤ l6_111 then
    some (.inr l6_111)
  else
    gd (inb l6_111 3000) <|
    if (aI μ_111 2018 (Int32.toNatClampNeg l6_111)) = (32 : Int32) then
      some (.inr l6_111)
    else
      stp (l6_111 + (1 : Int32)) fun x6_4 =>
      some (.inl x6_4)
def f12_wrap_j111 (l1 : Int32) (l2 : Int32) (l4_56 : Int32) (μ_111 : Sto) (l3_111 : Int32) (l6_111 : Int32) : Option ((Sto × Int32 × Int32) ⊕ Sto) :=
  bnd (loopF (fun s_111 => f12_wrap_b111 l1 l2 l4_56 μ_111 l3_111 s_111) FU l6_111) fun r_111 =>
    f12_wrap_j136 l1 l2 l4_56 μ_111 l3_111 r_111
def f12_wrap_j98 (l1 : Int32) (l2 : Int32) (l4_56 : Int32) (μ_98 : Sto) (l3_98 : Int32) (l6_98 : Int32) : Option ((Sto × Int32 × Int32) ⊕ Sto) :=
  if l6_98 = l3_98 then
    stp ((l3_98 + l2) + (1 : Int32)) fun x6_5 =>
    f12_wrap_j111 l1 l2 l4_56 μ_98 l3_98 x6_5
  else
    f12_wrap_j136 l1 l2 l4_56 μ_98 l3_98 l6_98
def f12_wrap_b74 (l1 : Int32) (l2 : Int32) (l4_56 : Int32) (μ_74 : Sto) (l3_74 : Int32) (l6_74 : Int32) : Option (Int32 ⊕ Int32) :=
  if l6_74 ≤ l3_74 then
    some (.inr l6_74)
  else
    gd (inb l6_74 3000) <|
    if (aI μ_74 2018 (Int32.toNatClampNeg l6_74)) = (32 : Int32) then
      some (.inr l6_74)
    else
      stp (l6_74 + (-1 : Int32)) fun x6_6 =>
      some (.inl x6_6)
def f12_wrap_j74 (l1 : Int32) (l2 : Int32) (l4_56 : Int32) (μ_74 : Sto) (l3_74 : Int32) (l6_74 : Int32) : Option ((Sto × Int32 × Int32) ⊕ Sto) :=
  bnd (loopF (fun s_74 => f12_wrap_b74 l1 l2 l4_56 μ_74 l3_74 s_74) FU l6_74) fun r_74 =>
    f12_wrap_j98 l1 l2 l4_56 μ_74 l3_74 r_74
def f12_wrap_b56 (l1 : Int32) (l2 : Int32) (μ_56 : Sto) (l3_56 : Int32) (l4_56 : Int32) (l5_56 : Int32) : Option ((Sto × Int32 × Int32) ⊕ Sto) :=
  if l5_56 = 0 then
    some (.inr μ_56)
  else
    if (l4_56 - l3_56) ≤ l2 then
      some (.inr μ_56)
    else
      stp (l3_56 + l2) fun x6_7 =>
      f12_wrap_j74 l1 l2 l4_56 μ_56 l3_56 x6_7
def f12_wrap_j56 (l1 : Int32) (l2 : Int32) (μ_56 : Sto) (l3_56 : Int32) (l4_56 : Int32) (l5_56 : Int32) : Option (Int32 × Sto) :=
  bnd (loopF (fun s_56 => f12_wrap_b56 l1 l2 s_56.1 s_56.2.1 l4_56 s_56.2.2) FU (μ_56, l3_56, l5_56)) fun r_56 =>
    f12_wrap_j175 l1 l2 r_56
def f12_wrap (μ : Sto) (l1 : Int32) (l2 : Int32) : Option (Int32 × Sto) :=
  bnd (f12_isLine μ l1) fun p_17 =>
  if p_17 = 0 then
    bnd (f12_refuse μ (1 : Int32)) fun p_26 =>
    some (p_26.1, p_26.2)
  else
    bnd (f12_in l2 (1 : Int32) (100 : Int32)) fun p_19 =>
    if p_19 = 0 then
      bnd (f12_refuse μ (2 : Int32)) fun p_25 =>
      some (p_25.1, p_25.2)
    else
      bnd (f12_begins μ) fun p_21 =>
      bnd (f12_puts p_21 (10 : Int32)) fun p_22 =>
      bnd (f12_beginOf p_22 l1) fun p_23 =>
      stp p_23 fun x3_8 =>
      bnd (f12_endOf p_22 l1) fun p_24 =>
      stp p_24 fun x4_9 =>
      stp (1 : Int32) fun x5_10 =>
      f12_wrap_j56 l1 l2 p_22 x3_8 x4_9 x5_10
def f12_joinLines_j130 (l1 : Int32) (l2 : Int32) (μ_130 : Sto) (s0_130 : Int32) : Option (Int32 × Sto) :=
  some (s0_130, μ_130)
def f12_joinLines_j91 (l1 : Int32) (l2 : Int32) (μ_91 : Sto) (l3_91 : Int32) (l4_91 : Int32) (l5_91 : Int32) : Option ((Sto × Int32) ⊕ Sto) :=
  bnd (f12_adds μ_91 l4_91 l5_91 (0 : Int32) (1 : Int32)) fun p_1 =>
  stp (l3_91 + (1 : Int32)) fun x3_1 =>
  some (.inl (p_1, x3_1))
def f12_joinLines_b63 (l1 : Int32) (l2 : Int32) (μ_63 : Sto) (l3_63 : Int32) (l4_63 : Int32) (l5_63 : Int32) : Option (Int32 ⊕ Int32) :=
  if (fI μ_63 2017 5) ≤ l5_63 then
    some (.inr l5_63)
  else
    gd (inb l5_63 3000) <|
    bnd (f12_isSpace (aI μ_63 2018 (Int32.toNatClampNeg l5_63))) fun p_4 =>
    if p_4 = 0 then
      some (.inr l5_63)
    else
      stp (l5_63 + (1 : Int32)) fun x5_2 =>
      some (.inl x5_2)
def f12_joinLines_j63 (l1 : Int32) (l2 : Int32) (μ_63 : Sto) (l3_63 : Int32) (l4_63 : Int32) (l5_63 : Int32) : Option ((Sto × Int32) ⊕ Sto) :=
  bnd (loopF (fun s_63 => f12_joinLines_b63 l1 l2 μ_63 l3_63 l4_63 s_63) FU l5_63) fun r_63 =>
    f12_joinLines_j91 l1 l2 μ_63 l3_63 l4_63 r_63
def f12_joinLines_b45 (l1 : Int32) (l2 : Int32) (μ_45 : Sto) (l3_45 : Int32) : Option ((Sto × Int32) ⊕ Sto) :=
  if l2 ≤ l3_45 then
    some (.inr μ_45)
  else
    bnd (f12_endOf μ_45 l3_45) fun p_12 =>
    stp p_12 fun x4_3 =>
    stp (x4_3 + (1 : Int32)) fun x5_4 =>
    f12_joinLines_j63 l1 l2 μ_45 l3_45 x4_3 x5_4
def f12_joinLines_j45 (l1 : Int32) (l2 : Int32) (μ_45 : Sto) (l3_45 : Int32) : Option (Int32 × Sto) :=
  bnd (loopF (fun s_45 => f12_joinLines_b45 l1 l2 s_45.1 s_45.2) FU (μ_45, l3_45)) fun r_45 =>
    bnd (f12_acts r_45) fun p_13 =>
    if p_13.1 = 0 then
      bnd (f12_refuse p_13.2 (3 : Int32)) fun p_15 =>
      f12_joinLines_j130 l1 l2 p_15.2 p_15.1
    else
      bnd (f12_lines p_13.2) fun p_16 =>
      bnd (f12_told p_13.2 p_16) fun p_17 =>
      f12_joinLines_j130 l1 l2 p_17.2 p_17.1
def f12_joinLines_j16 (l1 : Int32) (l2 : Int32) (μ_16 : Sto) : Option (Int32 × Sto) :=
  bnd (f12_refuse μ_16 (1 : Int32)) fun p_18 =>
  some (p_18.1, p_18.2)
def f12_joinLines (μ : Sto) (l1 : Int32) (l2 : Int32) : Option (Int32 × Sto) :=
  bnd (f12_isLine μ l1) fun p_19 =>
  if p_19 = 0 then
    f12_joinLines_j16 l1 l2 μ
  else
    bnd (f12_isLine μ l2) fun p_21 =>
    if p_21 = 0 then
      f12_joinLines_j16 l1 l2 μ
    else
      if l1 ≤ l2 then
        bnd (f12_begins μ) fun p_24 =>
        bnd (f12_puts p_24 (32 : Int32)) fun p_25 =>
        stp l1 fun x3_5 =>
        f12_joinLines_j45 l1 l2 p_25 x3_5
      else
        bnd (f12_refuse μ (2 : Int32)) fun p_26 =>
        some (p_26.1, p_26.2)
def f12_isFind_j107 (l1 : Int32) (μ : Sto) (s0_107 : Int32) : Option (Int32) :=
  gd (isB s0_107) <|
  some s0_107
def f12_isFind_j106 (l1 : Int32) (μ : Sto) : Option (Int32) :=
  f12_isFind_j107 l1 μ (0 : Int32)
def f12_isFind_j102 (l1 : Int32) (μ : Sto) : Option (Int32) :=
  f12_isFind_j107 l1 μ (1 : Int32)
def f12_isFind_j82 (l1 : Int32) (μ : Sto) (l2_82 : Int32) : Option (Int32) :=
  if l2_82 = (fI μ 2017 5) then
    f12_isFind_j102 l1 μ
  else
    gd (inb l2_82 3000) <|
    bnd (f12_isOfWord (aI μ 2018 (Int32.toNatClampNeg l2_82))) fun p_4 =>
    if p_4 = 0 then
      f12_isFind_j102 l1 μ
    else
      f12_isFind_j106 l1 μ
def f12_isFind_b17 (l1 : Int32) (μ : Sto) (l2_17 : Int32) : Option (Int32 ⊕ (Unit ⊕ Unit)) :=
  if (fI μ 2017 15) ≤ l2_17 then
    some (.inr (Sum.inl ()))
  else
    gd (inb (l1 + l2_17) 3000) <|
    gd (inb l2_17 40) <|
    if (aI μ 2018 (Int32.toNatClampNeg (l1 + l2_17))) = (aI μ 2025 (Int32.toNatClampNeg l2_17)) then
      stp (l2_17 + (1 : Int32)) fun x2_2 =>
      some (.inl x2_2)
    else
      some (.inr (Sum.inr ()))
def f12_isFind_j17 (l1 : Int32) (μ : Sto) (l2_17 : Int32) : Option (Int32) :=
  bnd (loopF (fun s_17 => f12_isFind_b17 l1 μ s_17) FU l2_17) fun r_17 =>
    match r_17 with
    | .inl r_17x =>
      stp (l1 + (fI μ 2017 15)) fun x2_3 =>
      if (fI μ 2017 19) = 0 then
        f12_isFind_j102 l1 μ
      else
        if l1 = 0 then
          f12_isFind_j82 l1 μ x2_3
        else
          gd (inb (l1 - (1 : Int32)) 3000) <|
          bnd (f12_isOfWord (aI μ 2018 (Int32.toNatClampNeg (l1 - (1 : Int32))))) fun p_18 =>
          if p_18 = 0 then
            f12_isFind_j82 l1 μ x2_3
          else
            f12_isFind_j106 l1 μ
    | .inr r_17y =>
      some (0 : Int32)
def f12_isFind (μ : Sto) (l1 : Int32) : Option (Int32) :=
  if (l1 + (fI μ 2017 15)) ≤ (fI μ 2017 5) then
    stp (0 : Int32) fun x2_4 =>
    f12_isFind_j17 l1 μ x2_4
  else
    some (0 : Int32)
def f12_findFrom_j37 (l1 : Int32) (μ : Sto) (s0_37 : Int32) : Option (Int32) :=
  some s0_37
def f12_findFrom_j24 (l1 : Int32) (μ : Sto) (l2_24 : Int32) : Option (Int32) :=
  if (fI μ 2017 5) ≤ l2_24 then
    f12_findFrom_j37 l1 μ (-1 : Int32)
  else
    f12_findFrom_j37 l1 μ l2_24
def f12_findFrom_b2 (l1 : Int32) (μ : Sto) (l2_2 : Int32) : Option (Int32 ⊕ Int32) :=
  if (fI μ 2017 5) ≤ l2_2 then
    some (.inr l2_2)
  else
    bnd (f12_isFind μ l2_2) fun p_3 =>
    if p_3 = 0 then
      stp (l2_2 + (1 : Int32)) fun x2_1 =>
      some (.inl x2_1)
    else
      some (.inr l2_2)
def f12_findFrom_j2 (l1 : Int32) (μ : Sto) (l2_2 : Int32) : Option (Int32) :=
  bnd (loopF (fun s_2 => f12_findFrom_b2 l1 μ s_2) FU l2_2) fun r_2 =>
    f12_findFrom_j24 l1 μ r_2
def f12_findFrom (μ : Sto) (l1 : Int32) : Option (Int32) :=
  stp l1 fun x2_2 =>
  f12_findFrom_j2 l1 μ x2_2
def f12_setPattern_j86 (l1 : Int32) (μ_64 : Sto) (l3_86 : Int32) (s0_86 : Int32) (s1_86 : Int32) : Option ((Int32 × Int32) ⊕ Int32) :=
  stp (s0_86 + s1_86) fun x2_1 =>
  stp (l3_86 + (1 : Int32)) fun x3_2 =>
  some (.inl (x2_1, x3_2))
def f12_setPattern_b64 (l1 : Int32) (μ_64 : Sto) (l2_64 : Int32) (l3_64 : Int32) : Option ((Int32 × Int32) ⊕ Int32) :=
  if (fI μ_64 2017 5) ≤ l3_64 then
    some (.inr l2_64)
  else
    bnd (f12_isFind μ_64 l3_64) fun p_3 =>
    if p_3 = 0 then
      f12_setPattern_j86 l1 μ_64 l3_64 l2_64 (0 : Int32)
    else
      f12_setPattern_j86 l1 μ_64 l3_64 l2_64 (1 : Int32)
def f12_setPattern_j64 (l1 : Int32) (μ_64 : Sto) (l2_64 : Int32) (l3_64 : Int32) : Option (Int32 × Sto) :=
  bnd (loopF (fun s_64 => f12_setPattern_b64 l1 μ_64 s_64.1 s_64.2) FU (l2_64, l3_64)) fun r_64 =>
    bnd (f12_told μ_64 r_64) fun p_5 =>
    some (p_5.1, p_5.2)
def f12_setPattern_b34 (l1 : Int32) (μ_34 : Sto) (l2_34 : Int32) : Option ((Sto × Int32) ⊕ Sto) :=
  if (fI μ_34 2017 11) ≤ l2_34 then
    some (.inr μ_34)
  else
    gd (inb l2_34 200) <|
    gd (inb l2_34 40) <|
    stp (uA μ_34 2025 (Int32.toNatClampNeg l2_34) (aI μ_34 2023 (Int32.toNatClampNeg l2_34))) fun μx_5 =>
    stp (l2_34 + (1 : Int32)) fun x2_6 =>
    some (.inl (μx_5, x2_6))
def f12_setPattern_j34 (l1 : Int32) (μ_34 : Sto) (l2_34 : Int32) : Option (Int32 × Sto) :=
  bnd (loopF (fun s_34 => f12_setPattern_b34 l1 s_34.1 s_34.2) FU (μ_34, l2_34)) fun r_34 =>
    stp (0 : Int32) fun x2_7 =>
    stp (0 : Int32) fun x3_8 =>
    f12_setPattern_j64 l1 r_34 x2_7 x3_8
def f12_setPattern (μ : Sto) (l1 : Int32) : Option (Int32 × Sto) :=
  bnd (f12_in (fI μ 2017 11) (1 : Int32) (40 : Int32)) fun p_9 =>
  if p_9 = 0 then
    bnd (f12_refuse μ (1 : Int32)) fun p_12 =>
    some (p_12.1, p_12.2)
  else
    gd (isB l1) <|
    stp (uI μ 2017 19 l1) fun μx_9 =>
    stp (uI μx_9 2017 15 (fI μx_9 2017 11)) fun μx_10 =>
    stp (0 : Int32) fun x2_11 =>
    f12_setPattern_j34 l1 μx_10 x2_11
def f12_find_j63 (l1 : Int32) (l2 : Int32) (μ_63 : Sto) (l3_63 : Int32) : Option (Int32 × Sto) :=
  bnd (f12_told μ_63 l3_63) fun p_1 =>
  some (p_1.1, p_1.2)
def f12_find_b45 (l1 : Int32) (l2 : Int32) (μ_45 : Sto) (l3_45 : Int32) : Option (Int32 ⊕ Int32) :=
  if l3_45 < 0 then
    some (.inr l3_45)
  else
    bnd (f12_isFind μ_45 l3_45) fun p_3 =>
    if p_3 = 0 then
      stp (l3_45 + (-1 : Int32)) fun x3_1 =>
      some (.inl x3_1)
    else
      some (.inr l3_45)
def f12_find_j45 (l1 : Int32) (l2 : Int32) (μ_45 : Sto) (l3_45 : Int32) : Option (Int32 × Sto) :=
  bnd (loopF (fun s_45 => f12_find_b45 l1 l2 μ_45 s_45) FU l3_45) fun r_45 =>
    f12_find_j63 l1 l2 μ_45 r_45
def f12_find (μ : Sto) (l1 : Int32) (l2 : Int32) : Option (Int32 × Sto) :=
  bnd (f12_isPlace μ l1) fun p_5 =>
  if p_5 = 0 then
    bnd (f12_refuse μ (1 : Int32)) fun p_12 =>
    some (p_12.1, p_12.2)
  else
    if (fI μ 2017 15) = 0 then
      bnd (f12_refuse μ (2 : Int32)) fun p_11 =>
      some (p_11.1, p_11.2)
    else
      if l2 = 0 then
        stp (l1 - (1 : Int32)) fun x3_2 =>
        f12_find_j45 l1 l2 μ x3_2
      else
        bnd (f12_findFrom μ l1) fun p_9 =>
        bnd (f12_told μ p_9) fun p_10 =>
        some (p_10.1, p_10.2)
def f12_replaceNext_j38 (μ_38 : Sto) (s0_38 : Int32) : Option (Int32 × Sto) :=
  stp s0_38 fun x1_1 =>
  if x1_1 = (-1 : Int32) then
    bnd (f12_told μ_38 (-1 : Int32)) fun p_12 =>
    some (p_12.1, p_12.2)
  else
    bnd (f12_begins μ_38) fun p_2 =>
    bnd (f12_putsTape p_2) fun p_3 =>
    bnd (f12_adds p_3 x1_1 (x1_1 + (fI p_3 2017 15)) (0 : Int32) (fI p_3 2017 28)) fun p_4 =>
    bnd (f12_acts p_4) fun p_5 =>
    if p_5.1 = 0 then
      bnd (f12_refuse p_5.2 (1 : Int32)) fun p_11 =>
      some (p_11.1, p_11.2)
    else
      stp (uI p_5.2 2017 6 (1 : Int32)) fun μx_2 =>
      gd (inb (0 : Int32) 8) <|
      stp (uA μx_2 2019 (Int32.toNatClampNeg (0 : Int32)) (x1_1 + (fI μx_2 2017 11))) fun μx_3 =>
      gd (inb (0 : Int32) 8) <|
      bnd (f12_opensAt μx_3 (aI μx_3 2019 (Int32.toNatClampNeg (0 : Int32)))) fun p_9 =>
      bnd (f12_told p_9 x1_1) fun p_10 =>
      some (p_10.1, p_10.2)
def f12_replaceNext (μ : Sto) : Option (Int32 × Sto) :=
  if (fI μ 2017 15) = 0 then
    bnd (f12_refuse μ (1 : Int32)) fun p_18 =>
    some (p_18.1, p_18.2)
  else
    gd (inb (0 : Int32) 8) <|
    bnd (f12_findFrom μ (aI μ 2019 (Int32.toNatClampNeg (0 : Int32)))) fun p_15 =>
    stp p_15 fun x1_4 =>
    if x1_4 = (-1 : Int32) then
      bnd (f12_findFrom μ (0 : Int32)) fun p_17 =>
      f12_replaceNext_j38 μ p_17
    else
      f12_replaceNext_j38 μ x1_4
def f12_replaceAll_j87 (μ_87 : Sto) (s0_87 : Int32) : Option (Int32 × Sto) :=
  some (s0_87, μ_87)
def f12_replaceAll_b27 (μ_27 : Sto) (l1_27 : Int32) : Option ((Sto × Int32) ⊕ Sto) :=
  if l1_27 = (-1 : Int32) then
    some (.inr μ_27)
  else
    bnd (f12_adds μ_27 l1_27 (l1_27 + (fI μ_27 2017 15)) (0 : Int32) (fI μ_27 2017 28)) fun p_6 =>
    bnd (f12_findFrom p_6 (l1_27 + (fI p_6 2017 15))) fun p_7 =>
    stp p_7 fun x1_2 =>
    some (.inl (p_6, x1_2))
def f12_replaceAll_j27 (μ_27 : Sto) (l1_27 : Int32) : Option (Int32 × Sto) :=
  bnd (loopF (fun s_27 => f12_replaceAll_b27 s_27.1 s_27.2) FU (μ_27, l1_27)) fun r_27 =>
    stp (fI r_27 2017 27) fun x2_3 =>
    bnd (f12_acts r_27) fun p_8 =>
    if p_8.1 = 0 then
      bnd (f12_refuse p_8.2 (1 : Int32)) fun p_10 =>
      f12_replaceAll_j87 p_10.2 p_10.1
    else
      bnd (f12_told p_8.2 x2_3) fun p_11 =>
      f12_replaceAll_j87 p_11.2 p_11.1
def f12_replaceAll (μ : Sto) : Option (Int32 × Sto) :=
  if (fI μ 2017 15) = 0 then
    bnd (f12_refuse μ (1 : Int32)) fun p_16 =>
    some (p_16.1, p_16.2)
  else
    bnd (f12_begins μ) fun p_13 =>
    bnd (f12_putsTape p_13) fun p_14 =>
    bnd (f12_findFrom p_14 (0 : Int32)) fun p_15 =>
    stp p_15 fun x1_4 =>
    f12_replaceAll_j27 p_14 x1_4
def f12_closes (μ : Sto) : Option (Sto) :=
  stp (uI μ 2017 34 (0 : Int32)) fun μx_1 =>
  stp (uI μx_1 2017 33 (-1 : Int32)) fun μx_2 =>
  some μx_2
def f12_undo_j94 (l1 : Int32) (μ_94 : Sto) (l2_94 : Int32) : Option (Int32 × Sto) :=
  bnd (f12_told μ_94 l2_94) fun p_1 =>
  some (p_1.1, p_1.2)
def f12_undo_b23 (l1 : Int32) (μ_23 : Sto) (l2_23 : Int32) : Option ((Sto × Int32) ⊕ (Sto × Int32)) :=
  if l1 ≤ l2_23 then
    some (.inr (μ_23, l2_23))
  else
    if (fI μ_23 2017 32) = 0 then
      some (.inr (μ_23, l2_23))
    else
      bnd (f12_undone (fI μ_23 2017 32)) fun p_4 =>
      bnd (f12_keeps μ_23 p_4) fun p_5 =>
      bnd (f12_ahead (fI p_5 2017 32)) fun p_6 =>
      bnd (f12_brings p_5 p_6) fun p_7 =>
      gd (inb (fI p_7 2017 32) 151) <|
      gd (inb (aI p_7 2034 (Int32.toNatClampNeg (fI p_7 2017 32))) 151) <|
      stp (uA p_7 2035 (Int32.toNatClampNeg (aI p_7 2034 (Int32.toNatClampNeg (fI p_7 2017 32)))) (fI p_7 2017 32)) fun μx_1 =>
      gd (inb (fI μx_1 2017 32) 151) <|
      stp (uI μx_1 2017 32 (aI μx_1 2034 (Int32.toNatClampNeg (fI μx_1 2017 32)))) fun μx_2 =>
      stp (l2_23 + (1 : Int32)) fun x2_3 =>
      some (.inl (μx_2, x2_3))
def f12_undo_j23 (l1 : Int32) (μ_23 : Sto) (l2_23 : Int32) : Option (Int32 × Sto) :=
  bnd (loopF (fun s_23 => f12_undo_b23 l1 s_23.1 s_23.2) FU (μ_23, l2_23)) fun r_23 =>
    f12_undo_j94 l1 r_23.1 r_23.2
def f12_undo (μ : Sto) (l1 : Int32) : Option (Int32 × Sto) :=
  bnd (f12_in l1 (1 : Int32) (150 : Int32)) fun p_11 =>
  if p_11 = 0 then
    bnd (f12_refuse μ (1 : Int32)) fun p_14 =>
    some (p_14.1, p_14.2)
  else
    bnd (f12_closes μ) fun p_13 =>
    stp (0 : Int32) fun x2_4 =>
    f12_undo_j23 l1 p_13 x2_4
def f12_redo_j70 (l1 : Int32) (μ_70 : Sto) (l2_70 : Int32) : Option (Int32 × Sto) :=
  bnd (f12_told μ_70 l2_70) fun p_1 =>
  some (p_1.1, p_1.2)
def f12_redo_b23 (l1 : Int32) (μ_23 : Sto) (l2_23 : Int32) : Option ((Sto × Int32) ⊕ (Sto × Int32)) :=
  if l1 ≤ l2_23 then
    some (.inr (μ_23, l2_23))
  else
    gd (inb (fI μ_23 2017 32) 151) <|
    if (aI μ_23 2035 (Int32.toNatClampNeg (fI μ_23 2017 32))) = 0 then
      some (.inr (μ_23, l2_23))
    else
      gd (inb (fI μ_23 2017 32) 151) <|
      stp (uI μ_23 2017 32 (aI μ_23 2035 (Int32.toNatClampNeg (fI μ_23 2017 32)))) fun μx_1 =>
      bnd (f12_undone (fI μx_1 2017 32)) fun p_6 =>
      bnd (f12_brings μx_1 p_6) fun p_7 =>
      stp (l2_23 + (1 : Int32)) fun x2_2 =>
      some (.inl (p_7, x2_2))
def f12_redo_j23 (l1 : Int32) (μ_23 : Sto) (l2_23 : Int32) : Option (Int32 × Sto) :=
  bnd (loopF (fun s_23 => f12_redo_b23 l1 s_23.1 s_23.2) FU (μ_23, l2_23)) fun r_23 =>
    f12_redo_j70 l1 r_23.1 r_23.2
def f12_redo (μ : Sto) (l1 : Int32) : Option (Int32 × Sto) :=
  bnd (f12_in l1 (1 : Int32) (150 : Int32)) fun p_8 =>
  if p_8 = 0 then
    bnd (f12_refuse μ (1 : Int32)) fun p_11 =>
    some (p_11.1, p_11.2)
  else
    bnd (f12_closes μ) fun p_10 =>
    stp (0 : Int32) fun x2_3 =>
    f12_redo_j23 l1 p_10 x2_3
def f12_continuations_j31 (μ : Sto) (l2_31 : Int32) (s0_31 : Int32) (s1_31 : Int32) : Option ((Int32 × Int32) ⊕ Int32) :=
  stp (s0_31 + s1_31) fun x1_1 =>
  stp (l2_31 + (1 : Int32)) fun x2_2 =>
  some (.inl (x1_1, x2_2))
def f12_continuations_b4 (μ : Sto) (l1_4 : Int32) (l2_4 : Int32) : Option ((Int32 × Int32) ⊕ Int32) :=
  if (fI μ 2017 31) < l2_4 then
    some (.inr l1_4)
  else
    gd (inb l2_4 151) <|
    if (aI μ 2034 (Int32.toNatClampNeg l2_4)) = (fI μ 2017 32) then
      f12_continuations_j31 μ l2_4 l1_4 (1 : Int32)
    else
      f12_continuations_j31 μ l2_4 l1_4 (0 : Int32)
def f12_continuations_j4 (μ : Sto) (l1_4 : Int32) (l2_4 : Int32) : Option (Int32) :=
  bnd (loopF (fun s_4 => f12_continuations_b4 μ s_4.1 s_4.2) FU (l1_4, l2_4)) fun r_4 =>
    some r_4
def f12_continuations (μ : Sto) : Option (Int32) :=
  stp (0 : Int32) fun x1_3 =>
  stp (1 : Int32) fun x2_4 =>
  f12_continuations_j4 μ x1_3 x2_4
def f12_branch_j58 (l1 : Int32) (μ_31 : Sto) (l2_31 : Int32) (l4_58 : Int32) (s0_58 : Int32) (s1_58 : Int32) : Option ((Int32 × Int32) ⊕ Int32) :=
  stp (s0_58 - s1_58) fun x3_1 =>
  some (.inl (x3_1, l4_58))
def f12_branch_b31 (l1 : Int32) (μ_31 : Sto) (l2_31 : Int32) (l3_31 : Int32) (l4_31 : Int32) : Option ((Int32 × Int32) ⊕ Int32) :=
  if l3_31 < 0 then
    some (.inr l4_31)
  else
    stp (l4_31 + (1 : Int32)) fun x4_3 =>
    gd (inb x4_3 151) <|
    if (aI μ_31 2034 (Int32.toNatClampNeg x4_3)) = (fI μ_31 2017 32) then
      f12_branch_j58 l1 μ_31 l2_31 x4_3 l3_31 (1 : Int32)
    else
      f12_branch_j58 l1 μ_31 l2_31 x4_3 l3_31 (0 : Int32)
def f12_branch_j31 (l1 : Int32) (μ_31 : Sto) (l2_31 : Int32) (l3_31 : Int32) (l4_31 : Int32) : Option (Int32 × Sto) :=
  bnd (loopF (fun s_31 => f12_branch_b31 l1 μ_31 l2_31 s_31.1 s_31.2) FU (l3_31, l4_31)) fun r_31 =>
    gd (inb (fI μ_31 2017 32) 151) <|
    stp (uA μ_31 2035 (Int32.toNatClampNeg (fI μ_31 2017 32)) r_31) fun μx_4 =>
    bnd (f12_told μx_4 l2_31) fun p_7 =>
    some (p_7.1, p_7.2)
def f12_branch (μ : Sto) (l1 : Int32) : Option (Int32 × Sto) :=
  bnd (f12_continuations μ) fun p_8 =>
  stp p_8 fun x2_5 =>
  bnd (f12_in l1 (0 : Int32) (x2_5 - (1 : Int32))) fun p_9 =>
  if p_9 = 0 then
    bnd (f12_refuse μ (1 : Int32)) fun p_12 =>
    some (p_12.1, p_12.2)
  else
    bnd (f12_closes μ) fun p_11 =>
    stp l1 fun x3_6 =>
    stp (0 : Int32) fun x4_7 =>
    f12_branch_j31 l1 p_11 x2_5 x3_6 x4_7
def f12_group (μ : Sto) (l1 : Int32) : Option (Int32 × Sto) :=
  stp (fI μ 2017 34) fun x2_1 =>
  bnd (f12_closes μ) fun p_1 =>
  gd (isB l1) <|
  stp (uI p_1 2017 34 l1) fun μx_2 =>
  bnd (f12_says μx_2 x2_1) fun p_3 =>
  gd (isB p_3.1) <|
  some (p_3.1, p_3.2)
def f12_depth_b7 (μ : Sto) (l1_7 : Int32) (l2_7 : Int32) : Option ((Int32 × Int32) ⊕ Int32) :=
  if l2_7 = 0 then
    some (.inr l1_7)
  else
    stp (l1_7 + (1 : Int32)) fun x1_1 =>
    gd (inb l2_7 151) <|
    stp (aI μ 2034 (Int32.toNatClampNeg l2_7)) fun x2_2 =>
    some (.inl (x1_1, x2_2))
def f12_depth_j7 (μ : Sto) (l1_7 : Int32) (l2_7 : Int32) : Option (Int32) :=
  bnd (loopF (fun s_7 => f12_depth_b7 μ s_7.1 s_7.2) FU (l1_7, l2_7)) fun r_7 =>
    some r_7
def f12_depth (μ : Sto) : Option (Int32) :=
  stp (0 : Int32) fun x1_3 =>
  stp (fI μ 2017 32) fun x2_4 =>
  f12_depth_j7 μ x1_3 x2_4
def f12_chain_b12 (μ : Sto) (l1_12 : Int32) (l2_12 : Int32) : Option ((Int32 × Int32) ⊕ Int32) :=
  if l2_12 = 0 then
    some (.inr l1_12)
  else
    stp (l1_12 + (1 : Int32)) fun x1_1 =>
    gd (inb l2_12 151) <|
    stp (aI μ 2035 (Int32.toNatClampNeg l2_12)) fun x2_2 =>
    some (.inl (x1_1, x2_2))
def f12_chain_j12 (μ : Sto) (l1_12 : Int32) (l2_12 : Int32) : Option (Int32) :=
  bnd (loopF (fun s_12 => f12_chain_b12 μ s_12.1 s_12.2) FU (l1_12, l2_12)) fun r_12 =>
    some r_12
def f12_chain (μ : Sto) : Option (Int32) :=
  stp (0 : Int32) fun x1_3 =>
  gd (inb (fI μ 2017 32) 151) <|
  stp (aI μ 2035 (Int32.toNatClampNeg (fI μ 2017 32))) fun x2_4 =>
  f12_chain_j12 μ x1_3 x2_4
def f12_acts_ (μ : Sto) (l1 : Int32) : Option (Int32 × Sto) :=
  if Int32.toInt l1 = 0 then
    bnd (f12_told μ (fI μ 2017 31)) fun p_2 =>
    some (p_2.1, p_2.2)
  else if Int32.toInt l1 = 1 then
    bnd (f12_depth μ) fun p_4 =>
    bnd (f12_told μ p_4) fun p_5 =>
    some (p_5.1, p_5.2)
  else if Int32.toInt l1 = 2 then
    bnd (f12_chain μ) fun p_7 =>
    bnd (f12_told μ p_7) fun p_8 =>
    some (p_8.1, p_8.2)
  else if Int32.toInt l1 = 3 then
    bnd (f12_continuations μ) fun p_10 =>
    bnd (f12_told μ p_10) fun p_11 =>
    some (p_11.1, p_11.2)
  else
    bnd (f12_refuse μ (1 : Int32)) fun p_12 =>
    some (p_12.1, p_12.2)
def f12_setCursor (μ : Sto) (l1 : Int32) : Option (Int32 × Sto) :=
  bnd (f12_isPlace μ l1) fun p_1 =>
  if p_1 = 0 then
    bnd (f12_refuse μ (1 : Int32)) fun p_6 =>
    some (p_6.1, p_6.2)
  else
    stp (fI μ 2017 6) fun x2_1 =>
    stp (uI μ 2017 6 (1 : Int32)) fun μx_2 =>
    gd (inb (0 : Int32) 8) <|
    stp (uA μx_2 2019 (Int32.toNatClampNeg (0 : Int32)) l1) fun μx_3 =>
    bnd (f12_opensAt μx_3 l1) fun p_4 =>
    bnd (f12_told p_4 x2_1) fun p_5 =>
    some (p_5.1, p_5.2)
def f12_addCursor_j45 (l1 : Int32) (μ_18 : Sto) (l3_45 : Int32) (s0_45 : Int32) : Option ((Int32 × Int32) ⊕ Int32) :=
  stp s0_45 fun x2_1 =>
  stp (l3_45 + (1 : Int32)) fun x3_2 =>
  some (.inl (x2_1, x3_2))
def f12_addCursor_j40 (l1 : Int32) (μ_18 : Sto) (l3_40 : Int32) : Option ((Int32 × Int32) ⊕ Int32) :=
  f12_addCursor_j45 l1 μ_18 l3_40 (1 : Int32)
def f12_addCursor_b18 (l1 : Int32) (μ_18 : Sto) (l2_18 : Int32) (l3_18 : Int32) : Option ((Int32 × Int32) ⊕ Int32) :=
  if (fI μ_18 2017 6) ≤ l3_18 then
    some (.inr l2_18)
  else
    if l2_18 = 0 then
      gd (inb l3_18 8) <|
      if (aI μ_18 2019 (Int32.toNatClampNeg l3_18)) = l1 then
        f12_addCursor_j40 l1 μ_18 l3_18
      else
        f12_addCursor_j45 l1 μ_18 l3_18 (0 : Int32)
    else
      f12_addCursor_j40 l1 μ_18 l3_18
def f12_addCursor_j18 (l1 : Int32) (μ_18 : Sto) (l2_18 : Int32) (l3_18 : Int32) : Option (Int32 × Sto) :=
  bnd (loopF (fun s_18 => f12_addCursor_b18 l1 μ_18 s_18.1 s_18.2) FU (l2_18, l3_18)) fun r_18 =>
    if r_18 = 0 then
      if (fI μ_18 2017 6) = (8 : Int32) then
        bnd (f12_refuse μ_18 (2 : Int32)) fun p_19 =>
        some (p_19.1, p_19.2)
      else
        gd (inb (fI μ_18 2017 6) 8) <|
        stp (uA μ_18 2019 (Int32.toNatClampNeg (fI μ_18 2017 6)) l1) fun μx_5 =>
        stp (uI μx_5 2017 6 ((fI μx_5 2017 6) + (1 : Int32))) fun μx_6 =>
        bnd (f12_orders μx_6) fun p_16 =>
        bnd (f12_opensAt p_16 l1) fun p_17 =>
        bnd (f12_told p_17 (fI p_17 2017 6)) fun p_18 =>
        some (p_18.1, p_18.2)
    else
      bnd (f12_told μ_18 (fI μ_18 2017 6)) fun p_20 =>
      some (p_20.1, p_20.2)
def f12_addCursor (μ : Sto) (l1 : Int32) : Option (Int32 × Sto) :=
  bnd (f12_isPlace μ l1) fun p_21 =>
  if p_21 = 0 then
    bnd (f12_refuse μ (1 : Int32)) fun p_23 =>
    some (p_23.1, p_23.2)
  else
    stp (0 : Int32) fun x2_7 =>
    stp (0 : Int32) fun x3_8 =>
    f12_addCursor_j18 l1 μ x2_7 x3_8
def f12_visibleFrom_j81 (l1 : Int32) (l2 : Int32) (μ : Sto) (l3_81 : Int32) : Option (Int32) :=
  some l3_81
def f12_visibleFrom_j71 (l1 : Int32) (l2 : Int32) (μ : Sto) (l5_37 : Int32) (l6_37 : Int32) (l3_71 : Int32) (l4_71 : Int32) (l7_71 : Int32) : Option ((Int32 × Int32 × Int32) ⊕ Int32) :=
  stp (l7_71 + l5_37) fun x7_1 =>
  some (.inl (l3_71, l4_71, x7_1))
def f12_visibleFrom_b37 (l1 : Int32) (l2 : Int32) (μ : Sto) (l3_37 : Int32) (l4_37 : Int32) (l5_37 : Int32) (l6_37 : Int32) (l7_37 : Int32) : Option ((Int32 × Int32 × Int32) ⊕ Int32) :=
  if l4_37 ≤ 0 then
    some (.inr l3_37)
  else
    bnd (f12_in l7_37 (0 : Int32) (l6_37 - (1 : Int32))) fun p_2 =>
    if p_2 = 0 then
      some (.inr l3_37)
    else
      gd (inb l7_37 301) <|
      if (aI μ 2022 (Int32.toNatClampNeg l7_37)) = 0 then
        stp l7_37 fun x3_2 =>
        stp (l4_37 + (-1 : Int32)) fun x4_3 =>
        f12_visibleFrom_j71 l1 l2 μ l5_37 l6_37 x3_2 x4_3 l7_37
      else
        f12_visibleFrom_j71 l1 l2 μ l5_37 l6_37 l3_37 l4_37 l7_37
def f12_visibleFrom_j37 (l1 : Int32) (l2 : Int32) (μ : Sto) (l3_37 : Int32) (l4_37 : Int32) (l5_37 : Int32) (l6_37 : Int32) (l7_37 : Int32) : Option (Int32) :=
  bnd (loopF (fun s_37 => f12_visibleFrom_b37 l1 l2 μ s_37.1 s_37.2.1 l5_37 l6_37 s_37.2.2) FU (l3_37, l4_37, l7_37)) fun r_37 =>
    f12_visibleFrom_j81 l1 l2 μ r_37
def f12_visibleFrom_j23 (l1 : Int32) (l2 : Int32) (μ : Sto) (l3_23 : Int32) (l4_23 : Int32) (s0_23 : Int32) : Option (Int32) :=
  stp s0_23 fun x5_4 =>
  bnd (f12_lines μ) fun p_6 =>
  stp p_6 fun x6_5 =>
  stp (l1 + x5_4) fun x7_6 =>
  f12_visibleFrom_j37 l1 l2 μ l3_23 l4_23 x5_4 x6_5 x7_6
def f12_visibleFrom_j12 (l1 : Int32) (l2 : Int32) (μ : Sto) (l3_12 : Int32) (s0_12 : Int32) : Option (Int32) :=
  stp s0_12 fun x4_7 =>
  if 0 ≤ l2 then
    f12_visibleFrom_j23 l1 l2 μ l3_12 x4_7 (1 : Int32)
  else
    f12_visibleFrom_j23 l1 l2 μ l3_12 x4_7 (-1 : Int32)
def f12_visibleFrom (μ : Sto) (l1 : Int32) (l2 : Int32) : Option (Int32) :=
  stp l1 fun x3_8 =>
  if 0 ≤ l2 then
    f12_visibleFrom_j12 l1 l2 μ x3_8 l2
  else
    f12_visibleFrom_j12 l1 l2 μ x3_8 (-l2)
def f12_wordFrom_j104 (l1 : Int32) (l2 : Int32) (μ : Sto) (l3_104 : Int32) : Option (Int32) :=
  some l3_104
def f12_wordFrom_b64 (l1 : Int32) (l2 : Int32) (μ : Sto) (l3_64 : Int32) (l4_64 : Int32) (l5_64 : Int32) : Option (Int32 ⊕ Int32) :=
  bnd (f12_in (l3_64 + l5_64) (0 : Int32) ((fI μ 2017 5) - (1 : Int32))) fun p_1 =>
  if p_1 = 0 then
    some (.inr l3_64)
  else
    gd (inb (l3_64 + l5_64) 3000) <|
    bnd (f12_isOfWord (aI μ 2018 (Int32.toNatClampNeg (l3_64 + l5_64)))) fun p_4 =>
    if p_4 = 0 then
      some (.inr l3_64)
    else
      stp (l3_64 + l4_64) fun x3_1 =>
      some (.inl x3_1)
def f12_wordFrom_j64 (l1 : Int32) (l2 : Int32) (μ : Sto) (l3_64 : Int32) (l4_64 : Int32) (l5_64 : Int32) : Option (Int32) :=
  bnd (loopF (fun s_64 => f12_wordFrom_b64 l1 l2 μ s_64 l4_64 l5_64) FU l3_64) fun r_64 =>
    f12_wordFrom_j104 l1 l2 μ r_64
def f12_wordFrom_b24 (l1 : Int32) (l2 : Int32) (μ : Sto) (l3_24 : Int32) (l4_24 : Int32) (l5_24 : Int32) : Option (Int32 ⊕ Int32) :=
  bnd (f12_in (l3_24 + l5_24) (0 : Int32) ((fI μ 2017 5) - (1 : Int32))) fun p_6 =>
  if p_6 = 0 then
    some (.inr l3_24)
  else
    gd (inb (l3_24 + l5_24) 3000) <|
    bnd (f12_isOfWord (aI μ 2018 (Int32.toNatClampNeg (l3_24 + l5_24)))) fun p_9 =>
    if p_9 = 0 then
      stp (l3_24 + l4_24) fun x3_2 =>
      some (.inl x3_2)
    else
      some (.inr l3_24)
def f12_wordFrom_j24 (l1 : Int32) (l2 : Int32) (μ : Sto) (l3_24 : Int32) (l4_24 : Int32) (l5_24 : Int32) : Option (Int32) :=
  bnd (loopF (fun s_24 => f12_wordFrom_b24 l1 l2 μ s_24 l4_24 l5_24) FU l3_24) fun r_24 =>
    f12_wordFrom_j64 l1 l2 μ r_24 l4_24 l5_24
def f12_wordFrom_j22 (l1 : Int32) (l2 : Int32) (μ : Sto) (l3_22 : Int32) (l4_22 : Int32) (s0_22 : Int32) : Option (Int32) :=
  stp s0_22 fun x5_3 =>
  f12_wordFrom_j24 l1 l2 μ l3_22 l4_22 x5_3
def f12_wordFrom_j11 (l1 : Int32) (l2 : Int32) (μ : Sto) (l3_11 : Int32) (s0_11 : Int32) : Option (Int32) :=
  stp s0_11 fun x4_4 =>
  if l2 = 0 then
    f12_wordFrom_j22 l1 l2 μ l3_11 x4_4 (-1 : Int32)
  else
    f12_wordFrom_j22 l1 l2 μ l3_11 x4_4 (0 : Int32)
def f12_wordFrom (μ : Sto) (l1 : Int32) (l2 : Int32) : Option (Int32) :=
  stp l1 fun x3_5 =>
  if l2 = 0 then
    f12_wordFrom_j11 l1 l2 μ x3_5 (-1 : Int32)
  else
    f12_wordFrom_j11 l1 l2 μ x3_5 (1 : Int32)
def f12_paragraphFrom_j137 (l1 : Int32) (l2 : Int32) (μ : Sto) (s0_137 : Int32) : Option (Int32) :=
  some s0_137
def f12_paragraphFrom_j112 (l1 : Int32) (l2 : Int32) (μ : Sto) (l3_112 : Int32) (l6_112 : Int32) (l7_112 : Int32) : Option ((Int32 × Int32 × Int32) ⊕ (Int32 ⊕ Int32)) :=
  stp l6_112 fun x5_1 =>
  stp (l7_112 + (1 : Int32)) fun x4_2 =>
  some (.inl (l3_112, x4_2, x5_1))
def f12_paragraphFrom_j111 (l1 : Int32) (l2 : Int32) (μ : Sto) (l6_111 : Int32) (l7_111 : Int32) (s0_111 : Int32) : Option ((Int32 × Int32 × Int32) ⊕ (Int32 ⊕ Int32)) :=
  stp s0_111 fun x3_3 =>
  f12_paragraphFrom_j112 l1 l2 μ x3_3 l6_111 l7_111
def f12_paragraphFrom_j99 (l1 : Int32) (l2 : Int32) (μ : Sto) (l3_99 : Int32) (l4_99 : Int32) (l6_99 : Int32) (l7_99 : Int32) : Option ((Int32 × Int32 × Int32) ⊕ (Int32 ⊕ Int32)) :=
  if l1 ≤ l4_99 then
    f12_paragraphFrom_j111 l1 l2 μ l6_99 l7_99 l3_99
  else
    f12_paragraphFrom_j111 l1 l2 μ l6_99 l7_99 l4_99
def f12_paragraphFrom_j76 (l1 : Int32) (l2 : Int32) (μ : Sto) (l3_76 : Int32) (l4_76 : Int32) (l5_76 : Int32) (l6_76 : Int32) (l7_76 : Int32) : Option ((Int32 × Int32 × Int32) ⊕ (Int32 ⊕ Int32)) :=
  if l6_76 = 0 then
    if l5_76 = 0 then
      f12_paragraphFrom_j112 l1 l2 μ l3_76 l6_76 l7_76
    else
      if l2 = 0 then
        f12_paragraphFrom_j99 l1 l2 μ l3_76 l4_76 l6_76 l7_76
      else
        if l4_76 ≤ l1 then
          f12_paragraphFrom_j99 l1 l2 μ l3_76 l4_76 l6_76 l7_76
        else
          some (.inr (Sum.inr l4_76))
  else
    f12_paragraphFrom_j112 l1 l2 μ l3_76 l6_76 l7_76
def f12_paragraphFrom_j68 (l1 : Int32) (l2 : Int32) (μ : Sto) (l3_24 : Int32) (l4_24 : Int32) (l5_24 : Int32) (l7_68 : Int32) (s0_68 : Int32) : Option ((Int32 × Int32) ⊕ (Int32 × Int32)) :=
  stp s0_68 fun x6_4 =>
  stp (l7_68 + (1 : Int32)) fun x7_5 =>
  some (.inl (x6_4, x7_5))
def f12_paragraphFrom_j67 (l1 : Int32) (l2 : Int32) (μ : Sto) (l3_24 : Int32) (l4_24 : Int32) (l5_24 : Int32) (l7_67 : Int32) : Option ((Int32 × Int32) ⊕ (Int32 × Int32)) :=
  f12_paragraphFrom_j68 l1 l2 μ l3_24 l4_24 l5_24 l7_67 (0 : Int32)
def f12_paragraphFrom_b24 (l1 : Int32) (l2 : Int32) (μ : Sto) (l3_24 : Int32) (l4_24 : Int32) (l5_24 : Int32) (l6_24 : Int32) (l7_24 : Int32) : Option ((Int32 × Int32) ⊕ (Int32 × Int32)) :=
  if (fI μ 2017 5) ≤ l7_24 then
    some (.inr (l6_24, l7_24))
  else
    gd (inb l7_24 3000) <|
    if (aI μ 2018 (Int32.toNatClampNeg l7_24)) = (10 : Int32) then
      some (.inr (l6_24, l7_24))
    else
      if l6_24 = 0 then
        f12_paragraphFrom_j67 l1 l2 μ l3_24 l4_24 l5_24 l7_24
      else
        gd (inb l7_24 3000) <|
        bnd (f12_isSpace (aI μ 2018 (Int32.toNatClampNeg l7_24))) fun p_11 =>
        if p_11 = 0 then
          f12_paragraphFrom_j67 l1 l2 μ l3_24 l4_24 l5_24 l7_24
        else
          f12_paragraphFrom_j68 l1 l2 μ l3_24 l4_24 l5_24 l7_24 (1 : Int32)
def f12_paragraphFrom_j24 (l1 : Int32) (l2 : Int32) (μ : Sto) (l3_24 : Int32) (l4_24 : Int32) (l5_24 : Int32) (l6_24 : Int32) (l7_24 : Int32) : Option ((Int32 × Int32 × Int32) ⊕ (Int32 ⊕ Int32)) :=
  bnd (loopF (fun s_24 => f12_paragraphFrom_b24 l1 l2 μ l3_24 l4_24 l5_24 s_24.1 s_24.2) FU (l6_24, l7_24)) fun r_24 =>
    f12_paragraphFrom_j76 l1 l2 μ l3_24 l4_24 l5_24 r_24.1 r_24.2
def f12_paragraphFrom_b8 (l1 : Int32) (l2 : Int32) (μ : Sto) (l3_8 : Int32) (l4_8 : Int32) (l5_8 : Int32) : Option ((Int32 × Int32 × Int32) ⊕ (Int32 ⊕ Int32)) :=
  if (fI μ 2017 5) < l4_8 then
    some (.inr (Sum.inl l3_8))
  else
    stp (1 : Int32) fun x6_6 =>
    stp l4_8 fun x7_7 =>
    f12_paragraphFrom_j24 l1 l2 μ l3_8 l4_8 l5_8 x6_6 x7_7
def f12_paragraphFrom_j8 (l1 : Int32) (l2 : Int32) (μ : Sto) (l3_8 : Int32) (l4_8 : Int32) (l5_8 : Int32) : Option (Int32) :=
  bnd (loopF (fun s_8 => f12_paragraphFrom_b8 l1 l2 μ s_8.1 s_8.2.1 s_8.2.2) FU (l3_8, l4_8, l5_8)) fun r_8 =>
    match r_8 with
    | .inl r_8x =>
      if l2 = 0 then
        f12_paragraphFrom_j137 l1 l2 μ r_8x
      else
        f12_paragraphFrom_j137 l1 l2 μ (fI μ 2017 5)
    | .inr r_8y =>
      some r_8y
def f12_paragraphFrom (μ : Sto) (l1 : Int32) (l2 : Int32) : Option (Int32) :=
  stp (0 : Int32) fun x3_8 =>
  stp (0 : Int32) fun x4_9 =>
  stp (1 : Int32) fun x5_10 =>
  f12_paragraphFrom_j8 l1 l2 μ x3_8 x4_9 x5_10
def f12_movedCursor_j165 (l1 : Int32) (l2 : Int32) (l3 : Int32) (μ : Sto) (l5_120 : Int32) (l6_165 : Int32) (s0_165 : Int32) : Option ((Int32 × Int32) ⊕ Int32) :=
  stp s0_165 fun x4_1 =>
  stp (l6_165 + (1 : Int32)) fun x6_2 =>
  some (.inl (x4_1, x6_2))
def f12_movedCursor_j162 (l1 : Int32) (l2 : Int32) (l3 : Int32) (μ : Sto) (l5_120 : Int32) (l6_162 : Int32) (s1_162 : Int32) (s2_162 : Int32) : Option ((Int32 × Int32) ⊕ Int32) :=
  bnd (f12_paragraphFrom μ s1_162 s2_162) fun p_1 =>
  f12_movedCursor_j165 l1 l2 l3 μ l5_120 l6_162 p_1
def f12_movedCursor_j144 (l1 : Int32) (l2 : Int32) (l3 : Int32) (μ : Sto) (l5_120 : Int32) (l6_144 : Int32) (s1_144 : Int32) (s2_144 : Int32) : Option ((Int32 × Int32) ⊕ Int32) :=
  bnd (f12_wordFrom μ s1_144 s2_144) fun p_2 =>
  f12_movedCursor_j165 l1 l2 l3 μ l5_120 l6_144 p_2
def f12_movedCursor_b120 (l1 : Int32) (l2 : Int32) (l3 : Int32) (μ : Sto) (l4_120 : Int32) (l5_120 : Int32) (l6_120 : Int32) : Option ((Int32 × Int32) ⊕ Int32) :=
  if l5_120 ≤ l6_120 then
    some (.inr l4_120)
  else
    if l2 = (2 : Int32) then
      if l3 ≤ 0 then
        f12_movedCursor_j144 l1 l2 l3 μ l5_120 l6_120 l4_120 (0 : Int32)
      else
        f12_movedCursor_j144 l1 l2 l3 μ l5_120 l6_120 l4_120 (1 : Int32)
    else
      if l3 ≤ 0 then
        f12_movedCursor_j162 l1 l2 l3 μ l5_120 l6_120 l4_120 (0 : Int32)
      else
        f12_movedCursor_j162 l1 l2 l3 μ l5_120 l6_120 l4_120 (1 : Int32)
def f12_movedCursor_j120 (l1 : Int32) (l2 : Int32) (l3 : Int32) (μ : Sto) (l4_120 : Int32) (l5_120 : Int32) (l6_120 : Int32) : Option (Int32) :=
  bnd (loopF (fun s_120 => f12_movedCursor_b120 l1 l2 l3 μ s_120.1 l5_120 s_120.2) FU (l4_120, l6_120)) fun r_120 =>
    some r_120
def f12_movedCursor_j115 (l1 : Int32) (l2 : Int32) (l3 : Int32) (μ : Sto) (l4_115 : Int32) (s0_115 : Int32) : Option (Int32) :=
  stp s0_115 fun x5_3 =>
  stp (0 : Int32) fun x6_4 =>
  f12_movedCursor_j120 l1 l2 l3 μ l4_115 x5_3 x6_4
def f12_movedCursor_j101 (l1 : Int32) (l2 : Int32) (l3 : Int32) (μ : Sto) (s0_101 : Int32) : Option (Int32) :=
  some s0_101
def f12_movedCursor_j62 (l1 : Int32) (l2 : Int32) (l3 : Int32) (μ : Sto) (s0_62 : Int32) : Option (Int32) :=
  some s0_62
def f12_movedCursor (μ : Sto) (l1 : Int32) (l2 : Int32) (l3 : Int32) : Option (Int32) :=
  if l2 = 0 then
    bnd (f12_less (fI μ 2017 5) (l1 + l3)) fun p_22 =>
    bnd (f12_more (0 : Int32) p_22) fun p_23 =>
    some p_23
  else
    if l2 = (1 : Int32) then
      bnd (f12_lineAt μ l1) fun p_17 =>
      stp p_17 fun x4_6 =>
      bnd (f12_visibleFrom μ x4_6 l3) fun p_18 =>
      stp p_18 fun x5_7 =>
      if x5_7 = x4_6 then
        f12_movedCursor_j62 l1 l2 l3 μ l1
      else
        bnd (f12_column μ l1) fun p_20 =>
        bnd (f12_placeIn μ x5_7 p_20) fun p_21 =>
        f12_movedCursor_j62 l1 l2 l3 μ p_21
    else
      if l2 = (3 : Int32) then
        if 0 ≤ l3 then
          if l3 ≤ 0 then
            f12_movedCursor_j101 l1 l2 l3 μ l1
          else
            bnd (f12_lineAt μ l1) fun p_13 =>
            bnd (f12_endOf μ p_13) fun p_14 =>
            f12_movedCursor_j101 l1 l2 l3 μ p_14
        else
          bnd (f12_lineAt μ l1) fun p_15 =>
          bnd (f12_beginOf μ p_15) fun p_16 =>
          f12_movedCursor_j101 l1 l2 l3 μ p_16
      else
        stp l1 fun x4_5 =>
        if 0 ≤ l3 then
          f12_movedCursor_j115 l1 l2 l3 μ x4_5 l3
        else
          f12_movedCursor_j115 l1 l2 l3 μ x4_5 (-l3)
def f12_movesCursors_b40 (l1 : Int32) (l2 : Int32) (μ_40 : Sto) (l3_40 : Int32) : Option ((Sto × Int32) ⊕ Sto) :=
  if (fI μ_40 2017 6) ≤ l3_40 then
    some (.inr μ_40)
  else
    gd (inb l3_40 8) <|
    bnd (f12_opensAt μ_40 (aI μ_40 2019 (Int32.toNatClampNeg l3_40))) fun p_3 =>
    stp (l3_40 + (1 : Int32)) fun x3_1 =>
    some (.inl (p_3, x3_1))
def f12_movesCursors_j40 (l1 : Int32) (l2 : Int32) (μ_40 : Sto) (l3_40 : Int32) : Option (Sto) :=
  bnd (loopF (fun s_40 => f12_movesCursors_b40 l1 l2 s_40.1 s_40.2) FU (μ_40, l3_40)) fun r_40 =>
    some r_40
def f12_movesCursors_b2 (l1 : Int32) (l2 : Int32) (μ_2 : Sto) (l3_2 : Int32) : Option ((Sto × Int32) ⊕ Sto) :=
  if (fI μ_2 2017 6) ≤ l3_2 then
    some (.inr μ_2)
  else
    gd (inb l3_2 8) <|
    bnd (f12_movedCursor μ_2 (aI μ_2 2019 (Int32.toNatClampNeg l3_2)) l1 l2) fun p_7 =>
    gd (inb l3_2 8) <|
    stp (uA μ_2 2019 (Int32.toNatClampNeg l3_2) p_7) fun μx_3 =>
    stp (l3_2 + (1 : Int32)) fun x3_4 =>
    some (.inl (μx_3, x3_4))
def f12_movesCursors_j2 (l1 : Int32) (l2 : Int32) (μ_2 : Sto) (l3_2 : Int32) : Option (Sto) :=
  bnd (loopF (fun s_2 => f12_movesCursors_b2 l1 l2 s_2.1 s_2.2) FU (μ_2, l3_2)) fun r_2 =>
    bnd (f12_orders r_2) fun p_9 =>
    stp (0 : Int32) fun x3_5 =>
    f12_movesCursors_j40 l1 l2 p_9 x3_5
def f12_movesCursors (μ : Sto) (l1 : Int32) (l2 : Int32) : Option (Sto) :=
  stp (0 : Int32) fun x3_6 =>
  f12_movesCursors_j2 l1 l2 μ x3_6
def f12_moveCursors_j20 (l1 : Int32) (l2 : Int32) (μ_20 : Sto) : Option (Int32 × Sto) :=
  bnd (f12_refuse μ_20 (1 : Int32)) fun p_1 =>
  some (p_1.1, p_1.2)
def f12_moveCursors (μ : Sto) (l1 : Int32) (l2 : Int32) : Option (Int32 × Sto) :=
  bnd (f12_in l1 (0 : Int32) (4 : Int32)) fun p_2 =>
  if p_2 = 0 then
    f12_moveCursors_j20 l1 l2 μ
  else
    bnd (f12_in l2 (-50 : Int32) (50 : Int32)) fun p_4 =>
    if p_4 = 0 then
      f12_moveCursors_j20 l1 l2 μ
    else
      bnd (f12_movesCursors μ l1 l2) fun p_6 =>
      bnd (f12_steps p_6 (2 : Int32) l1 l2) fun p_7 =>
      bnd (f12_told p_7 (fI p_7 2017 6)) fun p_8 =>
      some (p_8.1, p_8.2)
def f12_cursorAt_j32 (l1 : Int32) (μ_32 : Sto) (s0_32 : Int32) : Option (Int32 × Sto) :=
  some (s0_32, μ_32)
def f12_cursorAt (μ : Sto) (l1 : Int32) : Option (Int32 × Sto) :=
  bnd (f12_in l1 (0 : Int32) ((fI μ 2017 6) - (1 : Int32))) fun p_1 =>
  if p_1 = 0 then
    bnd (f12_refuse μ (1 : Int32)) fun p_3 =>
    f12_cursorAt_j32 l1 p_3.2 p_3.1
  else
    gd (inb l1 8) <|
    bnd (f12_told μ (aI μ 2019 (Int32.toNatClampNeg l1))) fun p_5 =>
    f12_cursorAt_j32 l1 p_5.2 p_5.1
def f12_isMark (l0 : Int32) : Option (Int32) :=
  bnd (f12_in l0 (0 : Int32) (15 : Int32)) fun p_1 =>
  gd (isB p_1) <|
  some p_1
def f12_setMark_j15 (l1 : Int32) (l2 : Int32) (l3 : Int32) (μ_15 : Sto) : Option (Int32 × Sto) :=
  bnd (f12_refuse μ_15 (1 : Int32)) fun p_1 =>
  some (p_1.1, p_1.2)
def f12_setMark (μ : Sto) (l1 : Int32) (l2 : Int32) (l3 : Int32) : Option (Int32 × Sto) :=
  bnd (f12_isMark l1) fun p_2 =>
  if p_2 = 0 then
    f12_setMark_j15 l1 l2 l3 μ
  else
    bnd (f12_isPlace μ l2) fun p_4 =>
    if p_4 = 0 then
      f12_setMark_j15 l1 l2 l3 μ
    else
      gd (inb l1 16) <|
      stp (aI μ 2020 (Int32.toNatClampNeg l1)) fun x4_1 =>
      gd (inb l1 16) <|
      stp (uA μ 2020 (Int32.toNatClampNeg l1) l2) fun μx_2 =>
      gd (inb l1 16) <|
      stp (uA μx_2 2021 (Int32.toNatClampNeg l1) (vp_nar .boolean l3)) fun μx_3 =>
      bnd (f12_told μx_3 x4_1) fun p_9 =>
      some (p_9.1, p_9.2)
def f12_dropMark (μ : Sto) (l1 : Int32) : Option (Int32 × Sto) :=
  bnd (f12_isMark l1) fun p_1 =>
  if p_1 = 0 then
    bnd (f12_refuse μ (1 : Int32)) fun p_7 =>
    some (p_7.1, p_7.2)
  else
    gd (inb l1 16) <|
    stp (aI μ 2020 (Int32.toNatClampNeg l1)) fun x2_1 =>
    gd (inb l1 16) <|
    stp (uA μ 2020 (Int32.toNatClampNeg l1) (-1 : Int32)) fun μx_2 =>
    gd (inb l1 16) <|
    stp (uA μx_2 2021 (Int32.toNatClampNeg l1) (vp_nar .boolean (0 : Int32))) fun μx_3 =>
    bnd (f12_told μx_3 x2_1) fun p_6 =>
    some (p_6.1, p_6.2)
def f12_markAt_j25 (l1 : Int32) (μ_25 : Sto) (s0_25 : Int32) : Option (Int32 × Sto) :=
  some (s0_25, μ_25)
def f12_markAt (μ : Sto) (l1 : Int32) : Option (Int32 × Sto) :=
  bnd (f12_isMark l1) fun p_1 =>
  if p_1 = 0 then
    bnd (f12_refuse μ (1 : Int32)) fun p_3 =>
    f12_markAt_j25 l1 p_3.2 p_3.1
  else
    gd (inb l1 16) <|
    bnd (f12_told μ (aI μ 2020 (Int32.toNatClampNeg l1))) fun p_5 =>
    f12_markAt_j25 l1 p_5.2 p_5.1
def f12_markBeside_j125 (l1 : Int32) (l2 : Int32) (μ_19 : Sto) (l3_125 : Int32) (l4_125 : Int32) : Option ((Int32 × Int32) ⊕ Int32) :=
  stp (l4_125 + (1 : Int32)) fun x4_1 =>
  some (.inl (l3_125, x4_1))
def f12_markBeside_j122 (l1 : Int32) (l2 : Int32) (μ_19 : Sto) (l4_122 : Int32) : Option ((Int32 × Int32) ⊕ Int32) :=
  stp l4_122 fun x3_2 =>
  f12_markBeside_j125 l1 l2 μ_19 x3_2 l4_122
def f12_markBeside_j71 (l1 : Int32) (l2 : Int32) (μ_19 : Sto) (l3_71 : Int32) (l4_71 : Int32) (s0_71 : Int32) : Option ((Int32 × Int32) ⊕ Int32) :=
  stp s0_71 fun x5_3 =>
  if x5_3 = 0 then
    f12_markBeside_j125 l1 l2 μ_19 l3_71 l4_71
  else
    if l3_71 = (-1 : Int32) then
      f12_markBeside_j122 l1 l2 μ_19 l4_71
    else
      if l2 = 0 then
        gd (inb l4_71 16) <|
        gd (inb l3_71 16) <|
        if (aI μ_19 2020 (Int32.toNatClampNeg l4_71)) ≤ (aI μ_19 2020 (Int32.toNatClampNeg l3_71)) then
          f12_markBeside_j125 l1 l2 μ_19 l3_71 l4_71
        else
          f12_markBeside_j122 l1 l2 μ_19 l4_71
      else
        gd (inb l4_71 16) <|
        gd (inb l3_71 16) <|
        if (aI μ_19 2020 (Int32.toNatClampNeg l3_71)) ≤ (aI μ_19 2020 (Int32.toNatClampNeg l4_71)) then
          f12_markBeside_j125 l1 l2 μ_19 l3_71 l4_71
        else
          f12_markBeside_j122 l1 l2 μ_19 l4_71
def f12_markBeside_j70 (l1 : Int32) (l2 : Int32) (μ_19 : Sto) (l3_70 : Int32) (l4_70 : Int32) : Option ((Int32 × Int32) ⊕ Int32) :=
  f12_markBeside_j71 l1 l2 μ_19 l3_70 l4_70 (0 : Int32)
def f12_markBeside_j66 (l1 : Int32) (l2 : Int32) (μ_19 : Sto) (l3_66 : Int32) (l4_66 : Int32) : Option ((Int32 × Int32) ⊕ Int32) :=
  f12_markBeside_j71 l1 l2 μ_19 l3_66 l4_66 (1 : Int32)
def f12_markBeside_b19 (l1 : Int32) (l2 : Int32) (μ_19 : Sto) (l3_19 : Int32) (l4_19 : Int32) : Option ((Int32 × Int32) ⊕ Int32) :=
  if (16 : Int32) ≤ l4_19 then
    some (.inr l3_19)
  else
    gd (inb l4_19 16) <|
    if (aI μ_19 2020 (Int32.toNatClampNeg l4_19)) = (-1 : Int32) then
      f12_markBeside_j70 l1 l2 μ_19 l3_19 l4_19
    else
      if l2 = 0 then
        gd (inb l4_19 16) <|
        if l1 < (aI μ_19 2020 (Int32.toNatClampNeg l4_19)) then
          f12_markBeside_j70 l1 l2 μ_19 l3_19 l4_19
        else
          f12_markBeside_j66 l1 l2 μ_19 l3_19 l4_19
      else
        gd (inb l4_19 16) <|
        if (aI μ_19 2020 (Int32.toNatClampNeg l4_19)) < l1 then
          f12_markBeside_j70 l1 l2 μ_19 l3_19 l4_19
        else
          f12_markBeside_j66 l1 l2 μ_19 l3_19 l4_19
def f12_markBeside_j19 (l1 : Int32) (l2 : Int32) (μ_19 : Sto) (l3_19 : Int32) (l4_19 : Int32) : Option (Int32 × Sto) :=
  bnd (loopF (fun s_19 => f12_markBeside_b19 l1 l2 μ_19 s_19.1 s_19.2) FU (l3_19, l4_19)) fun r_19 =>
    bnd (f12_told μ_19 r_19) fun p_19 =>
    some (p_19.1, p_19.2)
def f12_markBeside (μ : Sto) (l1 : Int32) (l2 : Int32) : Option (Int32 × Sto) :=
  bnd (f12_isPlace μ l1) fun p_20 =>
  if p_20 = 0 then
    bnd (f12_refuse μ (1 : Int32)) fun p_22 =>
    some (p_22.1, p_22.2)
  else
    stp (-1 : Int32) fun x3_4 =>
    stp (0 : Int32) fun x4_5 =>
    f12_markBeside_j19 l1 l2 μ x3_4 x4_5
def f12_fold_b79 (l1 : Int32) (l2 : Int32) (μ_79 : Sto) (l3_79 : Int32) : Option ((Sto × Int32) ⊕ Sto) :=
  if l2 < l3_79 then
    some (.inr μ_79)
  else
    gd (inb l3_79 301) <|
    stp (uA μ_79 2022 (Int32.toNatClampNeg l3_79) (vp_nar .boolean (1 : Int32))) fun μx_1 =>
    stp (l3_79 + (1 : Int32)) fun x3_2 =>
    some (.inl (μx_1, x3_2))
def f12_fold_j79 (l1 : Int32) (l2 : Int32) (μ_79 : Sto) (l3_79 : Int32) : Option (Int32 × Sto) :=
  bnd (loopF (fun s_79 => f12_fold_b79 l1 l2 s_79.1 s_79.2) FU (μ_79, l3_79)) fun r_79 =>
    bnd (f12_hiddenMany r_79) fun p_5 =>
    bnd (f12_told r_79 p_5) fun p_6 =>
    some (p_6.1, p_6.2)
def f12_fold_b35 (l1 : Int32) (l2 : Int32) (μ_35 : Sto) (l3_35 : Int32) : Option (Int32 ⊕ (Unit ⊕ Unit)) :=
  if (fI μ_35 2017 6) ≤ l3_35 then
    some (.inr (Sum.inl ()))
  else
    gd (inb l3_35 8) <|
    bnd (f12_lineAt μ_35 (aI μ_35 2019 (Int32.toNatClampNeg l3_35))) fun p_9 =>
    bnd (f12_in p_9 (l1 + (1 : Int32)) l2) fun p_10 =>
    if p_10 = 0 then
      stp (l3_35 + (1 : Int32)) fun x3_4 =>
      some (.inl x3_4)
    else
      some (.inr (Sum.inr ()))
def f12_fold_j35 (l1 : Int32) (l2 : Int32) (μ_35 : Sto) (l3_35 : Int32) : Option (Int32 × Sto) :=
  bnd (loopF (fun s_35 => f12_fold_b35 l1 l2 μ_35 s_35) FU l3_35) fun r_35 =>
    match r_35 with
    | .inl r_35x =>
      stp (l1 + (1 : Int32)) fun x3_5 =>
      f12_fold_j79 l1 l2 μ_35 x3_5
    | .inr r_35y =>
      bnd (f12_refuse μ_35 (3 : Int32)) fun p_13 =>
      some (p_13.1, p_13.2)
def f12_fold_j16 (l1 : Int32) (l2 : Int32) (μ_16 : Sto) : Option (Int32 × Sto) :=
  bnd (f12_refuse μ_16 (1 : Int32)) fun p_14 =>
  some (p_14.1, p_14.2)
def f12_fold (μ : Sto) (l1 : Int32) (l2 : Int32) : Option (Int32 × Sto) :=
  bnd (f12_isLine μ l1) fun p_15 =>
  if p_15 = 0 then
    f12_fold_j16 l1 l2 μ
  else
    bnd (f12_isLine μ l2) fun p_17 =>
    if p_17 = 0 then
      f12_fold_j16 l1 l2 μ
    else
      if l1 < l2 then
        stp (0 : Int32) fun x3_6 =>
        f12_fold_j35 l1 l2 μ x3_6
      else
        bnd (f12_refuse μ (2 : Int32)) fun p_20 =>
        some (p_20.1, p_20.2)
def f12_unfold_j25 (l1 : Int32) (μ_25 : Sto) (s0_25 : Int32) : Option (Int32 × Sto) :=
  some (s0_25, μ_25)
def f12_unfold (μ : Sto) (l1 : Int32) : Option (Int32 × Sto) :=
  bnd (f12_isLine μ l1) fun p_1 =>
  if p_1 = 0 then
    bnd (f12_refuse μ (1 : Int32)) fun p_3 =>
    f12_unfold_j25 l1 p_3.2 p_3.1
  else
    bnd (f12_opens μ l1) fun p_4 =>
    bnd (f12_told p_4.2 p_4.1) fun p_5 =>
    f12_unfold_j25 l1 p_5.2 p_5.1
def f12_isHidden_j26 (l1 : Int32) (μ_26 : Sto) (s0_26 : Int32) : Option (Int32 × Sto) :=
  gd (isB s0_26) <|
  some (s0_26, μ_26)
def f12_isHidden (μ : Sto) (l1 : Int32) : Option (Int32 × Sto) :=
  bnd (f12_isLine μ l1) fun p_2 =>
  if p_2 = 0 then
    bnd (f12_denies μ (1 : Int32)) fun p_4 =>
    f12_isHidden_j26 l1 p_4.2 p_4.1
  else
    gd (inb l1 301) <|
    bnd (f12_says μ (aI μ 2022 (Int32.toNatClampNeg l1))) fun p_6 =>
    f12_isHidden_j26 l1 p_6.2 p_6.1
def f12_isView (l0 : Int32) : Option (Int32) :=
  bnd (f12_in l0 (0 : Int32) (1 : Int32)) fun p_1 =>
  gd (isB p_1) <|
  some p_1
def f12_setView_j27 (l1 : Int32) (l2 : Int32) (l3 : Int32) (μ_27 : Sto) : Option (Int32 × Sto) :=
  bnd (f12_refuse μ_27 (2 : Int32)) fun p_1 =>
  some (p_1.1, p_1.2)
def f12_setView (μ : Sto) (l1 : Int32) (l2 : Int32) (l3 : Int32) : Option (Int32 × Sto) :=
  bnd (f12_isView l1) fun p_2 =>
  if p_2 = 0 then
    bnd (f12_refuse μ (1 : Int32)) fun p_11 =>
    some (p_11.1, p_11.2)
  else
    if l2 < 0 then
      f12_setView_j27 l1 l2 l3 μ
    else
      bnd (f12_in l3 (1 : Int32) (40 : Int32)) fun p_5 =>
      if p_5 = 0 then
        f12_setView_j27 l1 l2 l3 μ
      else
        gd (inb l1 2) <|
        stp (aI μ 2027 (Int32.toNatClampNeg l1)) fun x4_1 =>
        gd (inb l1 2) <|
        stp (uA μ 2027 (Int32.toNatClampNeg l1) l2) fun μx_2 =>
        gd (inb l1 2) <|
        stp (uA μx_2 2028 (Int32.toNatClampNeg l1) l3) fun μx_3 =>
        bnd (f12_told μx_3 x4_1) fun p_10 =>
        some (p_10.1, p_10.2)
def f12_rowOf_j129 (l1 : Int32) (l2 : Int32) (μ_129 : Sto) (s1_129 : Int32) : Option (Int32 × Sto) :=
  bnd (f12_told μ_129 s1_129) fun p_1 =>
  some (p_1.1, p_1.2)
def f12_rowOf_j116 (l1 : Int32) (l2 : Int32) (μ_116 : Sto) (l3_116 : Int32) (l4_116 : Int32) : Option (Int32 × Sto) :=
  if l3_116 ≤ l4_116 then
    f12_rowOf_j129 l1 l2 μ_116 (-1 : Int32)
  else
    f12_rowOf_j129 l1 l2 μ_116 l4_116
def f12_rowOf_j110 (l1 : Int32) (l2 : Int32) (μ_73 : Sto) (l3_73 : Int32) (l4_110 : Int32) (s0_110 : Int32) (s1_110 : Int32) : Option ((Int32 × Int32) ⊕ Int32) :=
  stp (s0_110 - s1_110) fun x5_1 =>
  some (.inl (l4_110, x5_1))
def f12_rowOf_j109 (l1 : Int32) (l2 : Int32) (μ_73 : Sto) (l3_73 : Int32) (l4_109 : Int32) (s0_109 : Int32) : Option ((Int32 × Int32) ⊕ Int32) :=
  f12_rowOf_j110 l1 l2 μ_73 l3_73 l4_109 s0_109 (0 : Int32)
def f12_rowOf_b73 (l1 : Int32) (l2 : Int32) (μ_73 : Sto) (l3_73 : Int32) (l4_73 : Int32) (l5_73 : Int32) : Option ((Int32 × Int32) ⊕ Int32) :=
  if l5_73 ≤ 0 then
    some (.inr l4_73)
  else
    if l3_73 ≤ l4_73 then
      some (.inr l4_73)
    else
      stp (l4_73 + (1 : Int32)) fun x4_2 =>
      if l3_73 ≤ x4_2 then
        f12_rowOf_j109 l1 l2 μ_73 l3_73 x4_2 l5_73
      else
        gd (inb x4_2 301) <|
        if (aI μ_73 2022 (Int32.toNatClampNeg x4_2)) = 0 then
          f12_rowOf_j110 l1 l2 μ_73 l3_73 x4_2 l5_73 (1 : Int32)
        else
          f12_rowOf_j109 l1 l2 μ_73 l3_73 x4_2 l5_73
def f12_rowOf_j73 (l1 : Int32) (l2 : Int32) (μ_73 : Sto) (l3_73 : Int32) (l4_73 : Int32) (l5_73 : Int32) : Option (Int32 × Sto) :=
  bnd (loopF (fun s_73 => f12_rowOf_b73 l1 l2 μ_73 l3_73 s_73.1 s_73.2) FU (l4_73, l5_73)) fun r_73 =>
    f12_rowOf_j116 l1 l2 μ_73 l3_73 r_73
def f12_rowOf_b54 (l1 : Int32) (l2 : Int32) (μ_54 : Sto) (l3_54 : Int32) (l4_54 : Int32) : Option (Int32 ⊕ Int32) :=
  gd (inb l4_54 301) <|
  if (aI μ_54 2022 (Int32.toNatClampNeg l4_54)) = 0 then
    some (.inr l4_54)
  else
    stp (l4_54 + (-1 : Int32)) fun x4_4 =>
    some (.inl x4_4)
def f12_rowOf_j54 (l1 : Int32) (l2 : Int32) (μ_54 : Sto) (l3_54 : Int32) (l4_54 : Int32) : Option (Int32 × Sto) :=
  bnd (loopF (fun s_54 => f12_rowOf_b54 l1 l2 μ_54 l3_54 s_54) FU l4_54) fun r_54 =>
    stp l2 fun x5_5 =>
    f12_rowOf_j73 l1 l2 μ_54 l3_54 r_54 x5_5
def f12_rowOf (μ : Sto) (l1 : Int32) (l2 : Int32) : Option (Int32 × Sto) :=
  bnd (f12_isView l1) fun p_10 =>
  if p_10 = 0 then
    bnd (f12_refuse μ (1 : Int32)) fun p_19 =>
    some (p_19.1, p_19.2)
  else
    gd (inb l1 2) <|
    bnd (f12_in l2 (0 : Int32) ((aI μ 2028 (Int32.toNatClampNeg l1)) - (1 : Int32))) fun p_13 =>
    if p_13 = 0 then
      bnd (f12_refuse μ (2 : Int32)) fun p_18 =>
      some (p_18.1, p_18.2)
    else
      bnd (f12_lines μ) fun p_15 =>
      stp p_15 fun x3_6 =>
      gd (inb l1 2) <|
      bnd (f12_less (aI μ 2027 (Int32.toNatClampNeg l1)) (x3_6 - (1 : Int32))) fun p_17 =>
      stp p_17 fun x4_7 =>
      f12_rowOf_j54 l1 l2 μ x3_6 x4_7
def f12_record_j14 (l1 : Int32) (μ_14 : Sto) (l2_14 : Int32) : Option (Int32 × Sto) :=
  gd (isB l1) <|
  stp (uI μ_14 2017 51 l1) fun μx_1 =>
  bnd (f12_told μx_1 l2_14) fun p_2 =>
  some (p_2.1, p_2.2)
def f12_record (μ : Sto) (l1 : Int32) : Option (Int32 × Sto) :=
  stp (fI μ 2017 50) fun x2_2 =>
  if l1 = 0 then
    f12_record_j14 l1 μ x2_2
  else
    stp (uI μ 2017 50 (0 : Int32)) fun μx_3 =>
    f12_record_j14 l1 μx_3 x2_2
def f12_does_b151 (l1 : Int32) (μ_151 : Sto) (l2_151 : Int32) (l3_151 : Int32) (l4_151 : Int32) : Option ((Sto × Int32) ⊕ Sto) :=
  if l2_151 ≤ l4_151 then
    some (.inr μ_151)
  else
    gd (inb l4_151 200) <|
    gd (inb l4_151 200) <|
    stp (uA μ_151 2023 (Int32.toNatClampNeg l4_151) (aI μ_151 2049 (Int32.toNatClampNeg l4_151))) fun μx_1 =>
    stp (l4_151 + (1 : Int32)) fun x4_2 =>
    some (.inl (μx_1, x4_2))
def f12_does_j151 (l1 : Int32) (μ_151 : Sto) (l2_151 : Int32) (l3_151 : Int32) (l4_151 : Int32) : Option (Int32 × Sto) :=
  bnd (loopF (fun s_151 => f12_does_b151 l1 s_151.1 l2_151 l3_151 s_151.2) FU (μ_151, l4_151)) fun r_151 =>
    gd (isB l3_151) <|
    some (l3_151, r_151)
def f12_does_b106 (l1 : Int32) (μ_106 : Sto) (l2_106 : Int32) (l3_106 : Int32) : Option ((Sto × Int32) ⊕ Sto) :=
  if (fI μ_106 2017 11) ≤ l3_106 then
    some (.inr μ_106)
  else
    gd (inb (((200 : Int32) * l1) + l3_106) 8000) <|
    gd (inb l3_106 200) <|
    stp (uA μ_106 2023 (Int32.toNatClampNeg l3_106) (aI μ_106 2048 (Int32.toNatClampNeg (((200 : Int32) * l1) + l3_106)))) fun μx_6 =>
    stp (l3_106 + (1 : Int32)) fun x3_7 =>
    some (.inl (μx_6, x3_7))
def f12_does_j106 (l1 : Int32) (μ_106 : Sto) (l2_106 : Int32) (l3_106 : Int32) : Option (Int32 × Sto) :=
  bnd (loopF (fun s_106 => f12_does_b106 l1 s_106.1 l2_106 s_106.2) FU (μ_106, l3_106)) fun r_106 =>
    bnd (f12_types r_106) fun p_10 =>
    stp p_10.1 fun x3_8 =>
    stp (uI p_10.2 2017 11 l2_106) fun μx_9 =>
    stp (0 : Int32) fun x4_10 =>
    f12_does_j151 l1 μx_9 l2_106 x3_8 x4_10
def f12_does_b71 (l1 : Int32) (μ_71 : Sto) (l2_71 : Int32) (l3_71 : Int32) : Option ((Sto × Int32) ⊕ Sto) :=
  if l2_71 ≤ l3_71 then
    some (.inr μ_71)
  else
    gd (inb l3_71 200) <|
    gd (inb l3_71 200) <|
    stp (uA μ_71 2049 (Int32.toNatClampNeg l3_71) (aI μ_71 2023 (Int32.toNatClampNeg l3_71))) fun μx_13 =>
    stp (l3_71 + (1 : Int32)) fun x3_14 =>
    some (.inl (μx_13, x3_14))
def f12_does_j71 (l1 : Int32) (μ_71 : Sto) (l2_71 : Int32) (l3_71 : Int32) : Option (Int32 × Sto) :=
  bnd (loopF (fun s_71 => f12_does_b71 l1 s_71.1 l2_71 s_71.2) FU (μ_71, l3_71)) fun r_71 =>
    gd (inb l1 40) <|
    stp (uI r_71 2017 11 (aI r_71 2047 (Int32.toNatClampNeg l1))) fun μx_15 =>
    stp (0 : Int32) fun x3_16 =>
    f12_does_j106 l1 μx_15 l2_71 x3_16
def f12_does (μ : Sto) (l1 : Int32) : Option (Int32 × Sto) :=
  gd (inb l1 40) <|
  if (aI μ 2044 (Int32.toNatClampNeg l1)) = (2 : Int32) then
    gd (inb l1 40) <|
    gd (inb l1 40) <|
    bnd (f12_movesCursors μ (aI μ 2045 (Int32.toNatClampNeg l1)) (aI μ 2046 (Int32.toNatClampNeg l1))) fun p_29 =>
    some ((1 : Int32), p_29)
  else
    gd (inb l1 40) <|
    if (aI μ 2044 (Int32.toNatClampNeg l1)) = (1 : Int32) then
      gd (inb l1 40) <|
      bnd (f12_erases μ (aI μ 2045 (Int32.toNatClampNeg l1))) fun p_25 =>
      gd (isB p_25.1) <|
      some (p_25.1, p_25.2)
    else
      gd (inb l1 40) <|
      if (aI μ 2044 (Int32.toNatClampNeg l1)) = (3 : Int32) then
        bnd (f12_pastes μ) fun p_22 =>
        gd (isB p_22.1) <|
        some (p_22.1, p_22.2)
      else
        stp (fI μ 2017 11) fun x2_17 =>
        stp (0 : Int32) fun x3_18 =>
        f12_does_j71 l1 μ x2_17 x3_18
def f12_play_j116 (l1 : Int32) (μ_116 : Sto) (l3_116 : Int32) : Option (Int32 × Sto) :=
  bnd (f12_told μ_116 l3_116) fun p_1 =>
  some (p_1.1, p_1.2)
def f12_play_j108 (l1 : Int32) (μ_108 : Sto) (l2_108 : Int32) (l3_108 : Int32) : Option (Int32 × Sto) :=
  if l2_108 = 0 then
    bnd (f12_closes μ_108) fun p_3 =>
    f12_play_j116 l1 p_3 l3_108
  else
    f12_play_j116 l1 μ_108 l3_108
def f12_play_j102 (l1 : Int32) (l2_47 : Int32) (μ_102 : Sto) (l3_102 : Int32) (l4_102 : Int32) (l5_102 : Int32) : Option ((Sto × Int32 × Int32 × Int32) ⊕ (Sto × Int32)) :=
  stp (l5_102 + (1 : Int32)) fun x5_1 =>
  some (.inl (μ_102, l3_102, l4_102, x5_1))
def f12_play_j94 (l1 : Int32) (l2_47 : Int32) (l5_61 : Int32) (μ_94 : Sto) (l4_94 : Int32) (l6_94 : Int32) (s0_94 : Int32) (s1_94 : Int32) : Option ((Sto × Int32 × Int32 × Int32) ⊕ (Sto × Int32 × Int32)) :=
  stp (s0_94 + s1_94) fun x3_2 =>
  stp (l6_94 + (1 : Int32)) fun x6_3 =>
  some (.inl (μ_94, x3_2, l4_94, x6_3))
def f12_play_b61 (l1 : Int32) (l2_47 : Int32) (μ_61 : Sto) (l3_61 : Int32) (l4_61 : Int32) (l5_61 : Int32) (l6_61 : Int32) : Option ((Sto × Int32 × Int32 × Int32) ⊕ (Sto × Int32 × Int32)) :=
  if (fI μ_61 2017 50) ≤ l6_61 then
    some (.inr (μ_61, l3_61, l4_61))
  else
    if l4_61 = 0 then
      some (.inr (μ_61, l3_61, l4_61))
    else
      bnd (f12_does μ_61 l6_61) fun p_6 =>
      stp p_6.1 fun x4_4 =>
      if x4_4 = 0 then
        f12_play_j94 l1 l2_47 l5_61 p_6.2 x4_4 l6_61 l3_61 (0 : Int32)
      else
        f12_play_j94 l1 l2_47 l5_61 p_6.2 x4_4 l6_61 l3_61 (1 : Int32)
def f12_play_j61 (l1 : Int32) (l2_47 : Int32) (μ_61 : Sto) (l3_61 : Int32) (l4_61 : Int32) (l5_61 : Int32) (l6_61 : Int32) : Option ((Sto × Int32 × Int32 × Int32) ⊕ (Sto × Int32)) :=
  bnd (loopF (fun s_61 => f12_play_b61 l1 l2_47 s_61.1 s_61.2.1 s_61.2.2.1 l5_61 s_61.2.2.2) FU (μ_61, l3_61, l4_61, l6_61)) fun r_61 =>
    f12_play_j102 l1 l2_47 r_61.1 r_61.2.1 r_61.2.2 l5_61
def f12_play_b47 (l1 : Int32) (μ_47 : Sto) (l2_47 : Int32) (l3_47 : Int32) (l4_47 : Int32) (l5_47 : Int32) : Option ((Sto × Int32 × Int32 × Int32) ⊕ (Sto × Int32)) :=
  if l1 ≤ l5_47 then
    some (.inr (μ_47, l3_47))
  else
    if l4_47 = 0 then
      some (.inr (μ_47, l3_47))
    else
      stp (0 : Int32) fun x6_5 =>
      f12_play_j61 l1 l2_47 μ_47 l3_47 l4_47 l5_47 x6_5
def f12_play_j47 (l1 : Int32) (μ_47 : Sto) (l2_47 : Int32) (l3_47 : Int32) (l4_47 : Int32) (l5_47 : Int32) : Option (Int32 × Sto) :=
  bnd (loopF (fun s_47 => f12_play_b47 l1 s_47.1 l2_47 s_47.2.1 s_47.2.2.1 s_47.2.2.2) FU (μ_47, l3_47, l4_47, l5_47)) fun r_47 =>
    f12_play_j108 l1 r_47.1 l2_47 r_47.2
def f12_play (μ : Sto) (l1 : Int32) : Option (Int32 × Sto) :=
  bnd (f12_in l1 (1 : Int32) (20 : Int32)) fun p_10 =>
  if p_10 = 0 then
    bnd (f12_refuse μ (1 : Int32)) fun p_14 =>
    some (p_14.1, p_14.2)
  else
    if (fI μ 2017 51) = 0 then
      stp (fI μ 2017 34) fun x2_6 =>
      stp (uI μ 2017 34 (1 : Int32)) fun μx_7 =>
      stp (0 : Int32) fun x3_8 =>
      stp (1 : Int32) fun x4_9 =>
      stp (0 : Int32) fun x5_10 =>
      f12_play_j47 l1 μx_7 x2_6 x3_8 x4_9 x5_10
    else
      bnd (f12_refuse μ (2 : Int32)) fun p_13 =>
      some (p_13.1, p_13.2)
def f12_words_j48 (μ : Sto) (l2_48 : Int32) (s0_48 : Int32) (s1_48 : Int32) : Option ((Int32 × Int32) ⊕ Int32) :=
  stp (s0_48 + s1_48) fun x1_1 =>
  stp (l2_48 + (1 : Int32)) fun x2_2 =>
  some (.inl (x1_1, x2_2))
def f12_words_j47 (μ : Sto) (l2_47 : Int32) (s0_47 : Int32) : Option ((Int32 × Int32) ⊕ Int32) :=
  f12_words_j48 μ l2_47 s0_47 (0 : Int32)
def f12_words_j43 (μ : Sto) (l2_43 : Int32) (s0_43 : Int32) : Option ((Int32 × Int32) ⊕ Int32) :=
  f12_words_j48 μ l2_43 s0_43 (1 : Int32)
def f12_words_b4 (μ : Sto) (l1_4 : Int32) (l2_4 : Int32) : Option ((Int32 × Int32) ⊕ Int32) :=
  if (fI μ 2017 5) ≤ l2_4 then
    some (.inr l1_4)
  else
    gd (inb l2_4 3000) <|
    bnd (f12_isOfWord (aI μ 2018 (Int32.toNatClampNeg l2_4))) fun p_3 =>
    if p_3 = 0 then
      f12_words_j47 μ l2_4 l1_4
    else
      if l2_4 = 0 then
        f12_words_j43 μ l2_4 l1_4
      else
        gd (inb (l2_4 - (1 : Int32)) 3000) <|
        bnd (f12_isOfWord (aI μ 2018 (Int32.toNatClampNeg (l2_4 - (1 : Int32))))) fun p_7 =>
        if p_7 = 0 then
          f12_words_j43 μ l2_4 l1_4
        else
          f12_words_j47 μ l2_4 l1_4
def f12_words_j4 (μ : Sto) (l1_4 : Int32) (l2_4 : Int32) : Option (Int32) :=
  bnd (loopF (fun s_4 => f12_words_b4 μ s_4.1 s_4.2) FU (l1_4, l2_4)) fun r_4 =>
    some r_4
def f12_words (μ : Sto) : Option (Int32) :=
  stp (0 : Int32) fun x1_3 =>
  stp (0 : Int32) fun x2_4 =>
  f12_words_j4 μ x1_3 x2_4
def f12_marks_j26 (μ : Sto) (l2_26 : Int32) (s0_26 : Int32) (s1_26 : Int32) : Option ((Int32 × Int32) ⊕ Int32) :=
  stp (s0_26 + s1_26) fun x1_1 =>
  stp (l2_26 + (1 : Int32)) fun x2_2 =>
  some (.inl (x1_1, x2_2))
def f12_marks_b4 (μ : Sto) (l1_4 : Int32) (l2_4 : Int32) : Option ((Int32 × Int32) ⊕ Int32) :=
  if (16 : Int32) ≤ l2_4 then
    some (.inr l1_4)
  else
    gd (inb l2_4 16) <|
    if (aI μ 2020 (Int32.toNatClampNeg l2_4)) = (-1 : Int32) then
      f12_marks_j26 μ l2_4 l1_4 (0 : Int32)
    else
      f12_marks_j26 μ l2_4 l1_4 (1 : Int32)
def f12_marks_j4 (μ : Sto) (l1_4 : Int32) (l2_4 : Int32) : Option (Int32) :=
  bnd (loopF (fun s_4 => f12_marks_b4 μ s_4.1 s_4.2) FU (l1_4, l2_4)) fun r_4 =>
    some r_4
def f12_marks (μ : Sto) : Option (Int32) :=
  stp (0 : Int32) fun x1_3 =>
  stp (0 : Int32) fun x2_4 =>
  f12_marks_j4 μ x1_3 x2_4
def f12_count (μ : Sto) (l1 : Int32) : Option (Int32 × Sto) :=
  if Int32.toInt l1 = 0 then
    bnd (f12_told μ (fI μ 2017 5)) fun p_2 =>
    some (p_2.1, p_2.2)
  else if Int32.toInt l1 = 1 then
    bnd (f12_lines μ) fun p_4 =>
    bnd (f12_told μ p_4) fun p_5 =>
    some (p_5.1, p_5.2)
  else if Int32.toInt l1 = 2 then
    bnd (f12_told μ (fI μ 2017 6)) fun p_7 =>
    some (p_7.1, p_7.2)
  else if Int32.toInt l1 = 3 then
    bnd (f12_marks μ) fun p_9 =>
    bnd (f12_told μ p_9) fun p_10 =>
    some (p_10.1, p_10.2)
  else if Int32.toInt l1 = 4 then
    bnd (f12_hiddenMany μ) fun p_12 =>
    bnd (f12_told μ p_12) fun p_13 =>
    some (p_13.1, p_13.2)
  else if Int32.toInt l1 = 5 then
    bnd (f12_told μ (fI μ 2017 11)) fun p_15 =>
    some (p_15.1, p_15.2)
  else if Int32.toInt l1 = 6 then
    bnd (f12_told μ (fI μ 2017 12)) fun p_17 =>
    some (p_17.1, p_17.2)
  else if Int32.toInt l1 = 7 then
    bnd (f12_words μ) fun p_19 =>
    bnd (f12_told μ p_19) fun p_20 =>
    some (p_20.1, p_20.2)
  else
    bnd (f12_refuse μ (1 : Int32)) fun p_21 =>
    some (p_21.1, p_21.2)
def f12_letterAt_j32 (l1 : Int32) (μ_32 : Sto) (s0_32 : Int32) : Option (Int32 × Sto) :=
  some (s0_32, μ_32)
def f12_letterAt (μ : Sto) (l1 : Int32) : Option (Int32 × Sto) :=
  bnd (f12_in l1 (0 : Int32) ((fI μ 2017 5) - (1 : Int32))) fun p_1 =>
  if p_1 = 0 then
    bnd (f12_refuse μ (1 : Int32)) fun p_3 =>
    f12_letterAt_j32 l1 p_3.2 p_3.1
  else
    gd (inb l1 3000) <|
    bnd (f12_told μ (aI μ 2018 (Int32.toNatClampNeg l1))) fun p_5 =>
    f12_letterAt_j32 l1 p_5.2 p_5.1
def f12_lineOf_j25 (l1 : Int32) (μ_25 : Sto) (s0_25 : Int32) : Option (Int32 × Sto) :=
  some (s0_25, μ_25)
def f12_lineOf (μ : Sto) (l1 : Int32) : Option (Int32 × Sto) :=
  bnd (f12_isPlace μ l1) fun p_1 =>
  if p_1 = 0 then
    bnd (f12_refuse μ (1 : Int32)) fun p_3 =>
    f12_lineOf_j25 l1 p_3.2 p_3.1
  else
    bnd (f12_lineAt μ l1) fun p_4 =>
    bnd (f12_told μ p_4) fun p_5 =>
    f12_lineOf_j25 l1 p_5.2 p_5.1
def f12_columnOf_j25 (l1 : Int32) (μ_25 : Sto) (s0_25 : Int32) : Option (Int32 × Sto) :=
  some (s0_25, μ_25)
def f12_columnOf (μ : Sto) (l1 : Int32) : Option (Int32 × Sto) :=
  bnd (f12_isPlace μ l1) fun p_1 =>
  if p_1 = 0 then
    bnd (f12_refuse μ (1 : Int32)) fun p_3 =>
    f12_columnOf_j25 l1 p_3.2 p_3.1
  else
    bnd (f12_column μ l1) fun p_4 =>
    bnd (f12_told μ p_4) fun p_5 =>
    f12_columnOf_j25 l1 p_5.2 p_5.1
def f12_placeAt_j36 (l1 : Int32) (l2 : Int32) (μ_36 : Sto) (s0_36 : Int32) : Option (Int32 × Sto) :=
  some (s0_36, μ_36)
def f12_placeAt (μ : Sto) (l1 : Int32) (l2 : Int32) : Option (Int32 × Sto) :=
  bnd (f12_isLine μ l1) fun p_1 =>
  if p_1 = 0 then
    bnd (f12_refuse μ (1 : Int32)) fun p_7 =>
    some (p_7.1, p_7.2)
  else
    if 0 ≤ l2 then
      bnd (f12_placeIn μ l1 l2) fun p_4 =>
      bnd (f12_told μ p_4) fun p_5 =>
      f12_placeAt_j36 l1 l2 p_5.2 p_5.1
    else
      bnd (f12_refuse μ (2 : Int32)) fun p_6 =>
      f12_placeAt_j36 l1 l2 p_6.2 p_6.1
def f12_setTab (μ : Sto) (l1 : Int32) : Option (Int32 × Sto) :=
  bnd (f12_in l1 (1 : Int32) (8 : Int32)) fun p_1 =>
  if p_1 = 0 then
    bnd (f12_refuse μ (1 : Int32)) fun p_4 =>
    some (p_4.1, p_4.2)
  else
    stp (fI μ 2017 17) fun x2_1 =>
    stp (uI μ 2017 17 l1) fun μx_2 =>
    bnd (f12_told μx_2 x2_1) fun p_3 =>
    some (p_3.1, p_3.2)
def f12_hash_b4 (μ_4 : Sto) (l1_4 : Int32) (l2_4 : Int32) : Option ((Int32 × Int32) ⊕ Int32) :=
  if (fI μ_4 2017 5) ≤ l2_4 then
    some (.inr l1_4)
  else
    gd (inb l2_4 3000) <|
    stp (((31 : Int32) * l1_4) + (aI μ_4 2018 (Int32.toNatClampNeg l2_4))) fun x1_1 =>
    stp (l2_4 + (1 : Int32)) fun x2_2 =>
    some (.inl (x1_1, x2_2))
def f12_hash_j4 (μ_4 : Sto) (l1_4 : Int32) (l2_4 : Int32) : Option (Int32 × Sto) :=
  bnd (loopF (fun s_4 => f12_hash_b4 μ_4 s_4.1 s_4.2) FU (l1_4, l2_4)) fun r_4 =>
    bnd (f12_told μ_4 r_4) fun p_4 =>
    some (p_4.1, p_4.2)
def f12_hash (μ : Sto) : Option (Int32 × Sto) :=
  stp (0 : Int32) fun x1_3 =>
  stp (0 : Int32) fun x2_4 =>
  f12_hash_j4 μ x1_3 x2_4
def f12_meanLine (μ : Sto) : Option (UInt64 × Sto) :=
  stp (uI μ 2017 18 (0 : Int32)) fun μx_1 =>
  bnd (f12_lines μx_1) fun p_1 =>
  stp p_1 fun x1_2 =>
  gd (nf64 (FP.ddiv (FP.i2d ((fI μx_1 2017 5) - (x1_2 - (1 : Int32)))) (FP.i2d x1_2))) <|
  some (FP.ddiv (FP.i2d ((fI μx_1 2017 5) - (x1_2 - (1 : Int32)))) (FP.i2d x1_2), μx_1)
def f12_keep_b10 (μ_10 : Sto) (l1_10 : Int32) : Option ((Sto × Int32) ⊕ Sto) :=
  if (fI μ_10 2017 5) ≤ l1_10 then
    some (.inr μ_10)
  else
    gd (inb l1_10 3000) <|
    gd (inb l1_10 3000) <|
    stp (uA μ_10 2026 (Int32.toNatClampNeg l1_10) (aI μ_10 2018 (Int32.toNatClampNeg l1_10))) fun μx_1 =>
    stp (l1_10 + (1 : Int32)) fun x1_2 =>
    some (.inl (μx_1, x1_2))
def f12_keep_j10 (μ_10 : Sto) (l1_10 : Int32) : Option (Int32 × Sto) :=
  bnd (loopF (fun s_10 => f12_keep_b10 s_10.1 s_10.2) FU (μ_10, l1_10)) fun r_10 =>
    bnd (f12_lines r_10) fun p_6 =>
    bnd (f12_told r_10 p_6) fun p_7 =>
    some (p_7.1, p_7.2)
def f12_keep (μ : Sto) : Option (Int32 × Sto) :=
  stp (uI μ 2017 16 (fI μ 2017 5)) fun μx_3 =>
  stp (0 : Int32) fun x1_4 =>
  f12_keep_j10 μx_3 x1_4
def f12_lays_j34 (a0 : Nat) (l1 : Int32) (a2 : Nat) (μ_34 : Sto) (l3_34 : Int32) (l4_34 : Int32) : Option ((Sto × Int32 × Int32) ⊕ (Sto × Int32)) :=
  stp (l4_34 + (1 : Int32)) fun x4_1 =>
  some (.inl (μ_34, l3_34, x4_1))
def f12_lays_b9 (a0 : Nat) (l1 : Int32) (a2 : Nat) (μ_9 : Sto) (l3_9 : Int32) (l4_9 : Int32) : Option ((Sto × Int32 × Int32) ⊕ (Sto × Int32)) :=
  if l1 ≤ l4_9 then
    some (.inr (μ_9, l3_9))
  else
    gd (inb l4_9 (ln a0)) <|
    if (aI μ_9 a0 (Int32.toNatClampNeg l4_9)) = (10 : Int32) then
      gd (inb l3_9 (ln a2)) <|
      stp (uA μ_9 a2 (Int32.toNatClampNeg l3_9) (l4_9 + (1 : Int32))) fun μx_3 =>
      stp (l3_9 + (1 : Int32)) fun x3_4 =>
      f12_lays_j34 a0 l1 a2 μx_3 x3_4 l4_9
    else
      f12_lays_j34 a0 l1 a2 μ_9 l3_9 l4_9
def f12_lays_j9 (a0 : Nat) (l1 : Int32) (a2 : Nat) (μ_9 : Sto) (l3_9 : Int32) (l4_9 : Int32) : Option (Int32 × Sto) :=
  bnd (loopF (fun s_9 => f12_lays_b9 a0 l1 a2 s_9.1 s_9.2.1 s_9.2.2) FU (μ_9, l3_9, l4_9)) fun r_9 =>
    gd (inb r_9.2 (ln a2)) <|
    stp (uA r_9.1 a2 (Int32.toNatClampNeg r_9.2) (l1 + (1 : Int32))) fun μx_5 =>
    some (r_9.2, μx_5)
def f12_lays (μ : Sto) (a0 : Nat) (l1 : Int32) (a2 : Nat) : Option (Int32 × Sto) :=
  stp (1 : Int32) fun x3_6 =>
  gd (inb (0 : Int32) (ln a2)) <|
  stp (uA μ a2 (Int32.toNatClampNeg (0 : Int32)) (0 : Int32)) fun μx_7 =>
  stp (0 : Int32) fun x4_8 =>
  f12_lays_j9 a0 l1 a2 μx_7 x3_6 x4_8
def f12_areAlike_j102 (l1 : Int32) (l2 : Int32) (μ : Sto) (l4_102 : Int32) : Option (Int32) :=
  gd (isB l4_102) <|
  some l4_102
def f12_areAlike_j94 (l1 : Int32) (l2 : Int32) (μ : Sto) (l3_45 : Int32) (l5_94 : Int32) (s0_94 : Int32) : Option ((Int32 × Int32) ⊕ Int32) :=
  stp s0_94 fun x4_1 =>
  stp (l5_94 + (1 : Int32)) fun x5_2 =>
  some (.inl (x4_1, x5_2))
def f12_areAlike_b45 (l1 : Int32) (l2 : Int32) (μ : Sto) (l3_45 : Int32) (l4_45 : Int32) (l5_45 : Int32) : Option ((Int32 × Int32) ⊕ Int32) :=
  if l3_45 ≤ (l5_45 + (1 : Int32)) then
    some (.inr l4_45)
  else
    if l4_45 = 0 then
      some (.inr l4_45)
    else
      gd (inb l1 302) <|
      gd (inb ((aI μ 2051 (Int32.toNatClampNeg l1)) + l5_45) 3000) <|
      gd (inb l2 302) <|
      gd (inb ((aI μ 2050 (Int32.toNatClampNeg l2)) + l5_45) 3000) <|
      if (aI μ 2018 (Int32.toNatClampNeg ((aI μ 2051 (Int32.toNatClampNeg l1)) + l5_45))) = (aI μ 2026 (Int32.toNatClampNeg ((aI μ 2050 (Int32.toNatClampNeg l2)) + l5_45))) then
        f12_areAlike_j94 l1 l2 μ l3_45 l5_45 (1 : Int32)
      else
        f12_areAlike_j94 l1 l2 μ l3_45 l5_45 (0 : Int32)
def f12_areAlike_j45 (l1 : Int32) (l2 : Int32) (μ : Sto) (l3_45 : Int32) (l4_45 : Int32) (l5_45 : Int32) : Option (Int32) :=
  bnd (loopF (fun s_45 => f12_areAlike_b45 l1 l2 μ l3_45 s_45.1 s_45.2) FU (l4_45, l5_45)) fun r_45 =>
    f12_areAlike_j102 l1 l2 μ r_45
def f12_areAlike_j40 (l1 : Int32) (l2 : Int32) (μ : Sto) (l3_40 : Int32) (s0_40 : Int32) : Option (Int32) :=
  stp s0_40 fun x4_3 =>
  stp (0 : Int32) fun x5_4 =>
  f12_areAlike_j45 l1 l2 μ l3_40 x4_3 x5_4
def f12_areAlike (μ : Sto) (l1 : Int32) (l2 : Int32) : Option (Int32) :=
  gd (inb (l1 + (1 : Int32)) 302) <|
  gd (inb l1 302) <|
  stp ((aI μ 2051 (Int32.toNatClampNeg (l1 + (1 : Int32)))) - (aI μ 2051 (Int32.toNatClampNeg l1))) fun x3_5 =>
  gd (inb (l2 + (1 : Int32)) 302) <|
  gd (inb l2 302) <|
  if x3_5 = ((aI μ 2050 (Int32.toNatClampNeg (l2 + (1 : Int32)))) - (aI μ 2050 (Int32.toNatClampNeg l2))) then
    f12_areAlike_j40 l1 l2 μ x3_5 (1 : Int32)
  else
    f12_areAlike_j40 l1 l2 μ x3_5 (0 : Int32)
def f12_staying_b134 (l1_54 : Int32) (l2_54 : Int32) (μ_134 : Sto) (l3_134 : Int32) (l4_134 : Int32) : Option ((Sto × Int32) ⊕ Sto) :=
  if l2_54 < l4_134 then
    some (.inr μ_134)
  else
    gd (inb l4_134 302) <|
    gd (inb l4_134 302) <|
    stp (uA μ_134 2053 (Int32.toNatClampNeg l4_134) (aI μ_134 2052 (Int32.toNatClampNeg l4_134))) fun μx_2 =>
    stp (l4_134 + (1 : Int32)) fun x4_3 =>
    some (.inl (μx_2, x4_3))
def f12_staying_j134 (l1_54 : Int32) (l2_54 : Int32) (μ_134 : Sto) (l3_134 : Int32) (l4_134 : Int32) : Option ((Sto × Int32) ⊕ Sto) :=
  bnd (loopF (fun s_134 => f12_staying_b134 l1_54 l2_54 s_134.1 l3_134 s_134.2) FU (μ_134, l4_134)) fun r_134 =>
    stp (l3_134 + (1 : Int32)) fun x3_4 =>
    some (.inl (r_134, x3_4))
def f12_staying_j124 (l1_54 : Int32) (l2_54 : Int32) (l3_69 : Int32) (μ_124 : Sto) (l4_124 : Int32) (s1_124 : Int32) (s2_124 : Int32) : Option ((Sto × Int32) ⊕ Sto) :=
  gd (inb s1_124 302) <|
  stp (uA μ_124 2052 (Int32.toNatClampNeg s1_124) s2_124) fun μx_5 =>
  stp (l4_124 + (1 : Int32)) fun x4_6 =>
  some (.inl (μx_5, x4_6))
def f12_staying_b69 (l1_54 : Int32) (l2_54 : Int32) (μ_69 : Sto) (l3_69 : Int32) (l4_69 : Int32) : Option ((Sto × Int32) ⊕ Sto) :=
  if l2_54 ≤ l4_69 then
    some (.inr μ_69)
  else
    bnd (f12_areAlike μ_69 l3_69 l4_69) fun p_6 =>
    if p_6 = 0 then
      gd (inb (l4_69 + (1 : Int32)) 302) <|
      gd (inb l4_69 302) <|
      bnd (f12_more (aI μ_69 2053 (Int32.toNatClampNeg (l4_69 + (1 : Int32)))) (aI μ_69 2052 (Int32.toNatClampNeg l4_69))) fun p_10 =>
      f12_staying_j124 l1_54 l2_54 l3_69 μ_69 l4_69 (l4_69 + (1 : Int32)) p_10
    else
      gd (inb l4_69 302) <|
      f12_staying_j124 l1_54 l2_54 l3_69 μ_69 l4_69 (l4_69 + (1 : Int32)) ((aI μ_69 2053 (Int32.toNatClampNeg l4_69)) + (1 : Int32))
def f12_staying_j69 (l1_54 : Int32) (l2_54 : Int32) (μ_69 : Sto) (l3_69 : Int32) (l4_69 : Int32) : Option ((Sto × Int32) ⊕ Sto) :=
  bnd (loopF (fun s_69 => f12_staying_b69 l1_54 l2_54 s_69.1 l3_69 s_69.2) FU (μ_69, l4_69)) fun r_69 =>
    stp (0 : Int32) fun x4_8 =>
    f12_staying_j134 l1_54 l2_54 r_69 l3_69 x4_8
def f12_staying_b54 (μ_54 : Sto) (l1_54 : Int32) (l2_54 : Int32) (l3_54 : Int32) : Option ((Sto × Int32) ⊕ Sto) :=
  if l1_54 ≤ l3_54 then
    some (.inr μ_54)
  else
    gd (inb (0 : Int32) 302) <|
    stp (uA μ_54 2052 (Int32.toNatClampNeg (0 : Int32)) (0 : Int32)) fun μx_9 =>
    stp (0 : Int32) fun x4_10 =>
    f12_staying_j69 l1_54 l2_54 μx_9 l3_54 x4_10
def f12_staying_j54 (μ_54 : Sto) (l1_54 : Int32) (l2_54 : Int32) (l3_54 : Int32) : Option (Int32 × Sto) :=
  bnd (loopF (fun s_54 => f12_staying_b54 s_54.1 l1_54 l2_54 s_54.2) FU (μ_54, l3_54)) fun r_54 =>
    gd (inb l2_54 302) <|
    some (aI r_54 2053 (Int32.toNatClampNeg l2_54), r_54)
def f12_staying_b34 (μ_34 : Sto) (l1_34 : Int32) (l2_34 : Int32) (l3_34 : Int32) : Option ((Sto × Int32) ⊕ Sto) :=
  if l2_34 < l3_34 then
    some (.inr μ_34)
  else
    gd (inb l3_34 302) <|
    stp (uA μ_34 2053 (Int32.toNatClampNeg l3_34) (0 : Int32)) fun μx_12 =>
    stp (l3_34 + (1 : Int32)) fun x3_13 =>
    some (.inl (μx_12, x3_13))
def f12_staying_j34 (μ_34 : Sto) (l1_34 : Int32) (l2_34 : Int32) (l3_34 : Int32) : Option (Int32 × Sto) :=
  bnd (loopF (fun s_34 => f12_staying_b34 s_34.1 l1_34 l2_34 s_34.2) FU (μ_34, l3_34)) fun r_34 =>
    stp (0 : Int32) fun x3_14 =>
    f12_staying_j54 r_34 l1_34 l2_34 x3_14
def f12_staying (μ : Sto) : Option (Int32 × Sto) :=
  bnd (f12_lays μ 2018 (fI μ 2017 5) 2051) fun p_18 =>
  stp p_18.1 fun x1_15 =>
  bnd (f12_lays p_18.2 2026 (fI p_18.2 2017 16) 2050) fun p_19 =>
  stp p_19.1 fun x2_16 =>
  stp (0 : Int32) fun x3_17 =>
  f12_staying_j34 p_19.2 x1_15 x2_16 x3_17
def f12_keptLines_j29 (μ : Sto) (l2_29 : Int32) (s0_29 : Int32) (s1_29 : Int32) : Option ((Int32 × Int32) ⊕ Int32) :=
  stp (s0_29 + s1_29) fun x1_1 =>
  stp (l2_29 + (1 : Int32)) fun x2_2 =>
  some (.inl (x1_1, x2_2))
def f12_keptLines_b4 (μ : Sto) (l1_4 : Int32) (l2_4 : Int32) : Option ((Int32 × Int32) ⊕ Int32) :=
  if (fI μ 2017 16) ≤ l2_4 then
    some (.inr l1_4)
  else
    gd (inb l2_4 3000) <|
    if (aI μ 2026 (Int32.toNatClampNeg l2_4)) = (10 : Int32) then
      f12_keptLines_j29 μ l2_4 l1_4 (1 : Int32)
    else
      f12_keptLines_j29 μ l2_4 l1_4 (0 : Int32)
def f12_keptLines_j4 (μ : Sto) (l1_4 : Int32) (l2_4 : Int32) : Option (Int32) :=
  bnd (loopF (fun s_4 => f12_keptLines_b4 μ s_4.1 s_4.2) FU (l1_4, l2_4)) fun r_4 =>
    some r_4
def f12_keptLines (μ : Sto) : Option (Int32) :=
  stp (1 : Int32) fun x1_3 =>
  stp (0 : Int32) fun x2_4 =>
  f12_keptLines_j4 μ x1_3 x2_4
def f12_differences (μ : Sto) : Option (Int32 × Sto) :=
  bnd (f12_lines μ) fun p_1 =>
  bnd (f12_keptLines μ) fun p_2 =>
  bnd (f12_staying μ) fun p_3 =>
  bnd (f12_told p_3.2 ((p_1 + p_2) - ((2 : Int32) * p_3.1))) fun p_4 =>
  some (p_4.1, p_4.2)
def f12_sameShare (μ : Sto) : Option (UInt32 × Sto) :=
  stp (uI μ 2017 18 (0 : Int32)) fun μx_1 =>
  bnd (f12_staying μx_1) fun p_1 =>
  bnd (f12_lines p_1.2) fun p_2 =>
  gd (nf32 (FP.fdiv (FP.i2f p_1.1) (FP.i2f p_2))) <|
  some (FP.fdiv (FP.i2f p_1.1) (FP.i2f p_2), p_1.2)
def f12_isState_j235 (l1 : Int32) (μ : Sto) (l2_235 : Int32) : Option (Int32) :=
  gd (isB l2_235) <|
  some l2_235
def f12_isState_j228 (l1 : Int32) (μ : Sto) (l3_228 : Int32) (s0_228 : Int32) : Option ((Int32 × Int32) ⊕ Int32) :=
  stp s0_228 fun x2_1 =>
  stp (l3_228 + (1 : Int32)) fun x3_2 =>
  some (.inl (x2_1, x3_2))
def f12_isState_b191 (l1 : Int32) (μ : Sto) (l2_191 : Int32) (l3_191 : Int32) : Option ((Int32 × Int32) ⊕ Int32) :=
  if (300 : Int32) ≤ l3_191 then
    some (.inr l2_191)
  else
    if l2_191 = 0 then
      some (.inr l2_191)
    else
      gd (inb (((300 : Int32) * l1) + l3_191) 90601) <|
      gd (inb l3_191 301) <|
      if (aI μ 2042 (Int32.toNatClampNeg (((300 : Int32) * l1) + l3_191))) = (aI μ 2022 (Int32.toNatClampNeg l3_191)) then
        f12_isState_j228 l1 μ l3_191 (1 : Int32)
      else
        f12_isState_j228 l1 μ l3_191 (0 : Int32)
def f12_isState_j191 (l1 : Int32) (μ : Sto) (l2_191 : Int32) (l3_191 : Int32) : Option (Int32) :=
  bnd (loopF (fun s_191 => f12_isState_b191 l1 μ s_191.1 s_191.2) FU (l2_191, l3_191)) fun r_191 =>
    f12_isState_j235 l1 μ r_191
def f12_isState_j189 (l1 : Int32) (μ : Sto) (l2_189 : Int32) : Option (Int32) :=
  stp (0 : Int32) fun x3_3 =>
  f12_isState_j191 l1 μ l2_189 x3_3
def f12_isState_j182 (l1 : Int32) (μ : Sto) (l3_182 : Int32) (s0_182 : Int32) : Option ((Int32 × Int32) ⊕ Int32) :=
  stp s0_182 fun x2_4 =>
  stp (l3_182 + (1 : Int32)) fun x3_5 =>
  some (.inl (x2_4, x3_5))
def f12_isState_j181 (l1 : Int32) (μ : Sto) (l3_181 : Int32) : Option ((Int32 × Int32) ⊕ Int32) :=
  f12_isState_j182 l1 μ l3_181 (0 : Int32)
def f12_isState_b127 (l1 : Int32) (μ : Sto) (l2_127 : Int32) (l3_127 : Int32) : Option ((Int32 × Int32) ⊕ Int32) :=
  if (16 : Int32) ≤ l3_127 then
    some (.inr l2_127)
  else
    if l2_127 = 0 then
      some (.inr l2_127)
    else
      gd (inb (((16 : Int32) * l1) + l3_127) 4816) <|
      gd (inb l3_127 16) <|
      if (aI μ 2040 (Int32.toNatClampNeg (((16 : Int32) * l1) + l3_127))) = (aI μ 2020 (Int32.toNatClampNeg l3_127)) then
        gd (inb (((16 : Int32) * l1) + l3_127) 4816) <|
        gd (inb l3_127 16) <|
        if (aI μ 2041 (Int32.toNatClampNeg (((16 : Int32) * l1) + l3_127))) = (aI μ 2021 (Int32.toNatClampNeg l3_127)) then
          f12_isState_j182 l1 μ l3_127 (1 : Int32)
        else
          f12_isState_j181 l1 μ l3_127
      else
        f12_isState_j181 l1 μ l3_127
def f12_isState_j127 (l1 : Int32) (μ : Sto) (l2_127 : Int32) (l3_127 : Int32) : Option (Int32) :=
  bnd (loopF (fun s_127 => f12_isState_b127 l1 μ s_127.1 s_127.2) FU (l2_127, l3_127)) fun r_127 =>
    f12_isState_j189 l1 μ r_127
def f12_isState_j125 (l1 : Int32) (μ : Sto) (l2_125 : Int32) : Option (Int32) :=
  stp (0 : Int32) fun x3_6 =>
  f12_isState_j127 l1 μ l2_125 x3_6
def f12_isState_j118 (l1 : Int32) (μ : Sto) (l3_118 : Int32) (s0_118 : Int32) : Option ((Int32 × Int32) ⊕ Int32) :=
  stp s0_118 fun x2_7 =>
  stp (l3_118 + (1 : Int32)) fun x3_8 =>
  some (.inl (x2_7, x3_8))
def f12_isState_b81 (l1 : Int32) (μ : Sto) (l2_81 : Int32) (l3_81 : Int32) : Option ((Int32 × Int32) ⊕ Int32) :=
  if (fI μ 2017 6) ≤ l3_81 then
    some (.inr l2_81)
  else
    if l2_81 = 0 then
      some (.inr l2_81)
    else
      gd (inb (((8 : Int32) * l1) + l3_81) 2408) <|
      gd (inb l3_81 8) <|
      if (aI μ 2038 (Int32.toNatClampNeg (((8 : Int32) * l1) + l3_81))) = (aI μ 2019 (Int32.toNatClampNeg l3_81)) then
        f12_isState_j118 l1 μ l3_81 (1 : Int32)
      else
        f12_isState_j118 l1 μ l3_81 (0 : Int32)
def f12_isState_j81 (l1 : Int32) (μ : Sto) (l2_81 : Int32) (l3_81 : Int32) : Option (Int32) :=
  bnd (loopF (fun s_81 => f12_isState_b81 l1 μ s_81.1 s_81.2) FU (l2_81, l3_81)) fun r_81 =>
    f12_isState_j125 l1 μ r_81
def f12_isState_j79 (l1 : Int32) (μ : Sto) (l2_79 : Int32) : Option (Int32) :=
  stp (0 : Int32) fun x3_9 =>
  f12_isState_j81 l1 μ l2_79 x3_9
def f12_isState_j72 (l1 : Int32) (μ : Sto) (l3_72 : Int32) (s0_72 : Int32) : Option ((Int32 × Int32) ⊕ Int32) :=
  stp s0_72 fun x2_10 =>
  stp (l3_72 + (1 : Int32)) fun x3_11 =>
  some (.inl (x2_10, x3_11))
def f12_isState_b34 (l1 : Int32) (μ : Sto) (l2_34 : Int32) (l3_34 : Int32) : Option ((Int32 × Int32) ⊕ Int32) :=
  if (fI μ 2017 5) ≤ l3_34 then
    some (.inr l2_34)
  else
    if l2_34 = 0 then
      some (.inr l2_34)
    else
      gd (inb (((3000 : Int32) * l1) + l3_34) 903000) <|
      gd (inb l3_34 3000) <|
      if (aI μ 2036 (Int32.toNatClampNeg (((3000 : Int32) * l1) + l3_34))) = (aI μ 2018 (Int32.toNatClampNeg l3_34)) then
        f12_isState_j72 l1 μ l3_34 (1 : Int32)
      else
        f12_isState_j72 l1 μ l3_34 (0 : Int32)
def f12_isState_j34 (l1 : Int32) (μ : Sto) (l2_34 : Int32) (l3_34 : Int32) : Option (Int32) :=
  bnd (loopF (fun s_34 => f12_isState_b34 l1 μ s_34.1 s_34.2) FU (l2_34, l3_34)) fun r_34 =>
    f12_isState_j79 l1 μ r_34
def f12_isState_j31 (l1 : Int32) (μ : Sto) (s0_31 : Int32) : Option (Int32) :=
  stp s0_31 fun x2_12 =>
  stp (0 : Int32) fun x3_13 =>
  f12_isState_j34 l1 μ x2_12 x3_13
def f12_isState_j30 (l1 : Int32) (μ : Sto) : Option (Int32) :=
  f12_isState_j31 l1 μ (0 : Int32)
def f12_isState (μ : Sto) (l1 : Int32) : Option (Int32) :=
  gd (inb l1 301) <|
  if (aI μ 2037 (Int32.toNatClampNeg l1)) = (fI μ 2017 5) then
    gd (inb l1 301) <|
    if (aI μ 2039 (Int32.toNatClampNeg l1)) = (fI μ 2017 6) then
      f12_isState_j31 l1 μ (1 : Int32)
    else
      f12_isState_j30 l1 μ
  else
    f12_isState_j30 l1 μ
def f12_errors_j131 (μ_131 : Sto) (s1_131 : Int32) (s2_131 : Int32) : Option (Int32 × Sto) :=
  bnd (f12_told μ_131 (s1_131 + s2_131)) fun p_1 =>
  some (p_1.1, p_1.2)
def f12_errors_b95 (μ_95 : Sto) (l1_95 : Int32) (l3_95 : Int32) (l4_95 : Int32) : Option ((Sto × Int32) ⊕ Sto) :=
  if l3_95 ≤ l4_95 then
    some (.inr μ_95)
  else
    bnd (f12_redo μ_95 (1 : Int32)) fun p_5 =>
    stp p_5.1 fun x5_1 =>
    stp (l4_95 + (1 : Int32)) fun x4_2 =>
    some (.inl (p_5.2, x4_2))
def f12_errors_j95 (μ_95 : Sto) (l1_95 : Int32) (l3_95 : Int32) (l4_95 : Int32) : Option (Int32 × Sto) :=
  bnd (loopF (fun s_95 => f12_errors_b95 s_95.1 l1_95 l3_95 s_95.2) FU (μ_95, l4_95)) fun r_95 =>
    bnd (f12_isState r_95 (300 : Int32)) fun p_6 =>
    if p_6 = 0 then
      f12_errors_j131 r_95 l1_95 (1 : Int32)
    else
      f12_errors_j131 r_95 l1_95 (0 : Int32)
def f12_errors_b73 (μ_73 : Sto) (l1_73 : Int32) (l3_73 : Int32) (l4_73 : Int32) : Option ((Sto × Int32) ⊕ Sto) :=
  if l3_73 ≤ l4_73 then
    some (.inr μ_73)
  else
    bnd (f12_undo μ_73 (1 : Int32)) fun p_9 =>
    stp p_9.1 fun x5_4 =>
    stp (l4_73 + (1 : Int32)) fun x4_5 =>
    some (.inl (p_9.2, x4_5))
def f12_errors_j73 (μ_73 : Sto) (l1_73 : Int32) (l3_73 : Int32) (l4_73 : Int32) : Option (Int32 × Sto) :=
  bnd (loopF (fun s_73 => f12_errors_b73 s_73.1 l1_73 l3_73 s_73.2) FU (μ_73, l4_73)) fun r_73 =>
    stp (0 : Int32) fun x4_6 =>
    f12_errors_j95 r_73 l1_73 l3_73 x4_6
def f12_errors_j57 (μ_20 : Sto) (l2_20 : Int32) (l3_57 : Int32) (s0_57 : Int32) (s1_57 : Int32) : Option ((Int32 × Int32) ⊕ Int32) :=
  stp (s0_57 + s1_57) fun x1_7 =>
  stp (l3_57 + (1 : Int32)) fun x3_8 =>
  some (.inl (x1_7, x3_8))
def f12_errors_j52 (μ_20 : Sto) (l2_20 : Int32) (l3_52 : Int32) (s0_52 : Int32) : Option ((Int32 × Int32) ⊕ Int32) :=
  f12_errors_j57 μ_20 l2_20 l3_52 s0_52 (0 : Int32)
def f12_errors_b20 (μ_20 : Sto) (l1_20 : Int32) (l2_20 : Int32) (l3_20 : Int32) : Option ((Int32 × Int32) ⊕ Int32) :=
  if l2_20 ≤ l3_20 then
    some (.inr l1_20)
  else
    bnd (f12_beginOf μ_20 l3_20) fun p_12 =>
    stp p_12 fun x4_11 =>
    if x4_11 = 0 then
      f12_errors_j52 μ_20 l2_20 l3_20 l1_20
    else
      gd (inb (x4_11 - (1 : Int32)) 3000) <|
      if (aI μ_20 2018 (Int32.toNatClampNeg (x4_11 - (1 : Int32)))) = (10 : Int32) then
        f12_errors_j52 μ_20 l2_20 l3_20 l1_20
      else
        f12_errors_j57 μ_20 l2_20 l3_20 l1_20 (1 : Int32)
def f12_errors_j20 (μ_20 : Sto) (l1_20 : Int32) (l2_20 : Int32) (l3_20 : Int32) : Option (Int32 × Sto) :=
  bnd (loopF (fun s_20 => f12_errors_b20 μ_20 s_20.1 l2_20 s_20.2) FU (l1_20, l3_20)) fun r_20 =>
    bnd (f12_depth μ_20) fun p_16 =>
    stp p_16 fun x3_12 =>
    stp (0 : Int32) fun x4_13 =>
    f12_errors_j73 μ_20 r_20 x3_12 x4_13
def f12_errors (μ : Sto) : Option (Int32 × Sto) :=
  bnd (f12_closes μ) fun p_17 =>
  bnd (f12_keeps p_17 (300 : Int32)) fun p_18 =>
  stp (0 : Int32) fun x1_14 =>
  bnd (f12_lines p_18) fun p_19 =>
  stp p_19 fun x2_15 =>
  stp (0 : Int32) fun x3_16 =>
  f12_errors_j20 p_18 x1_14 x2_15 x3_16
