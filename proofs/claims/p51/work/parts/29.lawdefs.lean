/-! the law's methods as functions -/
def fL_next (τ : LawS) : Option (Int32 × LawS) :=
  gd (inb (0 : Int32) 1) <|
  gd (inb (0 : Int32) 1) <|
  stp (uT τ 0 (Int32.toNatClampNeg (0 : Int32)) (((τ.1 0 (Int32.toNatClampNeg (0 : Int32))) * (1103515245 : Int32)) + (12345 : Int32))) fun τx_1 =>
  gd (inb (0 : Int32) 1) <|
  gd (inb (0 : Int32) 1) <|
  gd (inb (0 : Int32) 1) <|
  stp (uT τx_1 0 (Int32.toNatClampNeg (0 : Int32)) ((τx_1.1 0 (Int32.toNatClampNeg (0 : Int32))) ^^^ (UInt32.toInt32 (Int32.toUInt32 (τx_1.1 0 (Int32.toNatClampNeg (0 : Int32))) >>> (Int32.toUInt32 (15 : Int32) &&& Int32.toUInt32 31))))) fun τx_2 =>
  gd (inb (0 : Int32) 1) <|
  some (UInt32.toInt32 (Int32.toUInt32 (τx_2.1 0 (Int32.toNatClampNeg (0 : Int32))) >>> (Int32.toUInt32 (9 : Int32) &&& Int32.toUInt32 31)), τx_2)
def fL_from (τ : LawS) (l1 : Int32) (l2 : Int32) : Option (Int32 × LawS) :=
  bnd (fL_next τ) fun p_1 =>
  gd (nz ((l2 - l1) + (1 : Int32))) <|
  some (l1 + (p_1.1 - p_1.1 / ((l2 - l1) + (1 : Int32)) * ((l2 - l1) + (1 : Int32))), p_1.2)
def fL_one_j9 (l0 : Int32) (s0_9 : Int32) : Option (Int32) :=
  some s0_9
def fL_one (l0 : Int32) : Option (Int32) :=
  if l0 = 0 then
    fL_one_j9 l0 (0 : Int32)
  else
    fL_one_j9 l0 (1 : Int32)
def fL_done_j313 (l1 : Int32) (l2 : Int32) (l3 : Int32) (l4 : Int32) (τ_313 : LawS) (s2_313 : Int32) : Option (Int32 × LawS) :=
  hdl τ_313.1 (f11_find τ_313.2 l2 s2_313) fun p_1 =>
  some (p_1.1, (τ_313.1, p_1.2))
def fL_done_j297 (l1 : Int32) (l2 : Int32) (l3 : Int32) (l4 : Int32) (τ_297 : LawS) (s1_297 : Int32) : Option (Int32 × LawS) :=
  hdl τ_297.1 (f11_setPattern τ_297.2 s1_297) fun p_2 =>
  some (p_2.1, (τ_297.1, p_2.2))
def fL_done_j256 (l1 : Int32) (l2 : Int32) (l3 : Int32) (l4 : Int32) (τ_256 : LawS) (s3_256 : Int32) : Option (Int32 × LawS) :=
  hdl τ_256.1 (f11_setMark τ_256.2 l2 l3 s3_256) fun p_3 =>
  some (p_3.1, (τ_256.1, p_3.2))
def fL_done_j216 (l1 : Int32) (l2 : Int32) (l3 : Int32) (l4 : Int32) (τ_216 : LawS) (s1_216 : Int32) : Option (Int32 × LawS) :=
  bnd (f11_group τ_216.2 s1_216) fun p_4 =>
  bnd (fL_one p_4.1) fun p_5 =>
  some (p_5, (τ_216.1, p_4.2))
def fL_done (τ : LawS) (l1 : Int32) (l2 : Int32) (l3 : Int32) (l4 : Int32) : Option (Int32 × LawS) :=
  if Int32.toInt l1 = 0 then
    hdl τ.1 (f11_type τ.2) fun p_7 =>
    some (p_7.1, (τ.1, p_7.2))
  else if Int32.toInt l1 = 1 then
    hdl τ.1 (f11_erase τ.2 l2) fun p_9 =>
    some (p_9.1, (τ.1, p_9.2))
  else if Int32.toInt l1 = 2 then
    hdl τ.1 (f11_replace τ.2 l2 l3) fun p_11 =>
    some (p_11.1, (τ.1, p_11.2))
  else if Int32.toInt l1 = 3 then
    hdl τ.1 (f11_cut τ.2 l2 l3) fun p_13 =>
    some (p_13.1, (τ.1, p_13.2))
  else if Int32.toInt l1 = 4 then
    hdl τ.1 (f11_paste τ.2) fun p_15 =>
    some (p_15.1, (τ.1, p_15.2))
  else if Int32.toInt l1 = 5 then
    hdl τ.1 (f11_indent τ.2 l2 l3 l4) fun p_17 =>
    some (p_17.1, (τ.1, p_17.2))
  else if Int32.toInt l1 = 6 then
    hdl τ.1 (f11_wrap τ.2 l2 l3) fun p_19 =>
    some (p_19.1, (τ.1, p_19.2))
  else if Int32.toInt l1 = 7 then
    hdl τ.1 (f11_joinLines τ.2 l2 l3) fun p_21 =>
    some (p_21.1, (τ.1, p_21.2))
  else if Int32.toInt l1 = 8 then
    hdl τ.1 (f11_replaceNext τ.2) fun p_23 =>
    some (p_23.1, (τ.1, p_23.2))
  else if Int32.toInt l1 = 9 then
    hdl τ.1 (f11_replaceAll τ.2) fun p_25 =>
    some (p_25.1, (τ.1, p_25.2))
  else if Int32.toInt l1 = 10 then
    hdl τ.1 (f11_undo τ.2 l2) fun p_27 =>
    some (p_27.1, (τ.1, p_27.2))
  else if Int32.toInt l1 = 11 then
    hdl τ.1 (f11_redo τ.2 l2) fun p_29 =>
    some (p_29.1, (τ.1, p_29.2))
  else if Int32.toInt l1 = 12 then
    hdl τ.1 (f11_branch τ.2 l2) fun p_31 =>
    some (p_31.1, (τ.1, p_31.2))
  else if Int32.toInt l1 = 13 then
    if l2 = (1 : Int32) then
      fL_done_j216 l1 l2 l3 l4 τ (1 : Int32)
    else
      fL_done_j216 l1 l2 l3 l4 τ (0 : Int32)
  else if Int32.toInt l1 = 14 then
    hdl τ.1 (f11_setCursor τ.2 l2) fun p_35 =>
    some (p_35.1, (τ.1, p_35.2))
  else if Int32.toInt l1 = 15 then
    hdl τ.1 (f11_addCursor τ.2 l2) fun p_37 =>
    some (p_37.1, (τ.1, p_37.2))
  else if Int32.toInt l1 = 16 then
    hdl τ.1 (f11_moveCursors τ.2 l2 l3) fun p_39 =>
    some (p_39.1, (τ.1, p_39.2))
  else if Int32.toInt l1 = 17 then
    if l4 = (1 : Int32) then
      fL_done_j256 l1 l2 l3 l4 τ (1 : Int32)
    else
      fL_done_j256 l1 l2 l3 l4 τ (0 : Int32)
  else if Int32.toInt l1 = 18 then
    hdl τ.1 (f11_dropMark τ.2 l2) fun p_43 =>
    some (p_43.1, (τ.1, p_43.2))
  else if Int32.toInt l1 = 19 then
    hdl τ.1 (f11_fold τ.2 l2 l3) fun p_45 =>
    some (p_45.1, (τ.1, p_45.2))
  else if Int32.toInt l1 = 20 then
    hdl τ.1 (f11_unfold τ.2 l2) fun p_47 =>
    some (p_47.1, (τ.1, p_47.2))
  else if Int32.toInt l1 = 21 then
    hdl τ.1 (f11_copy τ.2 l2 l3) fun p_49 =>
    some (p_49.1, (τ.1, p_49.2))
  else if Int32.toInt l1 = 22 then
    if l2 = (1 : Int32) then
      fL_done_j297 l1 l2 l3 l4 τ (1 : Int32)
    else
      fL_done_j297 l1 l2 l3 l4 τ (0 : Int32)
  else if Int32.toInt l1 = 23 then
    if l3 = (1 : Int32) then
      fL_done_j313 l1 l2 l3 l4 τ (1 : Int32)
    else
      fL_done_j313 l1 l2 l3 l4 τ (0 : Int32)
  else if Int32.toInt l1 = 24 then
    hdl τ.1 (f11_play τ.2 l2) fun p_55 =>
    some (p_55.1, (τ.1, p_55.2))
  else if Int32.toInt l1 = 25 then
    hdl τ.1 (f11_copyBlock τ.2 l2 l3 l4 ((1 : Int32) + (l4 - l4 / (5 : Int32) * (5 : Int32)))) fun p_57 =>
    some (p_57.1, (τ.1, p_57.2))
  else if Int32.toInt l1 = 26 then
    hdl τ.1 (f11_letterAt τ.2 l2) fun p_59 =>
    some (p_59.1, (τ.1, p_59.2))
  else
    hdl τ.1 (f11_lineOf τ.2 l2) fun p_60 =>
    some (p_60.1, (τ.1, p_60.2))
def fL_feeds_j90 (a1 : Nat) (l2 : Int32) (τ_90 : LawS) (s0_90 : Int32) : Option (Int32 × LawS) :=
  gd (isB s0_90) <|
  some (s0_90, τ_90)
def fL_feeds_j89 (a1 : Nat) (l2 : Int32) (τ_89 : LawS) : Option (Int32 × LawS) :=
  fL_feeds_j90 a1 l2 τ_89 (0 : Int32)
def fL_feeds_j58 (a1 : Nat) (l2 : Int32) (τ_58 : LawS) (l4_58 : Int32) (l5_58 : Int64) : Option ((LawS × Int32 × Int32) ⊕ (LawS × Int32)) :=
  bnd (nox (f11_feed τ_58.2 l5_58)) fun p_2 =>
  stp p_2.1 fun x3_1 =>
  stp (l4_58 + (8 : Int32)) fun x4_2 =>
  some (.inl ((τ_58.1, p_2.2), x3_1, x4_2))
def fL_feeds_b23 (a1 : Nat) (l2 : Int32) (τ_23 : LawS) (l4_23 : Int32) (l5_23 : Int64) (l7_23 : Int32) : Option ((Int64 × Int32) ⊕ Int64) :=
  if (l4_23 + (8 : Int32)) ≤ l7_23 then
    some (.inr l5_23)
  else
    if l2 ≤ l7_23 then
      some (.inr l5_23)
    else
      gd (inb l7_23 (lq a1)) <|
      stp ((l5_23 <<< (Int32.toInt64 (8 : Int32) &&& 63)) ||| (Int32.toInt64 (τ_23.1 a1 (Int32.toNatClampNeg l7_23)))) fun x5_3 =>
      stp (l7_23 + (1 : Int32)) fun x7_4 =>
      some (.inl (x5_3, x7_4))
def fL_feeds_j23 (a1 : Nat) (l2 : Int32) (τ_23 : LawS) (l4_23 : Int32) (l5_23 : Int64) (l7_23 : Int32) : Option ((LawS × Int32 × Int32) ⊕ (LawS × Int32)) :=
  bnd (loopF (fun s_23 => fL_feeds_b23 a1 l2 τ_23 l4_23 s_23.1 s_23.2) FU (l5_23, l7_23)) fun r_23 =>
    fL_feeds_j58 a1 l2 τ_23 l4_23 r_23
def fL_feeds_b10 (a1 : Nat) (l2 : Int32) (τ_10 : LawS) (l3_10 : Int32) (l4_10 : Int32) : Option ((LawS × Int32 × Int32) ⊕ (LawS × Int32)) :=
  if l2 ≤ l4_10 then
    some (.inr (τ_10, l3_10))
  else
    stp (0 : Int64) fun x5_5 =>
    stp l4_10 fun x7_6 =>
    fL_feeds_j23 a1 l2 τ_10 l4_10 x5_5 x7_6
def fL_feeds_j10 (a1 : Nat) (l2 : Int32) (τ_10 : LawS) (l3_10 : Int32) (l4_10 : Int32) : Option (Int32 × LawS) :=
  bnd (loopF (fun s_10 => fL_feeds_b10 a1 l2 s_10.1 s_10.2.1 s_10.2.2) FU (τ_10, l3_10, l4_10)) fun r_10 =>
    if r_10.2 = l2 then
      bnd (nox (f11_count r_10.1.2 (5 : Int32))) fun p_11 =>
      if p_11.1 = l2 then
        fL_feeds_j90 a1 l2 (r_10.1.1, p_11.2) (1 : Int32)
      else
        fL_feeds_j89 a1 l2 (r_10.1.1, p_11.2)
    else
      fL_feeds_j89 a1 l2 r_10.1
def fL_feeds (τ : LawS) (a1 : Nat) (l2 : Int32) : Option (Int32 × LawS) :=
  bnd (f11_clearTape τ.2) fun p_13 =>
  stp p_13.1 fun x3_7 =>
  stp (0 : Int32) fun x3_8 =>
  stp (0 : Int32) fun x4_9 =>
  fL_feeds_j10 a1 l2 (τ.1, p_13.2) x3_8 x4_9
def fL_draws_j115 (l2_28 : Int32) (τ_115 : LawS) (l3_115 : Int32) (s1_115 : Int32) (s2_115 : Int32) : Option ((LawS × Int32) ⊕ LawS) :=
  gd (inb s1_115 40) <|
  stp (uT τ_115 43 (Int32.toNatClampNeg s1_115) s2_115) fun τx_1 =>
  stp (l3_115 + (1 : Int32)) fun x3_2 =>
  some (.inl (τx_1, x3_2))
def fL_draws_b28 (τ_28 : LawS) (l2_28 : Int32) (l3_28 : Int32) : Option ((LawS × Int32) ⊕ LawS) :=
  if l2_28 ≤ l3_28 then
    some (.inr τ_28)
  else
    bnd (fL_next τ_28) fun p_3 =>
    stp (p_3.1 - p_3.1 / (11 : Int32) * (11 : Int32)) fun x4_3 =>
    if (4 : Int32) ≤ x4_3 then
      if (6 : Int32) ≤ x4_3 then
        if x4_3 = (6 : Int32) then
          fL_draws_j115 l2_28 p_3.2 l3_28 l3_28 (10 : Int32)
        else
          if x4_3 = (7 : Int32) then
            fL_draws_j115 l2_28 p_3.2 l3_28 l3_28 (9 : Int32)
          else
            if x4_3 = (8 : Int32) then
              fL_draws_j115 l2_28 p_3.2 l3_28 l3_28 (45 : Int32)
            else
              fL_draws_j115 l2_28 p_3.2 l3_28 l3_28 ((97 : Int32) + (x4_3 - x4_3 / (3 : Int32) * (3 : Int32)))
      else
        fL_draws_j115 l2_28 p_3.2 l3_28 l3_28 (32 : Int32)
    else
      fL_draws_j115 l2_28 p_3.2 l3_28 l3_28 ((97 : Int32) + (x4_3 - x4_3 / (2 : Int32) * (2 : Int32)))
def fL_draws_j28 (τ_28 : LawS) (l2_28 : Int32) (l3_28 : Int32) : Option (Int32 × LawS) :=
  bnd (loopF (fun s_28 => fL_draws_b28 s_28.1 l2_28 s_28.2) FU (τ_28, l3_28)) fun r_28 =>
    some (l2_28, r_28)
def fL_draws_j25 (τ_25 : LawS) (s0_25 : Int32) : Option (Int32 × LawS) :=
  stp s0_25 fun x2_4 =>
  stp (0 : Int32) fun x3_5 =>
  fL_draws_j28 τ_25 x2_4 x3_5
def fL_draws (τ : LawS) : Option (Int32 × LawS) :=
  bnd (fL_next τ) fun p_9 =>
  if (p_9.1 - p_9.1 / (4 : Int32) * (4 : Int32)) = 0 then
    bnd (fL_next p_9.2) fun p_12 =>
    fL_draws_j25 p_12.2 (p_12.1 - p_12.1 / (3 : Int32) * (3 : Int32))
  else
    bnd (fL_from p_9.2 (1 : Int32) (12 : Int32)) fun p_11 =>
    fL_draws_j25 p_11.2 p_11.1
def fL_sees_b113 (a1 : Nat) (τ_113 : LawS) (l2_113 : Int32) (l4_113 : Int32) : Option ((LawS × Int32) ⊕ LawS) :=
  if l2_113 ≤ l4_113 then
    some (.inr τ_113)
  else
    bnd (nox (f11_letterAt τ_113.2 l4_113)) fun p_2 =>
    gd (inb ((400 : Int32) + l4_113) (lq a1)) <|
    stp (uT (τ_113.1, p_2.2) a1 (Int32.toNatClampNeg ((400 : Int32) + l4_113)) p_2.1) fun τx_1 =>
    stp (l4_113 + (1 : Int32)) fun x4_2 =>
    some (.inl (τx_1, x4_2))
def fL_sees_j113 (a1 : Nat) (τ_113 : LawS) (l2_113 : Int32) (l4_113 : Int32) : Option (LawS) :=
  bnd (loopF (fun s_113 => fL_sees_b113 a1 s_113.1 l2_113 s_113.2) FU (τ_113, l4_113)) fun r_113 =>
    some r_113
def fL_sees_b82 (a1 : Nat) (τ_82 : LawS) (l2_82 : Int32) (l3_82 : Int32) (l4_82 : Int32) : Option ((LawS × Int32) ⊕ LawS) :=
  if l3_82 ≤ l4_82 then
    some (.inr τ_82)
  else
    bnd (nox (f11_isHidden τ_82.2 l4_82)) fun p_5 =>
    bnd (fL_one p_5.1) fun p_6 =>
    gd (inb ((30 : Int32) + l4_82) (lq a1)) <|
    stp (uT (τ_82.1, p_5.2) a1 (Int32.toNatClampNeg ((30 : Int32) + l4_82)) p_6) fun τx_4 =>
    stp (l4_82 + (1 : Int32)) fun x4_5 =>
    some (.inl (τx_4, x4_5))
def fL_sees_j82 (a1 : Nat) (τ_82 : LawS) (l2_82 : Int32) (l3_82 : Int32) (l4_82 : Int32) : Option (LawS) :=
  bnd (loopF (fun s_82 => fL_sees_b82 a1 s_82.1 l2_82 l3_82 s_82.2) FU (τ_82, l4_82)) fun r_82 =>
    stp (0 : Int32) fun x4_6 =>
    fL_sees_j113 a1 r_82 l2_82 x4_6
def fL_sees_b45 (a1 : Nat) (τ_45 : LawS) (l2_45 : Int32) (l3_45 : Int32) : Option ((LawS × Int32) ⊕ LawS) :=
  if (16 : Int32) ≤ l3_45 then
    some (.inr τ_45)
  else
    bnd (nox (f11_markAt τ_45.2 l3_45)) fun p_11 =>
    gd (inb ((10 : Int32) + l3_45) (lq a1)) <|
    stp (uT (τ_45.1, p_11.2) a1 (Int32.toNatClampNeg ((10 : Int32) + l3_45)) p_11.1) fun τx_10 =>
    stp (l3_45 + (1 : Int32)) fun x3_11 =>
    some (.inl (τx_10, x3_11))
def fL_sees_j45 (a1 : Nat) (τ_45 : LawS) (l2_45 : Int32) (l3_45 : Int32) : Option (LawS) :=
  bnd (loopF (fun s_45 => fL_sees_b45 a1 s_45.1 l2_45 s_45.2) FU (τ_45, l3_45)) fun r_45 =>
    bnd (nox (f11_count r_45.2 (1 : Int32))) fun p_13 =>
    stp p_13.1 fun x3_12 =>
    gd (inb (26 : Int32) (lq a1)) <|
    stp (uT (r_45.1, p_13.2) a1 (Int32.toNatClampNeg (26 : Int32)) x3_12) fun τx_13 =>
    stp (0 : Int32) fun x4_14 =>
    fL_sees_j82 a1 τx_13 l2_45 x3_12 x4_14
def fL_sees_b20 (a1 : Nat) (τ_20 : LawS) (l2_20 : Int32) (l3_20 : Int32) : Option ((LawS × Int32) ⊕ LawS) :=
  gd (inb (1 : Int32) (lq a1)) <|
  if (τ_20.1 a1 (Int32.toNatClampNeg (1 : Int32))) ≤ l3_20 then
    some (.inr τ_20)
  else
    bnd (nox (f11_cursorAt τ_20.2 l3_20)) fun p_17 =>
    gd (inb ((2 : Int32) + l3_20) (lq a1)) <|
    stp (uT (τ_20.1, p_17.2) a1 (Int32.toNatClampNeg ((2 : Int32) + l3_20)) p_17.1) fun τx_16 =>
    stp (l3_20 + (1 : Int32)) fun x3_17 =>
    some (.inl (τx_16, x3_17))
def fL_sees_j20 (a1 : Nat) (τ_20 : LawS) (l2_20 : Int32) (l3_20 : Int32) : Option (LawS) :=
  bnd (loopF (fun s_20 => fL_sees_b20 a1 s_20.1 l2_20 s_20.2) FU (τ_20, l3_20)) fun r_20 =>
    stp (0 : Int32) fun x3_18 =>
    fL_sees_j45 a1 r_20 l2_20 x3_18
def fL_sees (τ : LawS) (a1 : Nat) : Option (LawS) :=
  bnd (nox (f11_count τ.2 (0 : Int32))) fun p_19 =>
  stp p_19.1 fun x2_19 =>
  gd (inb (0 : Int32) (lq a1)) <|
  stp (uT (τ.1, p_19.2) a1 (Int32.toNatClampNeg (0 : Int32)) x2_19) fun τx_20 =>
  bnd (nox (f11_count τx_20.2 (2 : Int32))) fun p_21 =>
  gd (inb (1 : Int32) (lq a1)) <|
  stp (uT (τx_20.1, p_21.2) a1 (Int32.toNatClampNeg (1 : Int32)) p_21.1) fun τx_21 =>
  stp (0 : Int32) fun x3_22 =>
  fL_sees_j20 a1 τx_21 x2_19 x3_22
def fL_isLike_b115 (a1 : Nat) (τ_115 : LawS) (l3_115 : Int32) : Option (Int32 ⊕ (Unit ⊕ Unit)) :=
  gd (inb (0 : Int32) (lq a1)) <|
  if (τ_115.1 a1 (Int32.toNatClampNeg (0 : Int32))) ≤ l3_115 then
    some (.inr (Sum.inl ()))
  else
    gd (inb ((400 : Int32) + l3_115) 3500) <|
    gd (inb ((400 : Int32) + l3_115) (lq a1)) <|
    if (τ_115.1 42 (Int32.toNatClampNeg ((400 : Int32) + l3_115))) = (τ_115.1 a1 (Int32.toNatClampNeg ((400 : Int32) + l3_115))) then
      stp (l3_115 + (1 : Int32)) fun x3_1 =>
      some (.inl x3_1)
    else
      some (.inr (Sum.inr ()))
def fL_isLike_j115 (a1 : Nat) (τ_115 : LawS) (l3_115 : Int32) : Option (Int32 × LawS) :=
  bnd (loopF (fun s_115 => fL_isLike_b115 a1 τ_115 s_115) FU l3_115) fun r_115 =>
    match r_115 with
    | .inl r_115x =>
      some ((1 : Int32), τ_115)
    | .inr r_115y =>
      some ((0 : Int32), τ_115)
def fL_isLike_j107 (a1 : Nat) (τ_67 : LawS) (l3_107 : Int32) : Option (Int32 ⊕ (Unit ⊕ Unit)) :=
  stp (l3_107 + (1 : Int32)) fun x3_2 =>
  some (.inl x3_2)
def fL_isLike_b67 (a1 : Nat) (τ_67 : LawS) (l3_67 : Int32) : Option (Int32 ⊕ (Unit ⊕ Unit)) :=
  gd (inb (26 : Int32) (lq a1)) <|
  if ((30 : Int32) + (τ_67.1 a1 (Int32.toNatClampNeg (26 : Int32)))) ≤ l3_67 then
    some (.inr (Sum.inl ()))
  else
    if l3_67 = (27 : Int32) then
      fL_isLike_j107 a1 τ_67 l3_67
    else
      if l3_67 = (28 : Int32) then
        fL_isLike_j107 a1 τ_67 l3_67
      else
        if l3_67 = (29 : Int32) then
          fL_isLike_j107 a1 τ_67 l3_67
        else
          gd (inb l3_67 3500) <|
          gd (inb l3_67 (lq a1)) <|
          if (τ_67.1 42 (Int32.toNatClampNeg l3_67)) = (τ_67.1 a1 (Int32.toNatClampNeg l3_67)) then
            fL_isLike_j107 a1 τ_67 l3_67
          else
            some (.inr (Sum.inr ()))
def fL_isLike_j67 (a1 : Nat) (τ_67 : LawS) (l3_67 : Int32) : Option (Int32 × LawS) :=
  bnd (loopF (fun s_67 => fL_isLike_b67 a1 τ_67 s_67) FU l3_67) fun r_67 =>
    match r_67 with
    | .inl r_67x =>
      stp (0 : Int32) fun x3_4 =>
      fL_isLike_j115 a1 τ_67 x3_4
    | .inr r_67y =>
      some ((0 : Int32), τ_67)
def fL_isLike_b38 (a1 : Nat) (τ_38 : LawS) (l3_38 : Int32) : Option (Int32 ⊕ (Unit ⊕ Unit)) :=
  gd (inb (1 : Int32) (lq a1)) <|
  if ((2 : Int32) + (τ_38.1 a1 (Int32.toNatClampNeg (1 : Int32)))) ≤ l3_38 then
    some (.inr (Sum.inl ()))
  else
    gd (inb l3_38 3500) <|
    gd (inb l3_38 (lq a1)) <|
    if (τ_38.1 42 (Int32.toNatClampNeg l3_38)) = (τ_38.1 a1 (Int32.toNatClampNeg l3_38)) then
      stp (l3_38 + (1 : Int32)) fun x3_6 =>
      some (.inl x3_6)
    else
      some (.inr (Sum.inr ()))
def fL_isLike_j38 (a1 : Nat) (τ_38 : LawS) (l3_38 : Int32) : Option (Int32 × LawS) :=
  bnd (loopF (fun s_38 => fL_isLike_b38 a1 τ_38 s_38) FU l3_38) fun r_38 =>
    match r_38 with
    | .inl r_38x =>
      stp (10 : Int32) fun x3_7 =>
      fL_isLike_j67 a1 τ_38 x3_7
    | .inr r_38y =>
      some ((0 : Int32), τ_38)
def fL_isLike_j34 (a1 : Nat) (τ_34 : LawS) : Option (Int32 × LawS) :=
  some ((0 : Int32), τ_34)
def fL_isLike (τ : LawS) (a1 : Nat) : Option (Int32 × LawS) :=
  bnd (fL_sees τ 42) fun p_19 =>
  gd (inb (0 : Int32) 3500) <|
  gd (inb (0 : Int32) (lq a1)) <|
  if (p_19.1 42 (Int32.toNatClampNeg (0 : Int32))) = (p_19.1 a1 (Int32.toNatClampNeg (0 : Int32))) then
    gd (inb (1 : Int32) 3500) <|
    gd (inb (1 : Int32) (lq a1)) <|
    if (p_19.1 42 (Int32.toNatClampNeg (1 : Int32))) = (p_19.1 a1 (Int32.toNatClampNeg (1 : Int32))) then
      gd (inb (26 : Int32) 3500) <|
      gd (inb (26 : Int32) (lq a1)) <|
      if (p_19.1 42 (Int32.toNatClampNeg (26 : Int32))) = (p_19.1 a1 (Int32.toNatClampNeg (26 : Int32))) then
        stp (0 : Int32) fun x3_8 =>
        fL_isLike_j38 a1 p_19 x3_8
      else
        fL_isLike_j34 a1 p_19
    else
      fL_isLike_j34 a1 p_19
  else
    fL_isLike_j34 a1 p_19
def fL_holds_j411 (τ_411 : LawS) (s0_411 : Int32) : Option (Int32 × LawS) :=
  gd (isB s0_411) <|
  some (s0_411, τ_411)
def fL_holds_j410 (τ_410 : LawS) : Option (Int32 × LawS) :=
  fL_holds_j411 τ_410 (0 : Int32)
def fL_holds_j370 (τ_370 : LawS) (l3_370 : Int32) (l6_370 : Int32) : Option (Int32 × LawS) :=
  bnd (fL_next τ_370) fun p_2 =>
  gd (nz (l3_370 + (1 : Int32))) <|
  stp (p_2.1 - p_2.1 / (l3_370 + (1 : Int32)) * (l3_370 + (1 : Int32))) fun x7_1 =>
  if l6_370 = 0 then
    fL_holds_j410 p_2.2
  else
    bnd (nox (f11_lineOf p_2.2.2 x7_1)) fun p_5 =>
    bnd (nox (f11_columnOf p_5.2 x7_1)) fun p_6 =>
    bnd (nox (f11_placeAt p_6.2 p_5.1 p_6.1)) fun p_7 =>
    if p_7.1 = x7_1 then
      fL_holds_j411 (p_2.2.1, p_7.2) (1 : Int32)
    else
      fL_holds_j410 (p_2.2.1, p_7.2)
def fL_holds_j362 (τ_323 : LawS) (l3_323 : Int32) (l7_362 : Int32) (s0_362 : Int32) : Option ((Int32 × Int32) ⊕ Int32) :=
  stp s0_362 fun x6_2 =>
  stp (l7_362 + (1 : Int32)) fun x7_3 =>
  some (.inl (x6_2, x7_3))
def fL_holds_j361 (τ_323 : LawS) (l3_323 : Int32) (l7_361 : Int32) : Option ((Int32 × Int32) ⊕ Int32) :=
  fL_holds_j362 τ_323 l3_323 l7_361 (0 : Int32)
def fL_holds_b323 (τ_323 : LawS) (l3_323 : Int32) (l6_323 : Int32) (l7_323 : Int32) : Option ((Int32 × Int32) ⊕ Int32) :=
  if (16 : Int32) ≤ l7_323 then
    some (.inr l6_323)
  else
    if l6_323 = 0 then
      some (.inr l6_323)
    else
      gd (inb ((10 : Int32) + l7_323) 3500) <|
      if (τ_323.1 42 (Int32.toNatClampNeg ((10 : Int32) + l7_323))) < (-1 : Int32) then
        fL_holds_j361 τ_323 l3_323 l7_323
      else
        gd (inb ((10 : Int32) + l7_323) 3500) <|
        if l3_323 < (τ_323.1 42 (Int32.toNatClampNeg ((10 : Int32) + l7_323))) then
          fL_holds_j361 τ_323 l3_323 l7_323
        else
          fL_holds_j362 τ_323 l3_323 l7_323 (1 : Int32)
def fL_holds_j323 (τ_323 : LawS) (l3_323 : Int32) (l6_323 : Int32) (l7_323 : Int32) : Option (Int32 × LawS) :=
  bnd (loopF (fun s_323 => fL_holds_b323 τ_323 l3_323 s_323.1 s_323.2) FU (l6_323, l7_323)) fun r_323 =>
    fL_holds_j370 τ_323 l3_323 r_323
def fL_holds_j320 (τ_320 : LawS) (l3_320 : Int32) (l6_320 : Int32) : Option (Int32 × LawS) :=
  stp (0 : Int32) fun x7_4 =>
  fL_holds_j323 τ_320 l3_320 l6_320 x7_4
def fL_holds_j312 (l3_237 : Int32) (τ_312 : LawS) (l7_312 : Int32) (s0_312 : Int32) : Option ((LawS × Int32 × Int32) ⊕ (LawS × Int32)) :=
  stp s0_312 fun x6_5 =>
  stp (l7_312 + (1 : Int32)) fun x7_6 =>
  some (.inl (τ_312, x6_5, x7_6))
def fL_holds_j311 (l3_237 : Int32) (τ_311 : LawS) (l7_311 : Int32) : Option ((LawS × Int32 × Int32) ⊕ (LawS × Int32)) :=
  fL_holds_j312 l3_237 τ_311 l7_311 (0 : Int32)
def fL_holds_j289 (l3_237 : Int32) (τ_289 : LawS) (l7_289 : Int32) : Option ((LawS × Int32 × Int32) ⊕ (LawS × Int32)) :=
  gd (inb ((2 : Int32) + l7_289) 3500) <|
  bnd (nox (f11_lineOf τ_289.2 (τ_289.1 42 (Int32.toNatClampNeg ((2 : Int32) + l7_289))))) fun p_16 =>
  gd (inb ((30 : Int32) + p_16.1) 3500) <|
  if (τ_289.1 42 (Int32.toNatClampNeg ((30 : Int32) + p_16.1))) = 0 then
    fL_holds_j312 l3_237 (τ_289.1, p_16.2) l7_289 (1 : Int32)
  else
    fL_holds_j311 l3_237 (τ_289.1, p_16.2) l7_289
def fL_holds_b237 (τ_237 : LawS) (l3_237 : Int32) (l6_237 : Int32) (l7_237 : Int32) : Option ((LawS × Int32 × Int32) ⊕ (LawS × Int32)) :=
  gd (inb (1 : Int32) 3500) <|
  if (τ_237.1 42 (Int32.toNatClampNeg (1 : Int32))) ≤ l7_237 then
    some (.inr (τ_237, l6_237))
  else
    if l6_237 = 0 then
      some (.inr (τ_237, l6_237))
    else
      gd (inb ((2 : Int32) + l7_237) 3500) <|
      if (τ_237.1 42 (Int32.toNatClampNeg ((2 : Int32) + l7_237))) < 0 then
        fL_holds_j311 l3_237 τ_237 l7_237
      else
        gd (inb ((2 : Int32) + l7_237) 3500) <|
        if l3_237 < (τ_237.1 42 (Int32.toNatClampNeg ((2 : Int32) + l7_237))) then
          fL_holds_j311 l3_237 τ_237 l7_237
        else
          if l7_237 = 0 then
            fL_holds_j289 l3_237 τ_237 l7_237
          else
            gd (inb ((2 : Int32) + l7_237) 3500) <|
            gd (inb ((1 : Int32) + l7_237) 3500) <|
            if (τ_237.1 42 (Int32.toNatClampNeg ((2 : Int32) + l7_237))) ≤ (τ_237.1 42 (Int32.toNatClampNeg ((1 : Int32) + l7_237))) then
              fL_holds_j311 l3_237 τ_237 l7_237
            else
              fL_holds_j289 l3_237 τ_237 l7_237
def fL_holds_j237 (τ_237 : LawS) (l3_237 : Int32) (l6_237 : Int32) (l7_237 : Int32) : Option (Int32 × LawS) :=
  bnd (loopF (fun s_237 => fL_holds_b237 s_237.1 l3_237 s_237.2.1 s_237.2.2) FU (τ_237, l6_237, l7_237)) fun r_237 =>
    fL_holds_j320 r_237.1 l3_237 r_237.2
def fL_holds_j232 (τ_232 : LawS) (l3_232 : Int32) (s0_232 : Int32) : Option (Int32 × LawS) :=
  stp s0_232 fun x6_7 =>
  stp (0 : Int32) fun x7_8 =>
  fL_holds_j237 τ_232 l3_232 x6_7 x7_8
def fL_holds_j231 (τ_231 : LawS) (l3_231 : Int32) : Option (Int32 × LawS) :=
  fL_holds_j232 τ_231 l3_231 (0 : Int32)
def fL_holds_b185 (τ_185 : LawS) (l3_185 : Int32) (l5_185 : Int32) (l6_185 : Int32) (l7_185 : Int32) : Option ((Int32 × Int32) ⊕ Int32) :=
  gd (inb (26 : Int32) 3500) <|
  if (τ_185.1 42 (Int32.toNatClampNeg (26 : Int32))) ≤ l7_185 then
    some (.inr l5_185)
  else
    gd (inb ((30 : Int32) + l7_185) 3500) <|
    stp (l5_185 + (τ_185.1 42 (Int32.toNatClampNeg ((30 : Int32) + l7_185)))) fun x5_9 =>
    stp (l7_185 + (1 : Int32)) fun x7_10 =>
    some (.inl (x5_9, x7_10))
def fL_holds_j185 (τ_185 : LawS) (l3_185 : Int32) (l5_185 : Int32) (l6_185 : Int32) (l7_185 : Int32) : Option (Int32 × LawS) :=
  bnd (loopF (fun s_185 => fL_holds_b185 τ_185 l3_185 s_185.1 l6_185 s_185.2) FU (l5_185, l7_185)) fun r_185 =>
    if l6_185 = 0 then
      fL_holds_j231 τ_185 l3_185
    else
      bnd (nox (f11_count τ_185.2 (4 : Int32))) fun p_37 =>
      if p_37.1 = r_185 then
        fL_holds_j232 (τ_185.1, p_37.2) l3_185 (1 : Int32)
      else
        fL_holds_j231 (τ_185.1, p_37.2) l3_185
def fL_holds_j180 (τ_180 : LawS) (l3_180 : Int32) (l5_180 : Int32) (s0_180 : Int32) : Option (Int32 × LawS) :=
  stp s0_180 fun x6_11 =>
  stp (0 : Int32) fun x7_12 =>
  fL_holds_j185 τ_180 l3_180 l5_180 x6_11 x7_12
def fL_holds_j179 (τ_179 : LawS) (l3_179 : Int32) (l5_179 : Int32) : Option (Int32 × LawS) :=
  fL_holds_j180 τ_179 l3_179 l5_179 (0 : Int32)
def fL_holds_j159 (τ_159 : LawS) (l3_159 : Int32) (l4_159 : Int32) (l5_159 : Int32) (l6_159 : Int32) : Option (Int32 × LawS) :=
  if l6_159 = 0 then
    fL_holds_j179 τ_159 l3_159 l5_159
  else
    gd (inb (26 : Int32) 3500) <|
    if (l4_159 + (1 : Int32)) = (τ_159.1 42 (Int32.toNatClampNeg (26 : Int32))) then
      fL_holds_j180 τ_159 l3_159 l5_159 (1 : Int32)
    else
      fL_holds_j179 τ_159 l3_159 l5_159
def fL_holds_j150 (l3_55 : Int32) (l5_55 : Int32) (τ_150 : LawS) (l6_150 : Int32) (l7_150 : Int32) (s0_150 : Int32) (s1_150 : Int32) : Option ((LawS × Int32 × Int32 × Int32) ⊕ (LawS × Int32 × Int32)) :=
  stp (s0_150 + s1_150) fun x4_13 =>
  stp (l7_150 + (1 : Int32)) fun x7_14 =>
  some (.inl (τ_150, x4_13, l6_150, x7_14))
def fL_holds_j149 (l3_55 : Int32) (l5_55 : Int32) (τ_149 : LawS) (l6_149 : Int32) (l7_149 : Int32) (s0_149 : Int32) : Option ((LawS × Int32 × Int32 × Int32) ⊕ (LawS × Int32 × Int32)) :=
  fL_holds_j150 l3_55 l5_55 τ_149 l6_149 l7_149 s0_149 (0 : Int32)
def fL_holds_j122 (l3_55 : Int32) (l5_55 : Int32) (τ_122 : LawS) (l4_122 : Int32) (l7_122 : Int32) (s0_122 : Int32) : Option ((LawS × Int32 × Int32 × Int32) ⊕ (LawS × Int32 × Int32)) :=
  stp s0_122 fun x6_15 =>
  if l3_55 ≤ l7_122 then
    fL_holds_j149 l3_55 l5_55 τ_122 x6_15 l7_122 l4_122
  else
    gd (inb ((400 : Int32) + l7_122) 3500) <|
    if (τ_122.1 42 (Int32.toNatClampNeg ((400 : Int32) + l7_122))) = (10 : Int32) then
      fL_holds_j150 l3_55 l5_55 τ_122 x6_15 l7_122 l4_122 (1 : Int32)
    else
      fL_holds_j149 l3_55 l5_55 τ_122 x6_15 l7_122 l4_122
def fL_holds_j121 (l3_55 : Int32) (l5_55 : Int32) (τ_121 : LawS) (l4_121 : Int32) (l7_121 : Int32) : Option ((LawS × Int32 × Int32 × Int32) ⊕ (LawS × Int32 × Int32)) :=
  fL_holds_j122 l3_55 l5_55 τ_121 l4_121 l7_121 (0 : Int32)
def fL_holds_j117 (l3_55 : Int32) (l5_55 : Int32) (τ_117 : LawS) (l4_117 : Int32) (l7_117 : Int32) : Option ((LawS × Int32 × Int32 × Int32) ⊕ (LawS × Int32 × Int32)) :=
  fL_holds_j122 l3_55 l5_55 τ_117 l4_117 l7_117 (1 : Int32)
def fL_holds_j105 (l3_55 : Int32) (l5_55 : Int32) (τ_105 : LawS) (l4_105 : Int32) (l7_105 : Int32) : Option ((LawS × Int32 × Int32 × Int32) ⊕ (LawS × Int32 × Int32)) :=
  bnd (nox (f11_placeAt τ_105.2 l4_105 (0 : Int32))) fun p_45 =>
  if p_45.1 = l7_105 then
    fL_holds_j117 l3_55 l5_55 (τ_105.1, p_45.2) l4_105 l7_105
  else
    fL_holds_j121 l3_55 l5_55 (τ_105.1, p_45.2) l4_105 l7_105
def fL_holds_b55 (τ_55 : LawS) (l3_55 : Int32) (l4_55 : Int32) (l5_55 : Int32) (l6_55 : Int32) (l7_55 : Int32) : Option ((LawS × Int32 × Int32 × Int32) ⊕ (LawS × Int32 × Int32)) :=
  if l3_55 < l7_55 then
    some (.inr (τ_55, l4_55, l6_55))
  else
    if l6_55 = 0 then
      some (.inr (τ_55, l4_55, l6_55))
    else
      if 0 < (l7_55 - l7_55 / (7 : Int32) * (7 : Int32)) then
        fL_holds_j117 l3_55 l5_55 τ_55 l4_55 l7_55
      else
        bnd (nox (f11_lineOf τ_55.2 l7_55)) fun p_50 =>
        if p_50.1 = l4_55 then
          if l7_55 ≤ 0 then
            fL_holds_j105 l3_55 l5_55 (τ_55.1, p_50.2) l4_55 l7_55
          else
            gd (inb (((400 : Int32) + l7_55) - (1 : Int32)) 3500) <|
            if (τ_55.1 42 (Int32.toNatClampNeg (((400 : Int32) + l7_55) - (1 : Int32)))) = (10 : Int32) then
              fL_holds_j105 l3_55 l5_55 (τ_55.1, p_50.2) l4_55 l7_55
            else
              fL_holds_j117 l3_55 l5_55 (τ_55.1, p_50.2) l4_55 l7_55
        else
          fL_holds_j121 l3_55 l5_55 (τ_55.1, p_50.2) l4_55 l7_55
def fL_holds_j55 (τ_55 : LawS) (l3_55 : Int32) (l4_55 : Int32) (l5_55 : Int32) (l6_55 : Int32) (l7_55 : Int32) : Option (Int32 × LawS) :=
  bnd (loopF (fun s_55 => fL_holds_b55 s_55.1 l3_55 s_55.2.1 l5_55 s_55.2.2.1 s_55.2.2.2) FU (τ_55, l4_55, l6_55, l7_55)) fun r_55 =>
    fL_holds_j159 r_55.1 l3_55 r_55.2.1 l5_55 r_55.2.2
def fL_holds_j50 (τ_50 : LawS) (l3_50 : Int32) (l4_50 : Int32) (l5_50 : Int32) (s0_50 : Int32) : Option (Int32 × LawS) :=
  stp s0_50 fun x6_16 =>
  stp (0 : Int32) fun x7_17 =>
  fL_holds_j55 τ_50 l3_50 l4_50 l5_50 x6_16 x7_17
def fL_holds_j49 (τ_49 : LawS) (l3_49 : Int32) (l4_49 : Int32) (l5_49 : Int32) : Option (Int32 × LawS) :=
  fL_holds_j50 τ_49 l3_49 l4_49 l5_49 (0 : Int32)
def fL_holds (τ : LawS) : Option (Int32 × LawS) :=
  bnd (fL_sees τ 42) fun p_55 =>
  gd (inb (0 : Int32) 3500) <|
  stp (p_55.1 42 (Int32.toNatClampNeg (0 : Int32))) fun x3_18 =>
  stp (0 : Int32) fun x4_19 =>
  stp (0 : Int32) fun x5_20 =>
  if (3000 : Int32) < x3_18 then
    fL_holds_j49 p_55 x3_18 x4_19 x5_20
  else
    bnd (nox (f11_isHidden p_55.2 (0 : Int32))) fun p_58 =>
    if p_58.1 = 0 then
      gd (inb (1 : Int32) 3500) <|
      if (p_55.1 42 (Int32.toNatClampNeg (1 : Int32))) < (1 : Int32) then
        fL_holds_j49 (p_55.1, p_58.2) x3_18 x4_19 x5_20
      else
        gd (inb (1 : Int32) 3500) <|
        if (8 : Int32) < (p_55.1 42 (Int32.toNatClampNeg (1 : Int32))) then
          fL_holds_j49 (p_55.1, p_58.2) x3_18 x4_19 x5_20
        else
          fL_holds_j50 (p_55.1, p_58.2) x3_18 x4_19 x5_20 (1 : Int32)
    else
      fL_holds_j49 (p_55.1, p_58.2) x3_18 x4_19 x5_20
def fL_replaces_j410 (τ_195 : LawS) (l6_195 : Int32) (l7_195 : Int32) (l8_195 : Int32) (l10_410 : Int32) : Option (Int32 ⊕ (Unit ⊕ (Unit ⊕ (Unit ⊕ Unit)))) :=
  stp (l10_410 + (1 : Int32)) fun x10_1 =>
  some (.inl x10_1)
def fL_replaces_j404 (τ_195 : LawS) (l6_195 : Int32) (l7_195 : Int32) (l8_195 : Int32) (l10_356 : Int32) (l11_356 : Int32) (l14_404 : Int32) : Option (Int32 ⊕ (Unit ⊕ Unit)) :=
  stp (l14_404 + (1 : Int32)) fun x14_2 =>
  some (.inl x14_2)
def fL_replaces_b356 (τ_195 : LawS) (l6_195 : Int32) (l7_195 : Int32) (l8_195 : Int32) (l10_356 : Int32) (l11_356 : Int32) (l14_356 : Int32) : Option (Int32 ⊕ (Unit ⊕ Unit)) :=
  if (16 : Int32) ≤ l14_356 then
    some (.inr (Sum.inl ()))
  else
    gd (inb ((10 : Int32) + l14_356) 3500) <|
    if (τ_195.1 41 (Int32.toNatClampNeg ((10 : Int32) + l14_356))) < 0 then
      fL_replaces_j404 τ_195 l6_195 l7_195 l8_195 l10_356 l11_356 l14_356
    else
      gd (inb ((10 : Int32) + l14_356) 3500) <|
      if l11_356 ≤ (τ_195.1 41 (Int32.toNatClampNeg ((10 : Int32) + l14_356))) then
        fL_replaces_j404 τ_195 l6_195 l7_195 l8_195 l10_356 l11_356 l14_356
      else
        gd (inb ((10 : Int32) + l14_356) 3500) <|
        gd (inb ((10 : Int32) + l10_356) 3500) <|
        if (τ_195.1 42 (Int32.toNatClampNeg ((10 : Int32) + l14_356))) ≤ (τ_195.1 42 (Int32.toNatClampNeg ((10 : Int32) + l10_356))) then
          fL_replaces_j404 τ_195 l6_195 l7_195 l8_195 l10_356 l11_356 l14_356
        else
          some (.inr (Sum.inr ()))
def fL_replaces_j356 (τ_195 : LawS) (l6_195 : Int32) (l7_195 : Int32) (l8_195 : Int32) (l10_356 : Int32) (l11_356 : Int32) (l14_356 : Int32) : Option (Int32 ⊕ (Unit ⊕ (Unit ⊕ (Unit ⊕ Unit)))) :=
  bnd (loopF (fun s_356 => fL_replaces_b356 τ_195 l6_195 l7_195 l8_195 l10_356 l11_356 s_356) FU l14_356) fun r_356 =>
    match r_356 with
    | .inl r_356x =>
      fL_replaces_j410 τ_195 l6_195 l7_195 l8_195 l10_356
    | .inr r_356y =>
      some (.inr (Sum.inr (Sum.inr (Sum.inr ()))))
def fL_replaces_j353 (τ_195 : LawS) (l6_195 : Int32) (l7_195 : Int32) (l8_195 : Int32) (l10_353 : Int32) (l11_353 : Int32) : Option (Int32 ⊕ (Unit ⊕ (Unit ⊕ (Unit ⊕ Unit)))) :=
  stp (0 : Int32) fun x14_3 =>
  fL_replaces_j356 τ_195 l6_195 l7_195 l8_195 l10_353 l11_353 x14_3
def fL_replaces_j347 (τ_195 : LawS) (l6_195 : Int32) (l7_195 : Int32) (l8_195 : Int32) (l10_347 : Int32) (l11_347 : Int32) (s0_347 : Int32) (s1_347 : Int32) (s2_347 : Int32) : Option (Int32 ⊕ (Unit ⊕ (Unit ⊕ (Unit ⊕ Unit)))) :=
  if s0_347 = (s1_347 + s2_347) then
    fL_replaces_j353 τ_195 l6_195 l7_195 l8_195 l10_347 l11_347
  else
    some (.inr (Sum.inr (Sum.inr (Sum.inl ()))))
def fL_replaces_j314 (τ_195 : LawS) (l6_195 : Int32) (l7_195 : Int32) (l8_195 : Int32) (l10_314 : Int32) (l11_314 : Int32) (l12_314 : Int32) (s0_314 : Int32) : Option (Int32 ⊕ (Unit ⊕ (Unit ⊕ (Unit ⊕ Unit)))) :=
  stp s0_314 fun x13_4 =>
  if x13_4 = 0 then
    fL_replaces_j353 τ_195 l6_195 l7_195 l8_195 l10_314 l11_314
  else
    gd (inb ((10 : Int32) + l10_314) 3500) <|
    if l12_314 = 0 then
      fL_replaces_j347 τ_195 l6_195 l7_195 l8_195 l10_314 l11_314 (τ_195.1 42 (Int32.toNatClampNeg ((10 : Int32) + l10_314))) l11_314 (0 : Int32)
    else
      fL_replaces_j347 τ_195 l6_195 l7_195 l8_195 l10_314 l11_314 (τ_195.1 42 (Int32.toNatClampNeg ((10 : Int32) + l10_314))) l11_314 (l6_195 - (l8_195 - l7_195))
def fL_replaces_j309 (τ_195 : LawS) (l6_195 : Int32) (l7_195 : Int32) (l8_195 : Int32) (l10_309 : Int32) (l11_309 : Int32) (l12_309 : Int32) : Option (Int32 ⊕ (Unit ⊕ (Unit ⊕ (Unit ⊕ Unit)))) :=
  fL_replaces_j314 τ_195 l6_195 l7_195 l8_195 l10_309 l11_309 l12_309 (1 : Int32)
def fL_replaces_j289 (τ_195 : LawS) (l6_195 : Int32) (l7_195 : Int32) (l8_195 : Int32) (l10_289 : Int32) (l11_289 : Int32) (l12_289 : Int32) : Option (Int32 ⊕ (Unit ⊕ (Unit ⊕ (Unit ⊕ Unit)))) :=
  fL_replaces_j314 τ_195 l6_195 l7_195 l8_195 l10_289 l11_289 l12_289 (1 : Int32)
def fL_replaces_j265 (τ_195 : LawS) (l6_195 : Int32) (l7_195 : Int32) (l8_195 : Int32) (l10_265 : Int32) (l11_265 : Int32) (s0_265 : Int32) : Option (Int32 ⊕ (Unit ⊕ (Unit ⊕ (Unit ⊕ Unit)))) :=
  stp s0_265 fun x12_5 =>
  gd (inb l10_265 16) <|
  if (τ_195.1 45 (Int32.toNatClampNeg l10_265)) = 0 then
    if l11_265 < l7_195 then
      fL_replaces_j309 τ_195 l6_195 l7_195 l8_195 l10_265 l11_265 x12_5
    else
      if x12_5 = 0 then
        fL_replaces_j314 τ_195 l6_195 l7_195 l8_195 l10_265 l11_265 x12_5 (0 : Int32)
      else
        fL_replaces_j309 τ_195 l6_195 l7_195 l8_195 l10_265 l11_265 x12_5
  else
    if (l11_265 - (1 : Int32)) < l7_195 then
      fL_replaces_j289 τ_195 l6_195 l7_195 l8_195 l10_265 l11_265 x12_5
    else
      if x12_5 = 0 then
        fL_replaces_j314 τ_195 l6_195 l7_195 l8_195 l10_265 l11_265 x12_5 (0 : Int32)
      else
        fL_replaces_j289 τ_195 l6_195 l7_195 l8_195 l10_265 l11_265 x12_5
def fL_replaces_b195 (τ_195 : LawS) (l6_195 : Int32) (l7_195 : Int32) (l8_195 : Int32) (l10_195 : Int32) : Option (Int32 ⊕ (Unit ⊕ (Unit ⊕ (Unit ⊕ Unit)))) :=
  if (16 : Int32) ≤ l10_195 then
    some (.inr (Sum.inl ()))
  else
    gd (inb ((10 : Int32) + l10_195) 3500) <|
    stp (τ_195.1 41 (Int32.toNatClampNeg ((10 : Int32) + l10_195))) fun x11_6 =>
    if 0 ≤ x11_6 then
      gd (inb l10_195 16) <|
      if (τ_195.1 45 (Int32.toNatClampNeg l10_195)) = 0 then
        if x11_6 < l8_195 then
          fL_replaces_j265 τ_195 l6_195 l7_195 l8_195 l10_195 x11_6 (0 : Int32)
        else
          fL_replaces_j265 τ_195 l6_195 l7_195 l8_195 l10_195 x11_6 (1 : Int32)
      else
        if (x11_6 - (1 : Int32)) < l8_195 then
          fL_replaces_j265 τ_195 l6_195 l7_195 l8_195 l10_195 x11_6 (0 : Int32)
        else
          fL_replaces_j265 τ_195 l6_195 l7_195 l8_195 l10_195 x11_6 (1 : Int32)
    else
      gd (inb ((10 : Int32) + l10_195) 3500) <|
      if (τ_195.1 42 (Int32.toNatClampNeg ((10 : Int32) + l10_195))) < 0 then
        fL_replaces_j410 τ_195 l6_195 l7_195 l8_195 l10_195
      else
        some (.inr (Sum.inr (Sum.inl ())))
def fL_replaces_j195 (τ_195 : LawS) (l6_195 : Int32) (l7_195 : Int32) (l8_195 : Int32) (l10_195 : Int32) : Option (Int32 × LawS) :=
  bnd (loopF (fun s_195 => fL_replaces_b195 τ_195 l6_195 l7_195 l8_195 s_195) FU l10_195) fun r_195 =>
    match r_195 with
    | .inl r_195x =>
      some ((1 : Int32), τ_195)
    | .inr r_195y =>
      match r_195y with
      | .inl r_195yx =>
        some ((0 : Int32), τ_195)
      | .inr r_195yy =>
        match r_195yy with
        | .inl r_195yyx =>
          some ((0 : Int32), τ_195)
        | .inr r_195yyy =>
          some ((0 : Int32), τ_195)
def fL_replaces_j181 (τ_109 : LawS) (l6_109 : Int32) (l7_109 : Int32) (l8_109 : Int32) (l10_181 : Int32) (s0_181 : Int32) (s1_181 : Int32) : Option (Int32 ⊕ (Unit ⊕ Unit)) :=
  if s0_181 = s1_181 then
    stp (l10_181 + (1 : Int32)) fun x10_7 =>
    some (.inl x10_7)
  else
    some (.inr (Sum.inr ()))
def fL_replaces_b109 (τ_109 : LawS) (l6_109 : Int32) (l7_109 : Int32) (l8_109 : Int32) (l10_109 : Int32) : Option (Int32 ⊕ (Unit ⊕ Unit)) :=
  gd (inb (0 : Int32) 3500) <|
  if (τ_109.1 42 (Int32.toNatClampNeg (0 : Int32))) ≤ l10_109 then
    some (.inr (Sum.inl ()))
  else
    gd (inb ((400 : Int32) + l10_109) 3500) <|
    if l7_109 ≤ l10_109 then
      if (l7_109 + l6_109) ≤ l10_109 then
        gd (inb (((((400 : Int32) + l10_109) - l6_109) + l8_109) - l7_109) 3500) <|
        fL_replaces_j181 τ_109 l6_109 l7_109 l8_109 l10_109 (τ_109.1 42 (Int32.toNatClampNeg ((400 : Int32) + l10_109))) (τ_109.1 41 (Int32.toNatClampNeg (((((400 : Int32) + l10_109) - l6_109) + l8_109) - l7_109)))
      else
        gd (inb (l10_109 - l7_109) 40) <|
        fL_replaces_j181 τ_109 l6_109 l7_109 l8_109 l10_109 (τ_109.1 42 (Int32.toNatClampNeg ((400 : Int32) + l10_109))) (τ_109.1 43 (Int32.toNatClampNeg (l10_109 - l7_109)))
    else
      gd (inb ((400 : Int32) + l10_109) 3500) <|
      fL_replaces_j181 τ_109 l6_109 l7_109 l8_109 l10_109 (τ_109.1 42 (Int32.toNatClampNeg ((400 : Int32) + l10_109))) (τ_109.1 41 (Int32.toNatClampNeg ((400 : Int32) + l10_109)))
def fL_replaces_j109 (τ_109 : LawS) (l6_109 : Int32) (l7_109 : Int32) (l8_109 : Int32) (l10_109 : Int32) : Option (Int32 × LawS) :=
  bnd (loopF (fun s_109 => fL_replaces_b109 τ_109 l6_109 l7_109 l8_109 s_109) FU l10_109) fun r_109 =>
    match r_109 with
    | .inl r_109x =>
      stp (0 : Int32) fun x10_9 =>
      fL_replaces_j195 τ_109 l6_109 l7_109 l8_109 x10_9
    | .inr r_109y =>
      some ((0 : Int32), τ_109)
def fL_replaces (τ : LawS) : Option (Int32 × LawS) :=
  bnd (fL_sees τ 41) fun p_37 =>
  bnd (fL_draws p_37) fun p_38 =>
  stp p_38.1 fun x6_10 =>
  bnd (fL_feeds p_38.2 43 x6_10) fun p_39 =>
  if p_39.1 = 0 then
    some ((0 : Int32), p_39.2)
  else
    bnd (fL_next p_39.2) fun p_41 =>
    gd (inb (0 : Int32) 3500) <|
    gd (nz ((p_41.2.1 41 (Int32.toNatClampNeg (0 : Int32))) + (1 : Int32))) <|
    stp (p_41.1 - p_41.1 / ((p_41.2.1 41 (Int32.toNatClampNeg (0 : Int32))) + (1 : Int32)) * ((p_41.2.1 41 (Int32.toNatClampNeg (0 : Int32))) + (1 : Int32))) fun x7_11 =>
    gd (inb (0 : Int32) 3500) <|
    bnd (fL_next p_41.2) fun p_45 =>
    stp (imin (p_41.2.1 41 (Int32.toNatClampNeg (0 : Int32))) (x7_11 + (p_45.1 - p_45.1 / (6 : Int32) * (6 : Int32)))) fun x8_12 =>
    bnd (fL_done p_45.2 (2 : Int32) x7_11 x8_12 (0 : Int32)) fun p_46 =>
    stp p_46.1 fun x9_13 =>
    if x9_13 = (-1000003 : Int32) then
      bnd (fL_isLike p_46.2 41) fun p_51 =>
      gd (isB p_51.1) <|
      some (p_51.1, p_51.2)
    else
      gd (inb (0 : Int32) 3500) <|
      if x9_13 = (((p_46.2.1 41 (Int32.toNatClampNeg (0 : Int32))) + x6_10) - (x8_12 - x7_11)) then
        bnd (fL_sees p_46.2 42) fun p_50 =>
        stp (0 : Int32) fun x10_14 =>
        fL_replaces_j109 p_50 x6_10 x7_11 x8_12 x10_14
      else
        some ((0 : Int32), p_46.2)
def fL_isWord_j47 (l0 : Int32) (s0_47 : Int32) : Option (Int32) :=
  gd (isB s0_47) <|
  some s0_47
def fL_isWord_j42 (l0 : Int32) : Option (Int32) :=
  fL_isWord_j47 l0 (1 : Int32)
def fL_isWord_j36 (l0 : Int32) : Option (Int32) :=
  if l0 = (95 : Int32) then
    fL_isWord_j42 l0
  else
    fL_isWord_j47 l0 (0 : Int32)
def fL_isWord_j24 (l0 : Int32) : Option (Int32) :=
  if l0 < (48 : Int32) then
    fL_isWord_j36 l0
  else
    if l0 ≤ (57 : Int32) then
      fL_isWord_j42 l0
    else
      fL_isWord_j36 l0
def fL_isWord_j12 (l0 : Int32) : Option (Int32) :=
  if l0 < (65 : Int32) then
    fL_isWord_j24 l0
  else
    if l0 ≤ (90 : Int32) then
      fL_isWord_j42 l0
    else
      fL_isWord_j24 l0
def fL_isWord (l0 : Int32) : Option (Int32) :=
  if l0 < (97 : Int32) then
    fL_isWord_j12 l0
  else
    if l0 ≤ (122 : Int32) then
      fL_isWord_j42 l0
    else
      fL_isWord_j12 l0
def fL_isFind_j98 (a0 : Nat) (l1 : Int32) (l3 : Int32) (l4 : Int32) (τ : LawS) (s0_98 : Int32) : Option (Int32) :=
  gd (isB s0_98) <|
  some s0_98
def fL_isFind_j97 (a0 : Nat) (l1 : Int32) (l3 : Int32) (l4 : Int32) (τ : LawS) : Option (Int32) :=
  fL_isFind_j98 a0 l1 l3 l4 τ (0 : Int32)
def fL_isFind_j93 (a0 : Nat) (l1 : Int32) (l3 : Int32) (l4 : Int32) (τ : LawS) : Option (Int32) :=
  fL_isFind_j98 a0 l1 l3 l4 τ (1 : Int32)
def fL_isFind_j69 (a0 : Nat) (l1 : Int32) (l3 : Int32) (l4 : Int32) (τ : LawS) : Option (Int32) :=
  gd (inb (0 : Int32) (lq a0)) <|
  if (l1 + l3) = (τ.1 a0 (Int32.toNatClampNeg (0 : Int32))) then
    fL_isFind_j93 a0 l1 l3 l4 τ
  else
    gd (inb (((400 : Int32) + l1) + l3) (lq a0)) <|
    bnd (fL_isWord (τ.1 a0 (Int32.toNatClampNeg (((400 : Int32) + l1) + l3)))) fun p_5 =>
    if p_5 = 0 then
      fL_isFind_j93 a0 l1 l3 l4 τ
    else
      fL_isFind_j97 a0 l1 l3 l4 τ
def fL_isFind_b14 (a0 : Nat) (l1 : Int32) (l3 : Int32) (l4 : Int32) (τ : LawS) (l5_14 : Int32) : Option (Int32 ⊕ (Unit ⊕ Unit)) :=
  if l3 ≤ l5_14 then
    some (.inr (Sum.inl ()))
  else
    gd (inb (((400 : Int32) + l1) + l5_14) (lq a0)) <|
    gd (inb l5_14 8) <|
    if (τ.1 a0 (Int32.toNatClampNeg (((400 : Int32) + l1) + l5_14))) = (τ.1 44 (Int32.toNatClampNeg l5_14)) then
      stp (l5_14 + (1 : Int32)) fun x5_1 =>
      some (.inl x5_1)
    else
      some (.inr (Sum.inr ()))
def fL_isFind_j14 (a0 : Nat) (l1 : Int32) (l3 : Int32) (l4 : Int32) (τ : LawS) (l5_14 : Int32) : Option (Int32) :=
  bnd (loopF (fun s_14 => fL_isFind_b14 a0 l1 l3 l4 τ s_14) FU l5_14) fun r_14 =>
    match r_14 with
    | .inl r_14x =>
      if l4 = 0 then
        fL_isFind_j93 a0 l1 l3 l4 τ
      else
        if l1 = 0 then
          fL_isFind_j69 a0 l1 l3 l4 τ
        else
          gd (inb (((400 : Int32) + l1) - (1 : Int32)) (lq a0)) <|
          bnd (fL_isWord (τ.1 a0 (Int32.toNatClampNeg (((400 : Int32) + l1) - (1 : Int32))))) fun p_19 =>
          if p_19 = 0 then
            fL_isFind_j69 a0 l1 l3 l4 τ
          else
            fL_isFind_j97 a0 l1 l3 l4 τ
    | .inr r_14y =>
      some (0 : Int32)
def fL_isFind (τ : LawS) (a0 : Nat) (l1 : Int32) (l3 : Int32) (l4 : Int32) : Option (Int32) :=
  gd (inb (0 : Int32) (lq a0)) <|
  if (l1 + l3) ≤ (τ.1 a0 (Int32.toNatClampNeg (0 : Int32))) then
    stp (0 : Int32) fun x5_2 =>
    fL_isFind_j14 a0 l1 l3 l4 τ x5_2
  else
    some (0 : Int32)
def fL_replacesAll_j662 (τ_597 : LawS) (l7_597 : Int32) (l8_597 : Int32) (l16_597 : Int32) (l19_662 : Int32) : Option (Int32 ⊕ (Unit ⊕ Unit)) :=
  stp (l19_662 + (1 : Int32)) fun x19_1 =>
  some (.inl x19_1)
def fL_replacesAll_b629 (τ_597 : LawS) (l7_597 : Int32) (l8_597 : Int32) (l16_597 : Int32) (l19_629 : Int32) (l20_629 : Int32) (l21_629 : Int32) : Option ((Int32 × Int32) ⊕ Int32) :=
  if (l19_629 + l7_597) < l21_629 then
    some (.inr l20_629)
  else
    gd (inb l21_629 3500) <|
    stp (l20_629 ||| (τ_597.1 46 (Int32.toNatClampNeg l21_629))) fun x20_2 =>
    stp (l21_629 + (1 : Int32)) fun x21_3 =>
    some (.inl (x20_2, x21_3))
def fL_replacesAll_j629 (τ_597 : LawS) (l7_597 : Int32) (l8_597 : Int32) (l16_597 : Int32) (l19_629 : Int32) (l20_629 : Int32) (l21_629 : Int32) : Option (Int32 ⊕ (Unit ⊕ Unit)) :=
  bnd (loopF (fun s_629 => fL_replacesAll_b629 τ_597 l7_597 l8_597 l16_597 l19_629 s_629.1 s_629.2) FU (l20_629, l21_629)) fun r_629 =>
    if r_629 = 0 then
      some (.inr (Sum.inr ()))
    else
      fL_replacesAll_j662 τ_597 l7_597 l8_597 l16_597 l19_629
def fL_replacesAll_b597 (τ_597 : LawS) (l7_597 : Int32) (l8_597 : Int32) (l16_597 : Int32) (l19_597 : Int32) : Option (Int32 ⊕ (Unit ⊕ Unit)) :=
  if l16_597 ≤ l19_597 then
    some (.inr (Sum.inl ()))
  else
    bnd (fL_isFind τ_597 42 l19_597 l7_597 l8_597) fun p_6 =>
    if p_6 = 0 then
      fL_replacesAll_j662 τ_597 l7_597 l8_597 l16_597 l19_597
    else
      stp (0 : Int32) fun x20_4 =>
      stp l19_597 fun x21_5 =>
      fL_replacesAll_j629 τ_597 l7_597 l8_597 l16_597 l19_597 x20_4 x21_5
def fL_replacesAll_j597 (τ_597 : LawS) (l7_597 : Int32) (l8_597 : Int32) (l16_597 : Int32) (l19_597 : Int32) : Option (Int32 × LawS) :=
  bnd (loopF (fun s_597 => fL_replacesAll_b597 τ_597 l7_597 l8_597 l16_597 s_597) FU l19_597) fun r_597 =>
    match r_597 with
    | .inl r_597x =>
      some ((1 : Int32), τ_597)
    | .inr r_597y =>
      some ((0 : Int32), τ_597)
def fL_replacesAll_b557 (τ_557 : LawS) (l7_557 : Int32) (l8_557 : Int32) (l16_557 : Int32) (l19_557 : Int32) : Option ((LawS × Int32) ⊕ (LawS ⊕ LawS)) :=
  if l16_557 ≤ l19_557 then
    some (.inr (Sum.inl τ_557))
  else
    bnd (nox (f11_letterAt τ_557.2 l19_557)) fun p_10 =>
    gd (inb ((400 : Int32) + l19_557) 3500) <|
    if p_10.1 = (τ_557.1 42 (Int32.toNatClampNeg ((400 : Int32) + l19_557))) then
      stp (l19_557 + (1 : Int32)) fun x19_8 =>
      some (.inl ((τ_557.1, p_10.2), x19_8))
    else
      some (.inr (Sum.inr (τ_557.1, p_10.2)))
def fL_replacesAll_j557 (τ_557 : LawS) (l7_557 : Int32) (l8_557 : Int32) (l16_557 : Int32) (l19_557 : Int32) : Option (Int32 × LawS) :=
  bnd (loopF (fun s_557 => fL_replacesAll_b557 s_557.1 l7_557 l8_557 l16_557 s_557.2) FU (τ_557, l19_557)) fun r_557 =>
    match r_557 with
    | .inl r_557x =>
      gd (inb (0 : Int32) 3500) <|
      stp (uT r_557x 42 (Int32.toNatClampNeg (0 : Int32)) l16_557) fun τx_9 =>
      stp (0 : Int32) fun x19_10 =>
      fL_replacesAll_j597 τx_9 l7_557 l8_557 l16_557 x19_10
    | .inr r_557y =>
      some ((0 : Int32), r_557y)
def fL_replacesAll_j552 (τ_552 : LawS) : Option (Int32 × LawS) :=
  some ((0 : Int32), τ_552)
def fL_replacesAll_j545 (τ_545 : LawS) (l7_545 : Int32) (l8_545 : Int32) (l16_545 : Int32) (s0_545 : Int32) (s1_545 : Int32) (s2_545 : Int32) : Option (Int32 × LawS) :=
  bnd (fL_one s2_545) fun p_14 =>
  if s0_545 = (s1_545 + p_14) then
    stp (0 : Int32) fun x19_11 =>
    fL_replacesAll_j557 τ_545 l7_545 l8_545 l16_545 x19_11
  else
    fL_replacesAll_j552 τ_545
def fL_replacesAll_j499 (l7_352 : Int32) (l8_352 : Int32) (l13_352 : Int32) (l14_352 : Int32) (l15_352 : Int32) (τ_499 : LawS) (l17_499 : Int32) (l18_499 : Int32) (s0_499 : Int32) (s1_499 : Int32) : Option ((LawS × Int32 × Int32 × Int32) ⊕ (LawS × Int32 × Int32)) :=
  bnd (fL_one s1_499) fun p_16 =>
  stp (s0_499 + p_16) fun x16_12 =>
  stp (l17_499 + (1 : Int32)) fun x17_13 =>
  some (.inl (τ_499, x16_12, x17_13, l18_499))
def fL_replacesAll_j484 (l7_352 : Int32) (l8_352 : Int32) (l13_352 : Int32) (l14_352 : Int32) (l15_352 : Int32) (τ_484 : LawS) (l16_484 : Int32) (l17_484 : Int32) (l18_484 : Int32) : Option ((LawS × Int32 × Int32 × Int32) ⊕ (LawS × Int32 × Int32)) :=
  gd (inb (0 : Int32) 3500) <|
  if (τ_484.1 41 (Int32.toNatClampNeg (0 : Int32))) ≤ l17_484 then
    fL_replacesAll_j499 l7_352 l8_352 l13_352 l14_352 l15_352 τ_484 l17_484 l18_484 l16_484 (0 : Int32)
  else
    fL_replacesAll_j499 l7_352 l8_352 l13_352 l14_352 l15_352 τ_484 l17_484 l18_484 l16_484 (1 : Int32)
def fL_replacesAll_j460 (l7_352 : Int32) (l8_352 : Int32) (l13_352 : Int32) (l14_352 : Int32) (l15_352 : Int32) (τ_460 : LawS) (l16_460 : Int32) (l17_460 : Int32) (l18_460 : Int32) : Option ((LawS × Int32 × Int32 × Int32) ⊕ (LawS × Int32 × Int32)) :=
  gd (inb (0 : Int32) 3500) <|
  if (τ_460.1 41 (Int32.toNatClampNeg (0 : Int32))) ≤ l17_460 then
    fL_replacesAll_j484 l7_352 l8_352 l13_352 l14_352 l15_352 τ_460 l16_460 l17_460 l18_460
  else
    gd (inb ((400 : Int32) + l17_460) 3500) <|
    gd (inb ((400 : Int32) + l16_460) 3500) <|
    stp (uT τ_460 42 (Int32.toNatClampNeg ((400 : Int32) + l16_460)) (τ_460.1 41 (Int32.toNatClampNeg ((400 : Int32) + l17_460)))) fun τx_14 =>
    fL_replacesAll_j484 l7_352 l8_352 l13_352 l14_352 l15_352 τx_14 l16_460 l17_460 l18_460
def fL_replacesAll_b418 (l7_352 : Int32) (l8_352 : Int32) (l13_352 : Int32) (l14_352 : Int32) (l15_352 : Int32) (τ_418 : LawS) (l16_418 : Int32) (l17_418 : Int32) (l18_418 : Int32) (l19_418 : Int32) : Option ((LawS × Int32) ⊕ LawS) :=
  if l13_352 < l19_418 then
    some (.inr τ_418)
  else
    gd (inb (l16_418 + l19_418) 3500) <|
    stp (uT τ_418 46 (Int32.toNatClampNeg (l16_418 + l19_418)) (vp_nar .boolean (1 : Int32))) fun τx_18 =>
    stp (l19_418 + (1 : Int32)) fun x19_19 =>
    some (.inl (τx_18, x19_19))
def fL_replacesAll_j418 (l7_352 : Int32) (l8_352 : Int32) (l13_352 : Int32) (l14_352 : Int32) (l15_352 : Int32) (τ_418 : LawS) (l16_418 : Int32) (l17_418 : Int32) (l18_418 : Int32) (l19_418 : Int32) : Option ((LawS × Int32 × Int32 × Int32) ⊕ (LawS × Int32 × Int32)) :=
  bnd (loopF (fun s_418 => fL_replacesAll_b418 l7_352 l8_352 l13_352 l14_352 l15_352 s_418.1 l16_418 l17_418 l18_418 s_418.2) FU (τ_418, l19_418)) fun r_418 =>
    stp (l16_418 + l13_352) fun x16_20 =>
    stp (l17_418 + l7_352) fun x17_21 =>
    stp (l18_418 + (1 : Int32)) fun x18_22 =>
    some (.inl (r_418, x16_20, x17_21, x18_22))
def fL_replacesAll_b386 (l7_352 : Int32) (l8_352 : Int32) (l13_352 : Int32) (l14_352 : Int32) (l15_352 : Int32) (τ_386 : LawS) (l16_386 : Int32) (l17_386 : Int32) (l18_386 : Int32) (l19_386 : Int32) : Option ((LawS × Int32) ⊕ LawS) :=
  if l13_352 ≤ l19_386 then
    some (.inr τ_386)
  else
    gd (inb l19_386 40) <|
    gd (inb (((400 : Int32) + l16_386) + l19_386) 3500) <|
    stp (uT τ_386 42 (Int32.toNatClampNeg (((400 : Int32) + l16_386) + l19_386)) (τ_386.1 43 (Int32.toNatClampNeg l19_386))) fun τx_24 =>
    stp (l19_386 + (1 : Int32)) fun x19_25 =>
    some (.inl (τx_24, x19_25))
def fL_replacesAll_j386 (l7_352 : Int32) (l8_352 : Int32) (l13_352 : Int32) (l14_352 : Int32) (l15_352 : Int32) (τ_386 : LawS) (l16_386 : Int32) (l17_386 : Int32) (l18_386 : Int32) (l19_386 : Int32) : Option ((LawS × Int32 × Int32 × Int32) ⊕ (LawS × Int32 × Int32)) :=
  bnd (loopF (fun s_386 => fL_replacesAll_b386 l7_352 l8_352 l13_352 l14_352 l15_352 s_386.1 l16_386 l17_386 l18_386 s_386.2) FU (τ_386, l19_386)) fun r_386 =>
    stp (0 : Int32) fun x19_26 =>
    fL_replacesAll_j418 l7_352 l8_352 l13_352 l14_352 l15_352 r_386 l16_386 l17_386 l18_386 x19_26
def fL_replacesAll_b352 (τ_352 : LawS) (l7_352 : Int32) (l8_352 : Int32) (l13_352 : Int32) (l14_352 : Int32) (l15_352 : Int32) (l16_352 : Int32) (l17_352 : Int32) (l18_352 : Int32) : Option ((LawS × Int32 × Int32 × Int32) ⊕ (LawS × Int32 × Int32)) :=
  gd (inb (0 : Int32) 3500) <|
  if (τ_352.1 41 (Int32.toNatClampNeg (0 : Int32))) < l17_352 then
    some (.inr (τ_352, l16_352, l18_352))
  else
    gd (inb (0 : Int32) 3500) <|
    if (τ_352.1 41 (Int32.toNatClampNeg (0 : Int32))) ≤ l17_352 then
      fL_replacesAll_j460 l7_352 l8_352 l13_352 l14_352 l15_352 τ_352 l16_352 l17_352 l18_352
    else
      bnd (fL_isFind τ_352 41 l17_352 l7_352 l8_352) fun p_37 =>
      if p_37 = 0 then
        fL_replacesAll_j460 l7_352 l8_352 l13_352 l14_352 l15_352 τ_352 l16_352 l17_352 l18_352
      else
        stp (0 : Int32) fun x19_27 =>
        fL_replacesAll_j386 l7_352 l8_352 l13_352 l14_352 l15_352 τ_352 l16_352 l17_352 l18_352 x19_27
def fL_replacesAll_j352 (τ_352 : LawS) (l7_352 : Int32) (l8_352 : Int32) (l13_352 : Int32) (l14_352 : Int32) (l15_352 : Int32) (l16_352 : Int32) (l17_352 : Int32) (l18_352 : Int32) : Option (Int32 × LawS) :=
  bnd (loopF (fun s_352 => fL_replacesAll_b352 s_352.1 l7_352 l8_352 l13_352 l14_352 l15_352 s_352.2.1 s_352.2.2.1 s_352.2.2.2) FU (τ_352, l16_352, l17_352, l18_352)) fun r_352 =>
    if l15_352 = r_352.2.2 then
      bnd (nox (f11_count r_352.1.2 (0 : Int32))) fun p_40 =>
      if p_40.1 = r_352.2.1 then
        bnd (nox (f11_acts p_40.2 (1 : Int32))) fun p_42 =>
        if r_352.2.2 ≤ 0 then
          fL_replacesAll_j545 (r_352.1.1, p_42.2) l7_352 l8_352 r_352.2.1 p_42.1 l14_352 (0 : Int32)
        else
          fL_replacesAll_j545 (r_352.1.1, p_42.2) l7_352 l8_352 r_352.2.1 p_42.1 l14_352 (1 : Int32)
      else
        fL_replacesAll_j552 (r_352.1.1, p_40.2)
    else
      fL_replacesAll_j552 r_352.1
def fL_replacesAll_b332 (τ_332 : LawS) (l7_332 : Int32) (l8_332 : Int32) (l13_332 : Int32) (l14_332 : Int32) (l15_332 : Int32) (l16_332 : Int32) (l17_332 : Int32) (l18_332 : Int32) (l19_332 : Int32) : Option ((LawS × Int32) ⊕ LawS) :=
  if (3500 : Int32) ≤ l19_332 then
    some (.inr τ_332)
  else
    gd (inb l19_332 3500) <|
    stp (uT τ_332 46 (Int32.toNatClampNeg l19_332) (vp_nar .boolean (0 : Int32))) fun τx_28 =>
    stp (l19_332 + (1 : Int32)) fun x19_29 =>
    some (.inl (τx_28, x19_29))
def fL_replacesAll_j332 (τ_332 : LawS) (l7_332 : Int32) (l8_332 : Int32) (l13_332 : Int32) (l14_332 : Int32) (l15_332 : Int32) (l16_332 : Int32) (l17_332 : Int32) (l18_332 : Int32) (l19_332 : Int32) : Option (Int32 × LawS) :=
  bnd (loopF (fun s_332 => fL_replacesAll_b332 s_332.1 l7_332 l8_332 l13_332 l14_332 l15_332 l16_332 l17_332 l18_332 s_332.2) FU (τ_332, l19_332)) fun r_332 =>
    fL_replacesAll_j352 r_332 l7_332 l8_332 l13_332 l14_332 l15_332 l16_332 l17_332 l18_332
def fL_replacesAll_j265 (τ_265 : LawS) : Option (Int32 × LawS) :=
  some ((0 : Int32), τ_265)
def fL_replacesAll_j247 (τ_247 : LawS) (l7_247 : Int32) (l8_247 : Int32) (l10_247 : Int32) (l12_247 : Int32) (s0_247 : Int32) (s1_247 : Int32) : Option (Int32 × LawS) :=
  if s0_247 = s1_247 then
    bnd (fL_done τ_247 (23 : Int32) l10_247 (0 : Int32) (0 : Int32)) fun p_47 =>
    if p_47.1 = l12_247 then
      bnd (fL_draws p_47.2) fun p_49 =>
      stp p_49.1 fun x13_30 =>
      bnd (fL_feeds p_49.2 43 x13_30) fun p_50 =>
      if p_50.1 = 0 then
        some ((0 : Int32), p_50.2)
      else
        bnd (nox (f11_acts p_50.2.2 (1 : Int32))) fun p_52 =>
        stp p_52.1 fun x14_31 =>
        bnd (fL_done (p_50.2.1, p_52.2) (9 : Int32) (0 : Int32) (0 : Int32) (0 : Int32)) fun p_53 =>
        stp p_53.1 fun x15_32 =>
        if x15_32 = (-1000003 : Int32) then
          bnd (fL_isLike p_53.2 41) fun p_55 =>
          gd (isB p_55.1) <|
          some (p_55.1, p_55.2)
        else
          stp (0 : Int32) fun x16_33 =>
          stp (0 : Int32) fun x17_34 =>
          stp (0 : Int32) fun x18_35 =>
          stp (0 : Int32) fun x19_36 =>
          fL_replacesAll_j332 p_53.2 l7_247 l8_247 x13_30 x14_31 x15_32 x16_33 x17_34 x18_35 x19_36
    else
      fL_replacesAll_j265 p_47.2
  else
    fL_replacesAll_j265 τ_247
def fL_replacesAll_j223 (τ_223 : LawS) (l7_223 : Int32) (l8_223 : Int32) (l10_223 : Int32) (l11_223 : Int32) (l12_223 : Int32) : Option (Int32 × LawS) :=
  bnd (fL_done τ_223 (23 : Int32) l10_223 (1 : Int32) (0 : Int32)) fun p_57 =>
  gd (inb (0 : Int32) 3500) <|
  if (p_57.2.1 41 (Int32.toNatClampNeg (0 : Int32))) ≤ l11_223 then
    fL_replacesAll_j247 p_57.2 l7_223 l8_223 l10_223 l12_223 p_57.1 (-1 : Int32)
  else
    fL_replacesAll_j247 p_57.2 l7_223 l8_223 l10_223 l12_223 p_57.1 l11_223
def fL_replacesAll_b197 (τ_197 : LawS) (l7_197 : Int32) (l8_197 : Int32) (l10_197 : Int32) (l11_197 : Int32) (l12_197 : Int32) : Option (Int32 ⊕ Int32) :=
  if l12_197 < 0 then
    some (.inr l12_197)
  else
    bnd (fL_isFind τ_197 41 l12_197 l7_197 l8_197) fun p_61 =>
    if p_61 = 0 then
      stp (l12_197 + (-1 : Int32)) fun x12_37 =>
      some (.inl x12_37)
    else
      some (.inr l12_197)
def fL_replacesAll_j197 (τ_197 : LawS) (l7_197 : Int32) (l8_197 : Int32) (l10_197 : Int32) (l11_197 : Int32) (l12_197 : Int32) : Option (Int32 × LawS) :=
  bnd (loopF (fun s_197 => fL_replacesAll_b197 τ_197 l7_197 l8_197 l10_197 l11_197 s_197) FU l12_197) fun r_197 =>
    fL_replacesAll_j223 τ_197 l7_197 l8_197 l10_197 l11_197 r_197
def fL_replacesAll_j191 (τ_191 : LawS) (l7_191 : Int32) (l8_191 : Int32) (l10_191 : Int32) (l11_191 : Int32) : Option (Int32 × LawS) :=
  stp (l10_191 - (1 : Int32)) fun x12_38 =>
  fL_replacesAll_j197 τ_191 l7_191 l8_191 l10_191 l11_191 x12_38
def fL_replacesAll_b162 (τ_162 : LawS) (l7_162 : Int32) (l8_162 : Int32) (l10_162 : Int32) (l11_162 : Int32) : Option (Int32 ⊕ Int32) :=
  gd (inb (0 : Int32) 3500) <|
  if (τ_162.1 41 (Int32.toNatClampNeg (0 : Int32))) ≤ l11_162 then
    some (.inr l11_162)
  else
    bnd (fL_isFind τ_162 41 l11_162 l7_162 l8_162) fun p_65 =>
    if p_65 = 0 then
      stp (l11_162 + (1 : Int32)) fun x11_39 =>
      some (.inl x11_39)
    else
      some (.inr l11_162)
def fL_replacesAll_j162 (τ_162 : LawS) (l7_162 : Int32) (l8_162 : Int32) (l10_162 : Int32) (l11_162 : Int32) : Option (Int32 × LawS) :=
  bnd (loopF (fun s_162 => fL_replacesAll_b162 τ_162 l7_162 l8_162 l10_162 s_162) FU l11_162) fun r_162 =>
    fL_replacesAll_j191 τ_162 l7_162 l8_162 l10_162 r_162
def fL_replacesAll_b92 (τ_92 : LawS) (l7_92 : Int32) (l8_92 : Int32) (l9_92 : Int32) (l10_92 : Int32) : Option ((Int32 × Int32) ⊕ Int32) :=
  gd (inb (0 : Int32) 3500) <|
  if (τ_92.1 41 (Int32.toNatClampNeg (0 : Int32))) ≤ l10_92 then
    some (.inr l9_92)
  else
    bnd (fL_isFind τ_92 41 l10_92 l7_92 l8_92) fun p_75 =>
    bnd (fL_one p_75) fun p_76 =>
    stp (l9_92 + p_76) fun x9_42 =>
    stp (l10_92 + (1 : Int32)) fun x10_43 =>
    some (.inl (x9_42, x10_43))
def fL_replacesAll_j92 (τ_92 : LawS) (l7_92 : Int32) (l8_92 : Int32) (l9_92 : Int32) (l10_92 : Int32) : Option (Int32 × LawS) :=
  bnd (loopF (fun s_92 => fL_replacesAll_b92 τ_92 l7_92 l8_92 s_92.1 s_92.2) FU (l9_92, l10_92)) fun r_92 =>
    bnd (fL_one l8_92) fun p_77 =>
    bnd (fL_done τ_92 (22 : Int32) p_77 (0 : Int32) (0 : Int32)) fun p_78 =>
    if p_78.1 = r_92 then
      bnd (fL_next p_78.2) fun p_80 =>
      gd (inb (0 : Int32) 3500) <|
      gd (nz ((p_80.2.1 41 (Int32.toNatClampNeg (0 : Int32))) + (1 : Int32))) <|
      stp (p_80.1 - p_80.1 / ((p_80.2.1 41 (Int32.toNatClampNeg (0 : Int32))) + (1 : Int32)) * ((p_80.2.1 41 (Int32.toNatClampNeg (0 : Int32))) + (1 : Int32))) fun x10_44 =>
      stp x10_44 fun x11_45 =>
      fL_replacesAll_j162 p_80.2 l7_92 l8_92 x10_44 x11_45
    else
      some ((0 : Int32), p_78.2)
def fL_replacesAll_j71 (τ_71 : LawS) (l7_71 : Int32) (s0_71 : Int32) : Option (Int32 × LawS) :=
  stp s0_71 fun x8_46 =>
  bnd (fL_feeds τ_71 44 l7_71) fun p_83 =>
  if p_83.1 = 0 then
    some ((0 : Int32), p_83.2)
  else
    stp (0 : Int32) fun x9_47 =>
    stp (0 : Int32) fun x10_48 =>
    fL_replacesAll_j92 p_83.2 l7_71 x8_46 x9_47 x10_48
def fL_replacesAll_j50 (l7_16 : Int32) (τ_50 : LawS) (l8_50 : Int32) (s1_50 : Int32) (s2_50 : Int32) : Option ((LawS × Int32) ⊕ LawS) :=
  gd (inb s1_50 8) <|
  stp (uT τ_50 44 (Int32.toNatClampNeg s1_50) s2_50) fun τx_49 =>
  stp (l8_50 + (1 : Int32)) fun x8_50 =>
  some (.inl (τx_49, x8_50))
def fL_replacesAll_b16 (τ_16 : LawS) (l7_16 : Int32) (l8_16 : Int32) : Option ((LawS × Int32) ⊕ LawS) :=
  if l7_16 ≤ l8_16 then
    some (.inr τ_16)
  else
    bnd (fL_next τ_16) fun p_89 =>
    if (p_89.1 - p_89.1 / (5 : Int32) * (5 : Int32)) = 0 then
      fL_replacesAll_j50 l7_16 p_89.2 l8_16 l8_16 (32 : Int32)
    else
      bnd (fL_next p_89.2) fun p_91 =>
      fL_replacesAll_j50 l7_16 p_91.2 l8_16 l8_16 ((97 : Int32) + (p_91.1 - p_91.1 / (2 : Int32) * (2 : Int32)))
def fL_replacesAll_j16 (τ_16 : LawS) (l7_16 : Int32) (l8_16 : Int32) : Option (Int32 × LawS) :=
  bnd (loopF (fun s_16 => fL_replacesAll_b16 s_16.1 l7_16 s_16.2) FU (τ_16, l8_16)) fun r_16 =>
    bnd (fL_next r_16) fun p_92 =>
    if (p_92.1 - p_92.1 / (4 : Int32) * (4 : Int32)) = 0 then
      fL_replacesAll_j71 p_92.2 l7_16 (1 : Int32)
    else
      fL_replacesAll_j71 p_92.2 l7_16 (0 : Int32)
def fL_replacesAll (τ : LawS) : Option (Int32 × LawS) :=
  bnd (fL_sees τ 41) fun p_94 =>
  bnd (fL_from p_94 (1 : Int32) (3 : Int32)) fun p_95 =>
  stp p_95.1 fun x7_51 =>
  stp (0 : Int32) fun x8_52 =>
  fL_replacesAll_j16 p_95.2 x7_51 x8_52
def fL_acts_j351 (τ_351 : LawS) (s0_351 : Int32) : Option (Int32 × LawS) :=
  some (s0_351, τ_351)
def fL_acts_j338 (τ_338 : LawS) : Option (Int32 × LawS) :=
  fL_acts_j351 τ_338 (0 : Int32)
def fL_acts_j258 (τ_258 : LawS) (s1_258 : Int32) (s2_258 : Int32) (s3_258 : Int32) (s4_258 : Int32) : Option (Int32 × LawS) :=
  bnd (fL_done τ_258 s1_258 s2_258 s3_258 s4_258) fun p_1 =>
  some (p_1.1, p_1.2)
def fL_acts_j220 (τ_220 : LawS) (l3_220 : Int32) (l6_220 : Int32) (l7_220 : Int32) : Option (Int32 × LawS) :=
  if l3_220 = (5 : Int32) then
    bnd (fL_next τ_220) fun p_17 =>
    if (p_17.1 - p_17.1 / (2 : Int32) * (2 : Int32)) = 0 then
      bnd (fL_from p_17.2 (1 : Int32) (8 : Int32)) fun p_20 =>
      fL_acts_j258 p_20.2 (5 : Int32) l6_220 l7_220 p_20.1
    else
      bnd (fL_from p_17.2 (1 : Int32) (8 : Int32)) fun p_19 =>
      fL_acts_j258 p_19.2 (5 : Int32) l6_220 l7_220 (-p_19.1)
  else
    if l3_220 = (6 : Int32) then
      bnd (fL_from τ_220 (1 : Int32) (9 : Int32)) fun p_15 =>
      bnd (fL_done p_15.2 (6 : Int32) l6_220 p_15.1 (0 : Int32)) fun p_16 =>
      some (p_16.1, p_16.2)
    else
      if l3_220 = (7 : Int32) then
        bnd (fL_done τ_220 (7 : Int32) l6_220 l7_220 (0 : Int32)) fun p_14 =>
        some (p_14.1, p_14.2)
      else
        if l3_220 = (8 : Int32) then
          bnd (nox (f11_count τ_220.2 (5 : Int32))) fun p_7 =>
          if p_7.1 = 0 then
            fL_acts_j338 (τ_220.1, p_7.2)
          else
            bnd (nox (f11_count p_7.2 (5 : Int32))) fun p_9 =>
            if (3 : Int32) < p_9.1 then
              fL_acts_j338 (τ_220.1, p_9.2)
            else
              bnd (fL_done (τ_220.1, p_9.2) (22 : Int32) (0 : Int32) (0 : Int32) (0 : Int32)) fun p_11 =>
              if 0 ≤ p_11.1 then
                bnd (fL_done p_11.2 (8 : Int32) (0 : Int32) (0 : Int32) (0 : Int32)) fun p_13 =>
                fL_acts_j351 p_13.2 p_13.1
              else
                fL_acts_j338 p_11.2
        else
          bnd (fL_done τ_220 l3_220 (0 : Int32) (0 : Int32) (0 : Int32)) fun p_6 =>
          some (p_6.1, p_6.2)
def fL_acts_j219 (τ_219 : LawS) (s0_219 : Int32) : Option (Int32 × LawS) :=
  some (s0_219, τ_219)
def fL_acts_j89 (τ_89 : LawS) (l3_89 : Int32) (l4_89 : Int32) (l6_89 : Int32) (l7_89 : Int32) (l8_89 : Int32) : Option (Int32 × LawS) :=
  if l3_89 = (1 : Int32) then
    bnd (fL_from τ_89 (-6 : Int32) (6 : Int32)) fun p_35 =>
    bnd (fL_done p_35.2 (1 : Int32) p_35.1 (0 : Int32) (0 : Int32)) fun p_36 =>
    some (p_36.1, p_36.2)
  else
    if l3_89 = (2 : Int32) then
      bnd (fL_next τ_89) fun p_33 =>
      bnd (fL_done p_33.2 (2 : Int32) l8_89 (imin l4_89 (l8_89 + (p_33.1 - p_33.1 / (5 : Int32) * (5 : Int32)))) (0 : Int32)) fun p_34 =>
      some (p_34.1, p_34.2)
    else
      if l3_89 = (3 : Int32) then
        bnd (fL_next τ_89) fun p_31 =>
        bnd (fL_done p_31.2 (3 : Int32) l8_89 (imin l4_89 (l8_89 + (p_31.1 - p_31.1 / (9 : Int32) * (9 : Int32)))) (0 : Int32)) fun p_32 =>
        some (p_32.1, p_32.2)
      else
        if l3_89 = (4 : Int32) then
          bnd (fL_next τ_89) fun p_25 =>
          if (p_25.1 - p_25.1 / (2 : Int32) * (2 : Int32)) = 0 then
            bnd (fL_next p_25.2) fun p_27 =>
            bnd (fL_done p_27.2 (25 : Int32) l6_89 ((l7_89 - l6_89) + (1 : Int32)) (p_27.1 - p_27.1 / (7 : Int32) * (7 : Int32))) fun p_28 =>
            if 0 ≤ p_28.1 then
              bnd (fL_done p_28.2 (4 : Int32) (0 : Int32) (0 : Int32) (0 : Int32)) fun p_30 =>
              fL_acts_j219 p_30.2 p_30.1
            else
              fL_acts_j219 p_28.2 (-1000009 : Int32)
          else
            fL_acts_j220 p_25.2 l3_89 l6_89 l7_89
        else
          fL_acts_j220 τ_89 l3_89 l6_89 l7_89
def fL_acts_j69 (τ_69 : LawS) (l3_69 : Int32) (l4_69 : Int32) (l6_69 : Int32) (l7_69 : Int32) (l8_69 : Int32) : Option (Int32 × LawS) :=
  bnd (fL_draws τ_69) fun p_37 =>
  stp p_37.1 fun x9_1 =>
  bnd (fL_feeds p_37.2 43 x9_1) fun p_38 =>
  if p_38.1 = 0 then
    some ((-1000009 : Int32), p_38.2)
  else
    fL_acts_j89 p_38.2 l3_69 l4_69 l6_69 l7_69 l8_69
def fL_acts (τ : LawS) : Option (Int32 × LawS) :=
  bnd (fL_next τ) fun p_40 =>
  stp (p_40.1 - p_40.1 / (9 : Int32) * (9 : Int32)) fun x3_2 =>
  bnd (nox (f11_count p_40.2.2 (0 : Int32))) fun p_41 =>
  stp p_41.1 fun x4_3 =>
  bnd (nox (f11_count p_41.2 (1 : Int32))) fun p_42 =>
  stp p_42.1 fun x5_4 =>
  bnd (fL_next (p_40.2.1, p_42.2)) fun p_43 =>
  gd (nz x5_4) <|
  stp (p_43.1 - p_43.1 / x5_4 * x5_4) fun x6_5 =>
  bnd (fL_next p_43.2) fun p_45 =>
  stp (imin (x5_4 - (1 : Int32)) (x6_5 + (p_45.1 - p_45.1 / (4 : Int32) * (4 : Int32)))) fun x7_6 =>
  bnd (fL_next p_45.2) fun p_46 =>
  gd (nz (x4_3 + (1 : Int32))) <|
  stp (p_46.1 - p_46.1 / (x4_3 + (1 : Int32)) * (x4_3 + (1 : Int32))) fun x8_7 =>
  if x3_2 = 0 then
    fL_acts_j69 p_46.2 x3_2 x4_3 x6_5 x7_6 x8_7
  else
    if x3_2 = (2 : Int32) then
      fL_acts_j69 p_46.2 x3_2 x4_3 x6_5 x7_6 x8_7
    else
      fL_acts_j89 p_46.2 x3_2 x4_3 x6_5 x7_6 x8_7
def fL_moves_j461 (τ_461 : LawS) (s0_461 : Int32) : Option (Int32 × LawS) :=
  gd (isB s0_461) <|
  some (s0_461, τ_461)
def fL_moves_j460 (τ_460 : LawS) : Option (Int32 × LawS) :=
  fL_moves_j461 τ_460 (0 : Int32)
def fL_moves_j429 (τ_429 : LawS) (l7_429 : Int32) (l9_429 : Int32) (l10_429 : Int32) (l11_429 : Int32) (s0_429 : Int32) : Option (Int32 × LawS) :=
  if s0_429 = l10_429 then
    bnd (nox (f11_count τ_429.2 (4 : Int32))) fun p_3 =>
    if p_3.1 = (l9_429 - l11_429) then
      bnd (nox (f11_isHidden p_3.2 l7_429)) fun p_5 =>
      if p_5.1 = 0 then
        fL_moves_j461 (τ_429.1, p_5.2) (1 : Int32)
      else
        fL_moves_j460 (τ_429.1, p_5.2)
    else
      fL_moves_j460 (τ_429.1, p_3.2)
  else
    fL_moves_j460 τ_429
def fL_moves_j393 (τ_393 : LawS) (s0_393 : Int32) : Option (Int32 × LawS) :=
  gd (isB s0_393) <|
  some (s0_393, τ_393)
def fL_moves_j392 (τ_392 : LawS) : Option (Int32 × LawS) :=
  fL_moves_j393 τ_392 (0 : Int32)
def fL_moves_j276 (τ_276 : LawS) (s0_276 : Int32) : Option (Int32 × LawS) :=
  gd (isB s0_276) <|
  some (s0_276, τ_276)
def fL_moves_j275 (τ_275 : LawS) : Option (Int32 × LawS) :=
  fL_moves_j276 τ_275 (0 : Int32)
def fL_moves_j224 (τ_224 : LawS) (l6_224 : Int32) (l7_224 : Int32) (s0_224 : Int32) : Option (Int32 × LawS) :=
  stp s0_224 fun x8_1 =>
  bnd (nox (f11_markAt τ_224.2 l7_224)) fun p_9 =>
  stp p_9.1 fun x9_2 =>
  gd (inb l7_224 16) <|
  stp (uT (τ_224.1, p_9.2) 45 (Int32.toNatClampNeg l7_224) (vp_nar .boolean x8_1)) fun τx_3 =>
  bnd (fL_one x8_1) fun p_11 =>
  bnd (fL_done τx_3 (17 : Int32) l7_224 l6_224 p_11) fun p_12 =>
  if p_12.1 = x9_2 then
    bnd (nox (f11_markAt p_12.2.2 l7_224)) fun p_14 =>
    if p_14.1 = l6_224 then
      fL_moves_j276 (p_12.2.1, p_14.2) (1 : Int32)
    else
      fL_moves_j275 (p_12.2.1, p_14.2)
  else
    fL_moves_j275 p_12.2
def fL_moves_j194 (τ_194 : LawS) (s0_194 : Int32) : Option (Int32 × LawS) :=
  gd (isB s0_194) <|
  some (s0_194, τ_194)
def fL_moves_j154 (τ_154 : LawS) (s0_154 : Int32) : Option (Int32 × LawS) :=
  gd (isB s0_154) <|
  some (s0_154, τ_154)
def fL_moves_j153 (τ_153 : LawS) : Option (Int32 × LawS) :=
  fL_moves_j154 τ_153 (0 : Int32)
def fL_moves_j75 (τ_75 : LawS) (s0_75 : Int32) : Option (Int32 × LawS) :=
  gd (isB s0_75) <|
  some (s0_75, τ_75)
def fL_moves_j74 (τ_74 : LawS) : Option (Int32 × LawS) :=
  fL_moves_j75 τ_74 (0 : Int32)
def fL_moves (τ : LawS) : Option (Int32 × LawS) :=
  bnd (nox (f11_count τ.2 (0 : Int32))) fun p_19 =>
  stp p_19.1 fun x3_4 =>
  bnd (nox (f11_count p_19.2 (1 : Int32))) fun p_20 =>
  stp p_20.1 fun x4_5 =>
  bnd (fL_next (τ.1, p_20.2)) fun p_21 =>
  stp (p_21.1 - p_21.1 / (6 : Int32) * (6 : Int32)) fun x5_6 =>
  bnd (fL_next p_21.2) fun p_22 =>
  gd (nz (x3_4 + (1 : Int32))) <|
  stp (p_22.1 - p_22.1 / (x3_4 + (1 : Int32)) * (x3_4 + (1 : Int32))) fun x6_7 =>
  if x5_6 = 0 then
    bnd (fL_done p_22.2 (14 : Int32) x6_7 (0 : Int32) (0 : Int32)) fun p_63 =>
    if p_63.1 < (1 : Int32) then
      fL_moves_j74 p_63.2
    else
      bnd (nox (f11_count p_63.2.2 (2 : Int32))) fun p_65 =>
      if p_65.1 = (1 : Int32) then
        bnd (nox (f11_cursorAt p_65.2 (0 : Int32))) fun p_67 =>
        if p_67.1 = x6_7 then
          fL_moves_j75 (p_63.2.1, p_67.2) (1 : Int32)
        else
          fL_moves_j74 (p_63.2.1, p_67.2)
      else
        fL_moves_j74 (p_63.2.1, p_65.2)
  else
    if x5_6 = (1 : Int32) then
      bnd (nox (f11_count p_22.2.2 (2 : Int32))) fun p_55 =>
      stp p_55.1 fun x7_15 =>
      bnd (fL_done (p_22.2.1, p_55.2) (15 : Int32) x6_7 (0 : Int32) (0 : Int32)) fun p_56 =>
      stp p_56.1 fun x8_16 =>
      if x8_16 = (-1000003 : Int32) then
        if x7_15 = (8 : Int32) then
          fL_moves_j154 p_56.2 (1 : Int32)
        else
          fL_moves_j154 p_56.2 (0 : Int32)
      else
        bnd (nox (f11_count p_56.2.2 (2 : Int32))) fun p_58 =>
        if x8_16 = p_58.1 then
          if x8_16 < x7_15 then
            fL_moves_j153 (p_56.2.1, p_58.2)
          else
            if (x7_15 + (1 : Int32)) < x8_16 then
              fL_moves_j153 (p_56.2.1, p_58.2)
            else
              fL_moves_j154 (p_56.2.1, p_58.2) (1 : Int32)
        else
          fL_moves_j153 (p_56.2.1, p_58.2)
    else
      if x5_6 = (2 : Int32) then
        bnd (fL_next p_22.2) fun p_50 =>
        bnd (fL_from p_50.2 (-4 : Int32) (4 : Int32)) fun p_51 =>
        bnd (fL_done p_51.2 (16 : Int32) (p_50.1 - p_50.1 / (5 : Int32) * (5 : Int32)) p_51.1 (0 : Int32)) fun p_52 =>
        bnd (nox (f11_count p_52.2.2 (2 : Int32))) fun p_53 =>
        if p_52.1 = p_53.1 then
          fL_moves_j194 (p_52.2.1, p_53.2) (1 : Int32)
        else
          fL_moves_j194 (p_52.2.1, p_53.2) (0 : Int32)
      else
        if x5_6 = (3 : Int32) then
          bnd (fL_next p_22.2) fun p_47 =>
          stp (p_47.1 - p_47.1 / (16 : Int32) * (16 : Int32)) fun x7_14 =>
          bnd (fL_next p_47.2) fun p_48 =>
          if (p_48.1 - p_48.1 / (2 : Int32) * (2 : Int32)) = 0 then
            fL_moves_j224 p_48.2 x6_7 x7_14 (1 : Int32)
          else
            fL_moves_j224 p_48.2 x6_7 x7_14 (0 : Int32)
        else
          bnd (fL_next p_22.2) fun p_28 =>
          gd (nz x4_5) <|
          stp (p_28.1 - p_28.1 / x4_5 * x4_5) fun x7_8 =>
          bnd (fL_next p_28.2) fun p_30 =>
          gd (nz x4_5) <|
          stp (p_30.1 - p_30.1 / x4_5 * x4_5) fun x8_9 =>
          bnd (nox (f11_count p_30.2.2 (4 : Int32))) fun p_32 =>
          stp p_32.1 fun x9_10 =>
          if x5_6 = (4 : Int32) then
            bnd (fL_done (p_30.2.1, p_32.2) (19 : Int32) x7_8 x8_9 (0 : Int32)) fun p_38 =>
            stp p_38.1 fun x10_13 =>
            if x7_8 < x8_9 then
              if x10_13 = (-1000003 : Int32) then
                bnd (nox (f11_count p_38.2.2 (4 : Int32))) fun p_44 =>
                if p_44.1 = x9_10 then
                  fL_moves_j393 (p_38.2.1, p_44.2) (1 : Int32)
                else
                  fL_moves_j393 (p_38.2.1, p_44.2) (0 : Int32)
              else
                bnd (nox (f11_count p_38.2.2 (4 : Int32))) fun p_41 =>
                if x10_13 = p_41.1 then
                  if x10_13 < (x8_9 - x7_8) then
                    fL_moves_j392 (p_38.2.1, p_41.2)
                  else
                    fL_moves_j393 (p_38.2.1, p_41.2) (1 : Int32)
                else
                  fL_moves_j392 (p_38.2.1, p_41.2)
            else
              if x10_13 = (-1000002 : Int32) then
                fL_moves_j393 p_38.2 (1 : Int32)
              else
                fL_moves_j393 p_38.2 (0 : Int32)
          else
            bnd (nox (f11_isHidden p_32.2 x7_8)) fun p_34 =>
            stp p_34.1 fun x10_11 =>
            bnd (fL_done (p_30.2.1, p_34.2) (20 : Int32) x7_8 (0 : Int32) (0 : Int32)) fun p_35 =>
            stp p_35.1 fun x11_12 =>
            if x11_12 < 0 then
              fL_moves_j460 p_35.2
            else
              if x11_12 ≤ 0 then
                fL_moves_j429 p_35.2 x7_8 x9_10 x10_11 x11_12 (0 : Int32)
              else
                fL_moves_j429 p_35.2 x7_8 x9_10 x10_11 x11_12 (1 : Int32)
def fL_goesBack_j416 (τ_416 : LawS) (s0_416 : Int32) : Option (Int32 × LawS) :=
  gd (isB s0_416) <|
  some (s0_416, τ_416)
def fL_goesBack_j415 (τ_415 : LawS) : Option (Int32 × LawS) :=
  fL_goesBack_j416 τ_415 (0 : Int32)
def fL_goesBack_j411 (τ_411 : LawS) : Option (Int32 × LawS) :=
  fL_goesBack_j416 τ_411 (1 : Int32)
def fL_goesBack_j341 (τ_341 : LawS) : Option (Int32 × LawS) :=
  some ((0 : Int32), τ_341)
def fL_goesBack_b306 (τ_306 : LawS) (l8_306 : Int32) (l9_306 : Int32) : Option ((LawS × Int32) ⊕ (LawS ⊕ LawS)) :=
  if l8_306 < l9_306 then
    some (.inr (Sum.inl τ_306))
  else
    bnd (fL_done τ_306 (11 : Int32) (1 : Int32) (0 : Int32) (0 : Int32)) fun p_13 =>
    if p_13.1 = (1 : Int32) then
      gd (inb ((20 : Int32) + l9_306) 41) <|
      bnd (fL_isLike p_13.2 (2 + Int32.toNatClampNeg ((20 : Int32) + l9_306))) fun p_16 =>
      if p_16.1 = 0 then
        some (.inr (Sum.inr p_16.2))
      else
        stp (l9_306 + (1 : Int32)) fun x9_1 =>
        some (.inl (p_16.2, x9_1))
    else
      some (.inr (Sum.inr p_13.2))
def fL_goesBack_j306 (τ_306 : LawS) (l8_306 : Int32) (l9_306 : Int32) : Option (Int32 × LawS) :=
  bnd (loopF (fun s_306 => fL_goesBack_b306 s_306.1 l8_306 s_306.2) 11 (τ_306, l9_306)) fun r_306 =>
    match r_306 with
    | .inl r_306x =>
      if l8_306 = 0 then
        fL_goesBack_j411 r_306x
      else
        bnd (fL_done r_306x (10 : Int32) l8_306 (0 : Int32) (0 : Int32)) fun p_19 =>
        if p_19.1 = l8_306 then
          bnd (fL_isLike p_19.2 22) fun p_21 =>
          if p_21.1 = 0 then
            fL_goesBack_j415 p_21.2
          else
            bnd (fL_done p_21.2 (11 : Int32) l8_306 (0 : Int32) (0 : Int32)) fun p_23 =>
            if p_23.1 = l8_306 then
              gd (inb ((20 : Int32) + l8_306) 41) <|
              bnd (fL_isLike p_23.2 (2 + Int32.toNatClampNeg ((20 : Int32) + l8_306))) fun p_26 =>
              if p_26.1 = 0 then
                fL_goesBack_j415 p_26.2
              else
                fL_goesBack_j411 p_26.2
            else
              fL_goesBack_j415 p_23.2
        else
          fL_goesBack_j415 p_19.2
    | .inr r_306y =>
      fL_goesBack_j341 r_306y
def fL_goesBack_j295 (τ_295 : LawS) : Option (Int32 × LawS) :=
  some ((0 : Int32), τ_295)
def fL_goesBack_j250 (τ_250 : LawS) : Option (Int32 × LawS) :=
  some ((0 : Int32), τ_250)
def fL_goesBack_b218 (τ_218 : LawS) (l6_218 : Int32) (l8_218 : Int32) (l9_218 : Int32) : Option ((LawS × Int32) ⊕ (LawS ⊕ (LawS ⊕ LawS))) :=
  if l9_218 ≤ 0 then
    some (.inr (Sum.inl τ_218))
  else
    bnd (fL_done τ_218 (10 : Int32) (1 : Int32) (0 : Int32) (0 : Int32)) fun p_29 =>
    if p_29.1 = (1 : Int32) then
      gd (inb (l9_218 - (1 : Int32)) 41) <|
      bnd (fL_isLike p_29.2 (2 + Int32.toNatClampNeg (l9_218 - (1 : Int32)))) fun p_32 =>
      if p_32.1 = 0 then
        some (.inr (Sum.inr (Sum.inl p_32.2)))
      else
        gd (inb (((20 : Int32) + l9_218) - (1 : Int32)) 41) <|
        bnd (fL_sees p_32.2 (2 + Int32.toNatClampNeg (((20 : Int32) + l9_218) - (1 : Int32)))) fun p_35 =>
        bnd (nox (f11_acts p_35.2 (1 : Int32))) fun p_36 =>
        if p_36.1 = ((l6_218 + l9_218) - (1 : Int32)) then
          bnd (nox (f11_acts p_36.2 (2 : Int32))) fun p_38 =>
          if ((l8_218 - l9_218) + (1 : Int32)) ≤ p_38.1 then
            stp (l9_218 + (-1 : Int32)) fun x9_3 =>
            some (.inl ((p_35.1, p_38.2), x9_3))
          else
            some (.inr (Sum.inr (Sum.inr (p_35.1, p_38.2))))
        else
          some (.inr (Sum.inr (Sum.inr (p_35.1, p_36.2))))
    else
      some (.inr (Sum.inr (Sum.inl p_29.2)))
def fL_goesBack_j218 (τ_218 : LawS) (l6_218 : Int32) (l8_218 : Int32) (l9_218 : Int32) : Option (Int32 × LawS) :=
  bnd (loopF (fun s_218 => fL_goesBack_b218 s_218.1 l6_218 l8_218 s_218.2) 11 (τ_218, l9_218)) fun r_218 =>
    match r_218 with
    | .inl r_218x =>
      stp (1 : Int32) fun x9_4 =>
      fL_goesBack_j306 r_218x l8_218 x9_4
    | .inr r_218y =>
      match r_218y with
      | .inl r_218yx =>
        fL_goesBack_j250 r_218yx
      | .inr r_218yy =>
        fL_goesBack_j295 r_218yy
def fL_goesBack_j167 (τ_167 : LawS) : Option (Int32 × LawS) :=
  some ((0 : Int32), τ_167)
def fL_goesBack_j197 (l6_22 : Int32) (l7_22 : Int32) (τ_197 : LawS) (l8_197 : Int32) (l9_197 : Int32) : Option ((LawS × Int32 × Int32) ⊕ ((LawS × Int32) ⊕ (LawS ⊕ (LawS ⊕ (LawS ⊕ (LawS ⊕ LawS)))))) :=
  stp (l9_197 + (1 : Int32)) fun x9_5 =>
  some (.inl (τ_197, l8_197, x9_5))
def fL_goesBack_j169 (l6_22 : Int32) (l7_22 : Int32) (τ_169 : LawS) (l8_169 : Int32) (l9_169 : Int32) (l11_169 : Int32) : Option ((LawS × Int32 × Int32) ⊕ ((LawS × Int32) ⊕ (LawS ⊕ (LawS ⊕ (LawS ⊕ (LawS ⊕ LawS)))))) :=
  stp (l8_169 + l11_169) fun x8_6 =>
  bnd (fL_next τ_169) fun p_40 =>
  if (p_40.1 - p_40.1 / (3 : Int32) * (3 : Int32)) = 0 then
    bnd (fL_moves p_40.2) fun p_42 =>
    if p_42.1 = 0 then
      some (.inr (Sum.inr (Sum.inr (Sum.inr (Sum.inr (Sum.inr p_42.2))))))
    else
      fL_goesBack_j197 l6_22 l7_22 p_42.2 x8_6 l9_169
  else
    fL_goesBack_j197 l6_22 l7_22 p_40.2 x8_6 l9_169
def fL_goesBack_j126 (l6_22 : Int32) (l7_22 : Int32) (τ_126 : LawS) (l8_126 : Int32) (l9_126 : Int32) : Option ((LawS × Int32 × Int32) ⊕ ((LawS × Int32) ⊕ (LawS ⊕ (LawS ⊕ (LawS ⊕ (LawS ⊕ LawS)))))) :=
  bnd (nox (f11_acts τ_126.2 (1 : Int32))) fun p_44 =>
  stp ((p_44.1 - l6_22) - l8_126) fun x11_7 =>
  if x11_7 < 0 then
    some (.inr (Sum.inr (Sum.inr (Sum.inr (Sum.inr (Sum.inl (τ_126.1, p_44.2)))))))
  else
    if (1 : Int32) < x11_7 then
      some (.inr (Sum.inr (Sum.inr (Sum.inr (Sum.inr (Sum.inl (τ_126.1, p_44.2)))))))
    else
      if x11_7 = 0 then
        gd (inb l8_126 41) <|
        bnd (fL_isLike (τ_126.1, p_44.2) (2 + Int32.toNatClampNeg l8_126)) fun p_49 =>
        if p_49.1 = 0 then
          some (.inr (Sum.inr (Sum.inr (Sum.inr (Sum.inr (Sum.inl p_49.2))))))
        else
          fL_goesBack_j169 l6_22 l7_22 p_49.2 l8_126 l9_126 x11_7
      else
        fL_goesBack_j169 l6_22 l7_22 (τ_126.1, p_44.2) l8_126 l9_126 x11_7
def fL_goesBack_b76 (l6_22 : Int32) (l7_22 : Int32) (τ_76 : LawS) (l8_76 : Int32) (l9_76 : Int32) (l10_76 : Int32) (l11_76 : Int32) : Option ((LawS × Int32) ⊕ (LawS ⊕ LawS)) :=
  if ((2 : Int32) * l10_76) < l11_76 then
    some (.inr (Sum.inl τ_76))
  else
    bnd (fL_acts τ_76) fun p_55 =>
    if p_55.1 = (-1000009 : Int32) then
      some (.inr (Sum.inr p_55.2))
    else
      stp (l11_76 + (1 : Int32)) fun x11_8 =>
      some (.inl (p_55.2, x11_8))
def fL_goesBack_j76 (l6_22 : Int32) (l7_22 : Int32) (τ_76 : LawS) (l8_76 : Int32) (l9_76 : Int32) (l10_76 : Int32) (l11_76 : Int32) : Option ((LawS × Int32 × Int32) ⊕ ((LawS × Int32) ⊕ (LawS ⊕ (LawS ⊕ (LawS ⊕ (LawS ⊕ LawS)))))) :=
  bnd (loopF (fun s_76 => fL_goesBack_b76 l6_22 l7_22 s_76.1 l8_76 l9_76 l10_76 s_76.2) 4 (τ_76, l11_76)) fun r_76 =>
    match r_76 with
    | .inl r_76x =>
      if l10_76 = (1 : Int32) then
        bnd (fL_done r_76x (13 : Int32) (0 : Int32) (0 : Int32) (0 : Int32)) fun p_58 =>
        if p_58.1 = (1 : Int32) then
          fL_goesBack_j126 l6_22 l7_22 p_58.2 l8_76 l9_76
        else
          some (.inr (Sum.inr (Sum.inr (Sum.inr (Sum.inl p_58.2)))))
      else
        fL_goesBack_j126 l6_22 l7_22 r_76x l8_76 l9_76
    | .inr r_76y =>
      some (.inr (Sum.inr (Sum.inr (Sum.inl r_76y))))
def fL_goesBack_j73 (l6_22 : Int32) (l7_22 : Int32) (τ_73 : LawS) (l8_73 : Int32) (l9_73 : Int32) (l10_73 : Int32) : Option ((LawS × Int32 × Int32) ⊕ ((LawS × Int32) ⊕ (LawS ⊕ (LawS ⊕ (LawS ⊕ (LawS ⊕ LawS)))))) :=
  stp (0 : Int32) fun x11_9 =>
  fL_goesBack_j76 l6_22 l7_22 τ_73 l8_73 l9_73 l10_73 x11_9
def fL_goesBack_j43 (l6_22 : Int32) (l7_22 : Int32) (τ_43 : LawS) (l8_43 : Int32) (l9_43 : Int32) (s0_43 : Int32) : Option ((LawS × Int32 × Int32) ⊕ ((LawS × Int32) ⊕ (LawS ⊕ (LawS ⊕ (LawS ⊕ (LawS ⊕ LawS)))))) :=
  stp s0_43 fun x10_10 =>
  gd (inb l8_43 41) <|
  bnd (fL_sees τ_43 (2 + Int32.toNatClampNeg l8_43)) fun p_61 =>
  if x10_10 = (1 : Int32) then
    bnd (fL_done p_61 (13 : Int32) (1 : Int32) (0 : Int32) (0 : Int32)) fun p_63 =>
    if p_63.1 = 0 then
      fL_goesBack_j73 l6_22 l7_22 p_63.2 l8_43 l9_43 x10_10
    else
      some (.inr (Sum.inr (Sum.inl p_63.2)))
  else
    fL_goesBack_j73 l6_22 l7_22 p_61 l8_43 l9_43 x10_10
def fL_goesBack_b22 (τ_22 : LawS) (l6_22 : Int32) (l7_22 : Int32) (l8_22 : Int32) (l9_22 : Int32) : Option ((LawS × Int32 × Int32) ⊕ ((LawS × Int32) ⊕ (LawS ⊕ (LawS ⊕ (LawS ⊕ (LawS ⊕ LawS)))))) :=
  if l7_22 ≤ l9_22 then
    some (.inr (Sum.inl (τ_22, l8_22)))
  else
    bnd (fL_next τ_22) fun p_68 =>
    if (p_68.1 - p_68.1 / (5 : Int32) * (5 : Int32)) = 0 then
      fL_goesBack_j43 l6_22 l7_22 p_68.2 l8_22 l9_22 (1 : Int32)
    else
      fL_goesBack_j43 l6_22 l7_22 p_68.2 l8_22 l9_22 (0 : Int32)
def fL_goesBack_j22 (τ_22 : LawS) (l6_22 : Int32) (l7_22 : Int32) (l8_22 : Int32) (l9_22 : Int32) : Option (Int32 × LawS) :=
  bnd (loopF (fun s_22 => fL_goesBack_b22 s_22.1 l6_22 l7_22 s_22.2.1 s_22.2.2) 11 (τ_22, l8_22, l9_22)) fun r_22 =>
    match r_22 with
    | .inl r_22x =>
      gd (inb ((20 : Int32) + r_22x.2) 41) <|
      bnd (fL_sees r_22x.1 (2 + Int32.toNatClampNeg ((20 : Int32) + r_22x.2))) fun p_71 =>
      stp r_22x.2 fun x9_12 =>
      fL_goesBack_j218 p_71 l6_22 r_22x.2 x9_12
    | .inr r_22y =>
      match r_22y with
      | .inl r_22yx =>
        some ((0 : Int32), r_22yx)
      | .inr r_22yy =>
        match r_22yy with
        | .inl r_22yyx =>
          some ((0 : Int32), r_22yyx)
        | .inr r_22yyy =>
          match r_22yyy with
          | .inl r_22yyyx =>
            some ((0 : Int32), r_22yyyx)
          | .inr r_22yyyy =>
            match r_22yyyy with
            | .inl r_22yyyyx =>
              fL_goesBack_j167 r_22yyyyx
            | .inr r_22yyyyy =>
              some ((0 : Int32), r_22yyyyy)
def fL_goesBack (τ : LawS) : Option (Int32 × LawS) :=
  bnd (nox (f11_acts τ.2 (1 : Int32))) fun p_72 =>
  stp p_72.1 fun x6_13 =>
  bnd (fL_from (τ.1, p_72.2) (1 : Int32) (10 : Int32)) fun p_73 =>
  stp p_73.1 fun x7_14 =>
  stp (0 : Int32) fun x8_15 =>
  stp (0 : Int32) fun x9_16 =>
  fL_goesBack_j22 p_73.2 x6_13 x7_14 x8_15 x9_16
def fL_branches_j340 (τ_340 : LawS) (s0_340 : Int32) : Option (Int32 × LawS) :=
  gd (isB s0_340) <|
  some (s0_340, τ_340)
def fL_branches_j339 (τ_339 : LawS) : Option (Int32 × LawS) :=
  fL_branches_j340 τ_339 (0 : Int32)
def fL_branches_j310 (τ_310 : LawS) (s0_310 : Int32) : Option (Int32 × LawS) :=
  stp s0_310 fun x8_1 =>
  if x8_1 = 0 then
    fL_branches_j339 τ_310
  else
    bnd (nox (f11_acts τ_310.2 (3 : Int32))) fun p_3 =>
    bnd (fL_done (τ_310.1, p_3.2) (12 : Int32) p_3.1 (0 : Int32) (0 : Int32)) fun p_4 =>
    if p_4.1 = (-1000004 : Int32) then
      fL_branches_j340 p_4.2 (1 : Int32)
    else
      fL_branches_j339 p_4.2
def fL_branches_j309 (τ_309 : LawS) : Option (Int32 × LawS) :=
  fL_branches_j310 τ_309 (0 : Int32)
def fL_branches_j205 (τ_205 : LawS) (l5_205 : Int32) (s0_205 : Int32) : Option (Int32 × LawS) :=
  stp s0_205 fun x8_2 =>
  if x8_2 = 0 then
    fL_branches_j309 τ_205
  else
    bnd (fL_done τ_205 (10 : Int32) (1 : Int32) (0 : Int32) (0 : Int32)) fun p_7 =>
    if p_7.1 = (1 : Int32) then
      bnd (fL_done p_7.2 (11 : Int32) (1 : Int32) (0 : Int32) (0 : Int32)) fun p_9 =>
      if p_9.1 = (1 : Int32) then
        bnd (fL_isLike p_9.2 3) fun p_11 =>
        if p_11.1 = 0 then
          fL_branches_j309 p_11.2
        else
          bnd (fL_done p_11.2 (10 : Int32) (1 : Int32) (0 : Int32) (0 : Int32)) fun p_13 =>
          if p_13.1 = (1 : Int32) then
            bnd (fL_done p_13.2 (12 : Int32) (l5_205 + (1 : Int32)) (0 : Int32) (0 : Int32)) fun p_15 =>
            if p_15.1 = (l5_205 + (2 : Int32)) then
              bnd (fL_done p_15.2 (11 : Int32) (1 : Int32) (0 : Int32) (0 : Int32)) fun p_17 =>
              if p_17.1 = (1 : Int32) then
                bnd (fL_isLike p_17.2 4) fun p_19 =>
                if p_19.1 = 0 then
                  fL_branches_j309 p_19.2
                else
                  fL_branches_j310 p_19.2 (1 : Int32)
              else
                fL_branches_j309 p_17.2
            else
              fL_branches_j309 p_15.2
          else
            fL_branches_j309 p_13.2
      else
        fL_branches_j309 p_9.2
    else
      fL_branches_j309 p_7.2
def fL_branches_j204 (τ_204 : LawS) (l5_204 : Int32) : Option (Int32 × LawS) :=
  fL_branches_j205 τ_204 l5_204 (0 : Int32)
def fL_branches_j96 (τ_96 : LawS) : Option (Int32 × LawS) :=
  some ((0 : Int32), τ_96)
def fL_branches_j37 (τ_37 : LawS) : Option (Int32 × LawS) :=
  some ((1 : Int32), τ_37)
def fL_branches (τ : LawS) : Option (Int32 × LawS) :=
  bnd (fL_sees τ 2) fun p_21 =>
  bnd (nox (f11_acts p_21.2 (3 : Int32))) fun p_22 =>
  stp p_22.1 fun x5_3 =>
  gd (inb (0 : Int32) 40) <|
  stp (uT (p_21.1, p_22.2) 43 (Int32.toNatClampNeg (0 : Int32)) (120 : Int32)) fun τx_4 =>
  bnd (fL_feeds τx_4 43 (1 : Int32)) fun p_24 =>
  if p_24.1 = 0 then
    fL_branches_j37 p_24.2
  else
    if x5_3 ≤ (8 : Int32) then
      bnd (fL_done p_24.2 (0 : Int32) (0 : Int32) (0 : Int32) (0 : Int32)) fun p_27 =>
      stp p_27.1 fun x6_5 =>
      if x6_5 = (-1000003 : Int32) then
        bnd (fL_isLike p_27.2 2) fun p_49 =>
        gd (isB p_49.1) <|
        some (p_49.1, p_49.2)
      else
        bnd (fL_sees p_27.2 3) fun p_29 =>
        bnd (fL_done p_29 (10 : Int32) (1 : Int32) (0 : Int32) (0 : Int32)) fun p_30 =>
        if p_30.1 = (1 : Int32) then
          bnd (fL_isLike p_30.2 2) fun p_32 =>
          if p_32.1 = 0 then
            fL_branches_j96 p_32.2
          else
            bnd (fL_done p_32.2 (2 : Int32) (0 : Int32) (0 : Int32) (0 : Int32)) fun p_34 =>
            stp p_34.1 fun x7_6 =>
            if x7_6 = (-1000003 : Int32) then
              some ((1 : Int32), p_34.2)
            else
              bnd (fL_sees p_34.2 4) fun p_36 =>
              if x6_5 ≤ 0 then
                fL_branches_j204 p_36 x5_3
              else
                if x7_6 ≤ 0 then
                  fL_branches_j204 p_36 x5_3
                else
                  bnd (fL_done p_36 (10 : Int32) (1 : Int32) (0 : Int32) (0 : Int32)) fun p_39 =>
                  if p_39.1 = (1 : Int32) then
                    bnd (nox (f11_acts p_39.2.2 (3 : Int32))) fun p_41 =>
                    if p_41.1 = (x5_3 + (2 : Int32)) then
                      bnd (fL_done (p_39.2.1, p_41.2) (12 : Int32) x5_3 (0 : Int32) (0 : Int32)) fun p_43 =>
                      if p_43.1 = (x5_3 + (2 : Int32)) then
                        bnd (fL_done p_43.2 (11 : Int32) (1 : Int32) (0 : Int32) (0 : Int32)) fun p_45 =>
                        if p_45.1 = (1 : Int32) then
                          bnd (fL_isLike p_45.2 3) fun p_47 =>
                          if p_47.1 = 0 then
                            fL_branches_j204 p_47.2 x5_3
                          else
                            fL_branches_j205 p_47.2 x5_3 (1 : Int32)
                        else
                          fL_branches_j204 p_45.2 x5_3
                      else
                        fL_branches_j204 p_43.2 x5_3
                    else
                      fL_branches_j204 (p_39.2.1, p_41.2) x5_3
                  else
                    fL_branches_j204 p_39.2 x5_3
        else
          fL_branches_j96 p_30.2
    else
      fL_branches_j37 p_24.2
def fL_records_j445 (τ_445 : LawS) (s0_445 : Int32) : Option (Int32 × LawS) :=
  gd (isB s0_445) <|
  some (s0_445, τ_445)
def fL_records_j444 (τ_444 : LawS) : Option (Int32 × LawS) :=
  fL_records_j445 τ_444 (0 : Int32)
def fL_records_j356 (τ_356 : LawS) (s0_356 : Int32) : Option (Int32 × LawS) :=
  gd (isB s0_356) <|
  some (s0_356, τ_356)
def fL_records_j355 (τ_355 : LawS) : Option (Int32 × LawS) :=
  fL_records_j356 τ_355 (0 : Int32)
def fL_records_j306 (τ_306 : LawS) (l6_306 : Int32) (l10_306 : Int32) (s0_306 : Int32) : Option (Int32 × LawS) :=
  stp s0_306 fun x7_1 =>
  bnd (fL_done τ_306 (24 : Int32) (1 : Int32) (0 : Int32) (0 : Int32)) fun p_3 =>
  stp p_3.1 fun x11_2 =>
  if x11_2 = 0 then
    if x7_1 = 0 then
      fL_records_j355 p_3.2
    else
      bnd (nox (f11_acts p_3.2.2 (0 : Int32))) fun p_20 =>
      if p_20.1 = (150 : Int32) then
        bnd (fL_isLike (p_3.2.1, p_20.2) 2) fun p_22 =>
        if p_22.1 = 0 then
          fL_records_j355 p_22.2
        else
          fL_records_j356 p_22.2 (1 : Int32)
      else
        fL_records_j355 (p_3.2.1, p_20.2)
  else
    if x7_1 = 0 then
      fL_records_j444 p_3.2
    else
      if x11_2 = l10_306 then
        bnd (fL_isLike p_3.2 3) fun p_7 =>
        if p_7.1 = 0 then
          fL_records_j444 p_7.2
        else
          bnd (nox (f11_acts p_7.2.2 (1 : Int32))) fun p_9 =>
          if p_9.1 = (l6_306 + (1 : Int32)) then
            bnd (fL_done (p_7.2.1, p_9.2) (10 : Int32) (1 : Int32) (0 : Int32) (0 : Int32)) fun p_11 =>
            if p_11.1 = (1 : Int32) then
              bnd (fL_isLike p_11.2 2) fun p_13 =>
              if p_13.1 = 0 then
                fL_records_j444 p_13.2
              else
                bnd (fL_done p_13.2 (11 : Int32) (1 : Int32) (0 : Int32) (0 : Int32)) fun p_15 =>
                if p_15.1 = (1 : Int32) then
                  bnd (fL_isLike p_15.2 3) fun p_17 =>
                  if p_17.1 = 0 then
                    fL_records_j444 p_17.2
                  else
                    fL_records_j445 p_17.2 (1 : Int32)
                else
                  fL_records_j444 p_15.2
            else
              fL_records_j444 p_11.2
          else
            fL_records_j444 (p_7.2.1, p_9.2)
      else
        fL_records_j444 p_3.2
def fL_records_j305 (τ_305 : LawS) (l6_305 : Int32) (l10_305 : Int32) : Option (Int32 × LawS) :=
  fL_records_j306 τ_305 l6_305 l10_305 (0 : Int32)
def fL_records_j243 (τ_243 : LawS) (l6_243 : Int32) (l8_243 : Int32) (l10_243 : Int32) (s0_243 : Int32) : Option (Int32 × LawS) :=
  stp s0_243 fun x7_3 =>
  if 0 ≤ l8_243 then
    bnd (fL_sees τ_243 3) fun p_25 =>
    if x7_3 = 0 then
      fL_records_j305 p_25 l6_243 l10_243
    else
      bnd (nox (f11_acts p_25.2 (1 : Int32))) fun p_27 =>
      if p_27.1 = (l6_243 + (1 : Int32)) then
        bnd (fL_done (p_25.1, p_27.2) (10 : Int32) (1 : Int32) (0 : Int32) (0 : Int32)) fun p_29 =>
        if p_29.1 = (1 : Int32) then
          bnd (fL_isLike p_29.2 2) fun p_31 =>
          if p_31.1 = 0 then
            fL_records_j305 p_31.2 l6_243 l10_243
          else
            fL_records_j306 p_31.2 l6_243 l10_243 (1 : Int32)
        else
          fL_records_j305 p_29.2 l6_243 l10_243
      else
        fL_records_j305 (p_25.1, p_27.2) l6_243 l10_243
  else
    gd (isB x7_3) <|
    some (x7_3, τ_243)
def fL_records_j242 (τ_242 : LawS) (l6_242 : Int32) (l8_242 : Int32) (l10_242 : Int32) : Option (Int32 × LawS) :=
  fL_records_j243 τ_242 l6_242 l8_242 l10_242 (0 : Int32)
def fL_records_j198 (l6_117 : Int32) (l7_117 : Int32) (l8_117 : Int32) (l9_117 : Int32) (τ_198 : LawS) (l11_198 : Int32) (s0_198 : Int32) (s1_198 : Int32) : Option ((LawS × Int32 × Int32) ⊕ (LawS × Int32)) :=
  bnd (fL_one s1_198) fun p_34 =>
  stp (s0_198 + p_34) fun x10_4 =>
  stp (l11_198 + (-1 : Int32)) fun x11_5 =>
  some (.inl (τ_198, x10_4, x11_5))
def fL_records_j184 (l6_117 : Int32) (l7_117 : Int32) (l8_117 : Int32) (l9_117 : Int32) (τ_184 : LawS) (l10_184 : Int32) (l11_184 : Int32) (s0_184 : Int32) : Option ((LawS × Int32 × Int32) ⊕ (LawS × Int32)) :=
  stp s0_184 fun x12_6 =>
  if x12_6 < 0 then
    fL_records_j198 l6_117 l7_117 l8_117 l9_117 τ_184 l11_184 l10_184 (0 : Int32)
  else
    fL_records_j198 l6_117 l7_117 l8_117 l9_117 τ_184 l11_184 l10_184 (1 : Int32)
def fL_records_b117 (τ_117 : LawS) (l6_117 : Int32) (l7_117 : Int32) (l8_117 : Int32) (l9_117 : Int32) (l10_117 : Int32) (l11_117 : Int32) : Option ((LawS × Int32 × Int32) ⊕ (LawS × Int32)) :=
  if l11_117 ≤ 0 then
    some (.inr (τ_117, l10_117))
  else
    bnd (fL_next τ_117) fun p_42 =>
    if (p_42.1 - p_42.1 / (2 : Int32) * (2 : Int32)) = 0 then
      bnd (fL_from p_42.2 (-3 : Int32) (3 : Int32)) fun p_49 =>
      bnd (fL_done p_49.2 (16 : Int32) l9_117 p_49.1 (0 : Int32)) fun p_50 =>
      fL_records_j184 l6_117 l7_117 l8_117 l9_117 p_50.2 l10_117 l11_117 p_50.1
    else
      bnd (fL_next p_42.2) fun p_44 =>
      if (p_44.1 - p_44.1 / (3 : Int32) * (3 : Int32)) = 0 then
        bnd (fL_done p_44.2 (4 : Int32) (0 : Int32) (0 : Int32) (0 : Int32)) fun p_48 =>
        fL_records_j184 l6_117 l7_117 l8_117 l9_117 p_48.2 l10_117 l11_117 p_48.1
      else
        bnd (fL_from p_44.2 (-4 : Int32) (4 : Int32)) fun p_46 =>
        bnd (fL_done p_46.2 (1 : Int32) p_46.1 (0 : Int32) (0 : Int32)) fun p_47 =>
        fL_records_j184 l6_117 l7_117 l8_117 l9_117 p_47.2 l10_117 l11_117 p_47.1
def fL_records_j117 (τ_117 : LawS) (l6_117 : Int32) (l7_117 : Int32) (l8_117 : Int32) (l9_117 : Int32) (l10_117 : Int32) (l11_117 : Int32) : Option (Int32 × LawS) :=
  bnd (loopF (fun s_117 => fL_records_b117 s_117.1 l6_117 l7_117 l8_117 l9_117 s_117.2.1 s_117.2.2) 4 (τ_117, l10_117, l11_117)) fun r_117 =>
    if l7_117 = 0 then
      fL_records_j242 r_117.1 l6_117 l8_117 r_117.2
    else
      bnd (f11_record r_117.1.2 (0 : Int32)) fun p_52 =>
      if p_52.1 = r_117.2 then
        bnd (fL_done (r_117.1.1, p_52.2) (13 : Int32) (0 : Int32) (0 : Int32) (0 : Int32)) fun p_54 =>
        if p_54.1 = (1 : Int32) then
          fL_records_j243 p_54.2 l6_117 l8_117 r_117.2 (1 : Int32)
        else
          fL_records_j242 p_54.2 l6_117 l8_117 r_117.2
      else
        fL_records_j242 (r_117.1.1, p_52.2) l6_117 l8_117 r_117.2
def fL_records_j104 (τ_104 : LawS) (l6_104 : Int32) (l7_104 : Int32) (l8_104 : Int32) (l9_104 : Int32) (s0_104 : Int32) : Option (Int32 × LawS) :=
  bnd (fL_one s0_104) fun p_56 =>
  stp p_56 fun x10_7 =>
  bnd (fL_next τ_104) fun p_57 =>
  stp (p_57.1 - p_57.1 / (4 : Int32) * (4 : Int32)) fun x11_8 =>
  fL_records_j117 p_57.2 l6_104 l7_104 l8_104 l9_104 x10_7 x11_8
def fL_records_j74 (τ_74 : LawS) (l6_74 : Int32) (s0_74 : Int32) : Option (Int32 × LawS) :=
  stp s0_74 fun x7_9 =>
  bnd (fL_done τ_74 (0 : Int32) (0 : Int32) (0 : Int32) (0 : Int32)) fun p_58 =>
  stp p_58.1 fun x8_10 =>
  bnd (fL_next p_58.2) fun p_59 =>
  stp (p_59.1 - p_59.1 / (5 : Int32) * (5 : Int32)) fun x9_11 =>
  if x8_10 < 0 then
    fL_records_j104 p_59.2 l6_74 x7_9 x8_10 x9_11 (0 : Int32)
  else
    fL_records_j104 p_59.2 l6_74 x7_9 x8_10 x9_11 (1 : Int32)
def fL_records_j73 (τ_73 : LawS) (l6_73 : Int32) : Option (Int32 × LawS) :=
  fL_records_j74 τ_73 l6_73 (0 : Int32)
def fL_records_j34 (τ_34 : LawS) (s0_34 : Int32) : Option (Int32 × LawS) :=
  gd (isB s0_34) <|
  some (s0_34, τ_34)
def fL_records_j24 (τ_24 : LawS) (l5_24 : Int32) : Option (Int32 × LawS) :=
  if l5_24 = 0 then
    fL_records_j34 τ_24 (1 : Int32)
  else
    fL_records_j34 τ_24 (0 : Int32)
def fL_records (τ : LawS) : Option (Int32 × LawS) :=
  bnd (fL_draws τ) fun p_63 =>
  stp p_63.1 fun x5_12 =>
  if x5_12 = 0 then
    fL_records_j24 p_63.2 x5_12
  else
    bnd (fL_feeds p_63.2 43 x5_12) fun p_65 =>
    if p_65.1 = 0 then
      fL_records_j24 p_65.2 x5_12
    else
      bnd (fL_sees p_65.2 2) fun p_67 =>
      bnd (nox (f11_acts p_67.2 (1 : Int32))) fun p_68 =>
      stp p_68.1 fun x6_13 =>
      bnd (fL_done (p_67.1, p_68.2) (13 : Int32) (1 : Int32) (0 : Int32) (0 : Int32)) fun p_69 =>
      if p_69.1 = 0 then
        bnd (f11_record p_69.2.2 (1 : Int32)) fun p_71 =>
        if p_71.1 < 0 then
          fL_records_j73 (p_69.2.1, p_71.2) x6_13
        else
          fL_records_j74 (p_69.2.1, p_71.2) x6_13 (1 : Int32)
      else
        fL_records_j73 p_69.2 x6_13
def fL_plays_j581 (τ_581 : LawS) (s0_581 : Int32) : Option (Int32 × LawS) :=
  gd (isB s0_581) <|
  some (s0_581, τ_581)
def fL_plays_j580 (τ_580 : LawS) : Option (Int32 × LawS) :=
  fL_plays_j581 τ_580 (0 : Int32)
def fL_plays_j561 (τ_561 : LawS) (s0_561 : Int32) : Option (Int32 × LawS) :=
  stp s0_561 fun x9_1 =>
  if x9_1 = 0 then
    fL_plays_j580 τ_561
  else
    bnd (f11_errors τ_561.2) fun p_3 =>
    if p_3.1 = 0 then
      fL_plays_j581 (τ_561.1, p_3.2) (1 : Int32)
    else
      fL_plays_j580 (τ_561.1, p_3.2)
def fL_plays_j560 (τ_560 : LawS) : Option (Int32 × LawS) :=
  fL_plays_j561 τ_560 (0 : Int32)
def fL_plays_j416 (τ_416 : LawS) (l9_416 : Int32) : Option (Int32 × LawS) :=
  bnd (nox (f11_count τ_416.2 (0 : Int32))) fun p_5 =>
  stp p_5.1 fun x10_2 =>
  if l9_416 = 0 then
    fL_plays_j560 (τ_416.1, p_5.2)
  else
    bnd (fL_done (τ_416.1, p_5.2) (2 : Int32) (0 : Int32) (x10_2 + (1 : Int32)) (0 : Int32)) fun p_7 =>
    if p_7.1 = (-1000001 : Int32) then
      bnd (fL_done p_7.2 (2 : Int32) (0 : Int32) (-1 : Int32) (0 : Int32)) fun p_9 =>
      if p_9.1 = (-1000001 : Int32) then
        bnd (fL_done p_9.2 (1 : Int32) (101 : Int32) (0 : Int32) (0 : Int32)) fun p_11 =>
        if p_11.1 = (-1000002 : Int32) then
          bnd (fL_done p_11.2 (26 : Int32) x10_2 (0 : Int32) (0 : Int32)) fun p_13 =>
          if p_13.1 = (-1000001 : Int32) then
            bnd (fL_done p_13.2 (27 : Int32) (x10_2 + (1 : Int32)) (0 : Int32) (0 : Int32)) fun p_15 =>
            if p_15.1 = (-1000001 : Int32) then
              bnd (fL_done p_15.2 (16 : Int32) (5 : Int32) (0 : Int32) (0 : Int32)) fun p_17 =>
              if p_17.1 = (-1000002 : Int32) then
                bnd (fL_done p_17.2 (24 : Int32) (0 : Int32) (0 : Int32) (0 : Int32)) fun p_19 =>
                if p_19.1 = (-1000002 : Int32) then
                  bnd (fL_done p_19.2 (10 : Int32) (151 : Int32) (0 : Int32) (0 : Int32)) fun p_21 =>
                  if p_21.1 = (-1000002 : Int32) then
                    fL_plays_j561 p_21.2 (1 : Int32)
                  else
                    fL_plays_j560 p_21.2
                else
                  fL_plays_j560 p_19.2
              else
                fL_plays_j560 p_17.2
            else
              fL_plays_j560 p_15.2
          else
            fL_plays_j560 p_13.2
        else
          fL_plays_j560 p_11.2
      else
        fL_plays_j560 p_9.2
    else
      fL_plays_j560 p_7.2
def fL_plays_j408 (τ_408 : LawS) (l10_408 : Int32) (s0_408 : Int32) : Option ((LawS × Int32 × Int32) ⊕ ((LawS × Int32) ⊕ LawS)) :=
  stp s0_408 fun x9_3 =>
  stp (l10_408 + (1 : Int32)) fun x10_4 =>
  some (.inl (τ_408, x9_3, x10_4))
def fL_plays_j407 (τ_407 : LawS) (l10_407 : Int32) : Option ((LawS × Int32 × Int32) ⊕ ((LawS × Int32) ⊕ LawS)) :=
  fL_plays_j408 τ_407 l10_407 (0 : Int32)
def fL_plays_j387 (τ_387 : LawS) (l9_387 : Int32) (l10_387 : Int32) : Option ((LawS × Int32 × Int32) ⊕ ((LawS × Int32) ⊕ LawS)) :=
  if l9_387 = 0 then
    fL_plays_j407 τ_387 l10_387
  else
    bnd (fL_holds τ_387) fun p_24 =>
    if p_24.1 = 0 then
      fL_plays_j407 p_24.2 l10_387
    else
      fL_plays_j408 p_24.2 l10_387 (1 : Int32)
def fL_plays_j385 (τ_385 : LawS) (l10_385 : Int32) (s0_385 : Int32) : Option ((LawS × Int32 × Int32) ⊕ ((LawS × Int32) ⊕ LawS)) :=
  stp s0_385 fun x9_5 =>
  fL_plays_j387 τ_385 x9_5 l10_385
def fL_plays_j341 (τ_341 : LawS) (l10_341 : Int32) (s0_341 : Int32) : Option ((LawS × Int32 × Int32) ⊕ ((LawS × Int32) ⊕ LawS)) :=
  stp s0_341 fun x9_6 =>
  fL_plays_j387 τ_341 x9_6 l10_341
def fL_plays_j340 (τ_340 : LawS) (l10_340 : Int32) : Option ((LawS × Int32 × Int32) ⊕ ((LawS × Int32) ⊕ LawS)) :=
  fL_plays_j341 τ_340 l10_340 (0 : Int32)
def fL_plays_j154 (τ_154 : LawS) (l10_154 : Int32) (l11_154 : Int32) : Option ((LawS × Int32 × Int32) ⊕ ((LawS × Int32) ⊕ LawS)) :=
  if (2 : Int32) ≤ l11_154 then
    if l11_154 = (2 : Int32) then
      bnd (fL_replacesAll τ_154) fun p_53 =>
      stp p_53.1 fun x9_10 =>
      fL_plays_j387 p_53.2 x9_10 l10_154
    else
      if (5 : Int32) ≤ l11_154 then
        if l11_154 = (5 : Int32) then
          bnd (fL_branches τ_154) fun p_51 =>
          stp p_51.1 fun x9_8 =>
          fL_plays_j387 p_51.2 x9_8 l10_154
        else
          if (8 : Int32) ≤ l11_154 then
            if l11_154 = (8 : Int32) then
              bnd (f11_keep τ_154.2) fun p_37 =>
              bnd (nox (f11_count p_37.2 (1 : Int32))) fun p_38 =>
              if p_37.1 = p_38.1 then
                bnd (f11_differences p_38.2) fun p_40 =>
                if p_40.1 = 0 then
                  bnd (f11_sameShare p_40.2) fun p_42 =>
                  if (Op.cmpValue (FP.fcmp p_42.1 FP.fconst1) .l) = 0 then
                    bnd (fL_acts (τ_154.1, p_42.2)) fun p_44 =>
                    if p_44.1 ≤ (-1000009 : Int32) then
                      fL_plays_j340 p_44.2 l10_154
                    else
                      bnd (f11_differences p_44.2.2) fun p_46 =>
                      if p_46.1 < 0 then
                        fL_plays_j340 (p_44.2.1, p_46.2) l10_154
                      else
                        bnd (f11_sameShare p_46.2) fun p_48 =>
                        if 0 < (Op.cmpValue (FP.fcmp p_48.1 FP.fconst1) .g) then
                          fL_plays_j340 (p_44.2.1, p_48.2) l10_154
                        else
                          fL_plays_j341 (p_44.2.1, p_48.2) l10_154 (1 : Int32)
                  else
                    fL_plays_j340 (τ_154.1, p_42.2) l10_154
                else
                  fL_plays_j340 (τ_154.1, p_40.2) l10_154
              else
                fL_plays_j340 (τ_154.1, p_38.2) l10_154
            else
              bnd (fL_next τ_154) fun p_32 =>
              if (p_32.1 - p_32.1 / (2 : Int32) * (2 : Int32)) = 0 then
                bnd (fL_records p_32.2) fun p_36 =>
                fL_plays_j385 p_36.2 l10_154 p_36.1
              else
                bnd (fL_acts p_32.2) fun p_34 =>
                if p_34.1 ≤ (-1000009 : Int32) then
                  fL_plays_j385 p_34.2 l10_154 (0 : Int32)
                else
                  fL_plays_j385 p_34.2 l10_154 (1 : Int32)
          else
            bnd (fL_moves τ_154) fun p_50 =>
            stp p_50.1 fun x9_7 =>
            fL_plays_j387 p_50.2 x9_7 l10_154
      else
        bnd (fL_goesBack τ_154) fun p_52 =>
        stp p_52.1 fun x9_9 =>
        fL_plays_j387 p_52.2 x9_9 l10_154
  else
    bnd (fL_replaces τ_154) fun p_54 =>
    stp p_54.1 fun x9_11 =>
    fL_plays_j387 p_54.2 x9_11 l10_154
def fL_plays_b102 (τ_102 : LawS) (l9_102 : Int32) (l10_102 : Int32) : Option ((LawS × Int32 × Int32) ⊕ ((LawS × Int32) ⊕ LawS)) :=
  if (16 : Int32) ≤ l10_102 then
    some (.inr (Sum.inl (τ_102, l9_102)))
  else
    if l9_102 = 0 then
      some (.inr (Sum.inl (τ_102, l9_102)))
    else
      bnd (fL_next τ_102) fun p_57 =>
      stp (p_57.1 - p_57.1 / (10 : Int32) * (10 : Int32)) fun x11_12 =>
      bnd (nox (f11_count p_57.2.2 (0 : Int32))) fun p_58 =>
      if p_58.1 ≤ (350 : Int32) then
        fL_plays_j154 (p_57.2.1, p_58.2) l10_102 x11_12
      else
        bnd (fL_done (p_57.2.1, p_58.2) (3 : Int32) (100 : Int32) (300 : Int32) (0 : Int32)) fun p_60 =>
        if p_60.1 = (-1000009 : Int32) then
          some (.inr (Sum.inr p_60.2))
        else
          fL_plays_j154 p_60.2 l10_102 x11_12
def fL_plays_j102 (τ_102 : LawS) (l9_102 : Int32) (l10_102 : Int32) : Option (Int32 × LawS) :=
  bnd (loopF (fun s_102 => fL_plays_b102 s_102.1 s_102.2.1 s_102.2.2) 17 (τ_102, l9_102, l10_102)) fun r_102 =>
    match r_102 with
    | .inl r_102x =>
      fL_plays_j416 r_102x.1 r_102x.2
    | .inr r_102y =>
      some ((0 : Int32), r_102y)
def fL_plays_j97 (τ_97 : LawS) (s0_97 : Int32) : Option (Int32 × LawS) :=
  stp s0_97 fun x9_13 =>
  stp (0 : Int32) fun x10_14 =>
  fL_plays_j102 τ_97 x9_13 x10_14
def fL_plays_j96 (τ_96 : LawS) : Option (Int32 × LawS) :=
  fL_plays_j97 τ_96 (0 : Int32)
def fL_plays (τ : LawS) : Option (Int32 × LawS) :=
  bnd (nox (f11_count τ.2 (0 : Int32))) fun p_62 =>
  if p_62.1 = 0 then
    bnd (nox (f11_count p_62.2 (1 : Int32))) fun p_64 =>
    if p_64.1 = (1 : Int32) then
      bnd (nox (f11_cursorAt p_64.2 (0 : Int32))) fun p_66 =>
      if p_66.1 = 0 then
        bnd (fL_done (τ.1, p_66.2) (9 : Int32) (0 : Int32) (0 : Int32) (0 : Int32)) fun p_68 =>
        if p_68.1 = (-1000003 : Int32) then
          bnd (fL_done p_68.2 (10 : Int32) (1 : Int32) (0 : Int32) (0 : Int32)) fun p_70 =>
          if p_70.1 = 0 then
            bnd (fL_done p_70.2 (12 : Int32) (0 : Int32) (0 : Int32) (0 : Int32)) fun p_72 =>
            if p_72.1 = (-1000004 : Int32) then
              fL_plays_j97 p_72.2 (1 : Int32)
            else
              fL_plays_j96 p_72.2
          else
            fL_plays_j96 p_70.2
        else
          fL_plays_j96 p_68.2
      else
        fL_plays_j96 (τ.1, p_66.2)
    else
      fL_plays_j96 (τ.1, p_64.2)
  else
    fL_plays_j96 (τ.1, p_62.2)
