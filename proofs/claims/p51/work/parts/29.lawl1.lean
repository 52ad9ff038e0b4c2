def fL_next (τ : LawS) : Option (Int32 × LawS) :=
  gd (inb (0 : Int32) 1) <|
  gd (inb (0 : Int32) 1) <|
  stp (uT τ 0 (Int32.toNatClampNeg (0 : Int32)) (((τ.1 0 (Int32.toNatClampNeg (0 : Int32))) * (1103515245 : Int32)) + (12345 : Int32))) fun τx_1 =>
  gd (inb (0 : Int32) 1) <|
  gd (inb (0 : Int32) 1) <|
  gd (inb (0 : Int32) 1) <|
  stp (uT τx_1 0 (Int32.toNatClampNeg (0 : Int32)) ((τx_1.1 0 (Int32.toNatClampNeg (0 : Int32))) ^^^ (UInt32.toInt32 (Int32.toUInt32 (τx_1.1 0 (Int32.toNatClampNeg (0 : Int32))) >>> (Int32.toUInt32 (15 : Int32) &&& Int32.toUInt32 31))))) fun τx_2 =>
  gd (inb (0 : Int32) 1) <|
  some (UInt32.toInt32 (Int32.toUInt32 (τx_2.1 0 (Int32.toNatClampNeg (0 : Int32))) >>> (Int32.toUInt32 (9 : Int32) &&& Int32.toUInt32 31)), τx_2)
set_option maxHeartbeats 4000000 in
set_option maxRecDepth 100000 in
theorem kL_next {l : Launch} {K : JK} (hl : l.stackTraces = false) {τ : LawS}   {Qf : Int32 × LawS → Prop} (h : Ok (fL_next τ) Qf) : Con l K yL_next (.code yL_next cL_next 1 (some .int) :: TB) 0 0 0 False [.ref (K.2.2 + 0)] 2064 (jl K τ) (PL Qf (fun p => some (.int p.1)) (fun p => jl K p.2)) PN := by
  refine Con.enter (own := RL) hl (by decide) rfl (Nat.le_of_ble_eq_true rfl) ?_
  intro X hX hR C hret hnt
  generalize hQQ : jQ X K 0 0 (PL Qf (fun p => some (.int p.1)) (fun p => jl K p.2)) PN False = QQ
  change J X K 1 False QQ 0 0 2064 (jl K τ) 0 [(0, .ref (K.2.2 + 0))] []
  unfold fL_next at h
  refine J_aload_n (i := 0) (p := 0) C dL_next_0 rfl rfl rfl ?_
  refine J_iconst (v := 0) C (by decide) dL_next_1 rfl ?_
  refine J_aload_n (i := 0) (p := 0) C dL_next_2 rfl rfl rfl ?_
  refine J_iconst (v := 0) C (by decide) dL_next_3 rfl ?_
  obtain ⟨g_1, h⟩ := Ok.ofgd h
  refine Jl_iald C rfl rfl g_1 dL_next_4 rfl ?_
  refine J_ldc (v := 1103515245) C ci_RL_7 dL_next_5 rfl ?_
  refine J_imul C dL_next_7 rfl ?_
  refine J_sipush (v := 12345) C (by decide) dL_next_8 rfl ?_
  refine J_iadd C dL_next_11 rfl ?_
  obtain ⟨g_2, h⟩ := Ok.ofgd h
  obtain ⟨τx_1, e_τx_1, h⟩ := Ok.nm h
  refine Jl_iast C id rfl rfl g_2 e_τx_1 dL_next_12 rfl ?_
  refine J_aload_n (i := 0) (p := 0) C dL_next_13 rfl rfl rfl ?_
  refine J_iconst (v := 0) C (by decide) dL_next_14 rfl ?_
  refine J_dup2 C rfl rfl dL_next_15 rfl ?_
  obtain ⟨g_3, h⟩ := Ok.ofgd h
  refine Jl_iald C rfl rfl g_3 dL_next_16 rfl ?_
  refine J_aload_n (i := 0) (p := 0) C dL_next_17 rfl rfl rfl ?_
  refine J_iconst (v := 0) C (by decide) dL_next_18 rfl ?_
  obtain ⟨g_4, h⟩ := Ok.ofgd h
  refine Jl_iald C rfl rfl g_4 dL_next_19 rfl ?_
  refine J_bipush (v := 15) C (by decide) dL_next_20 rfl ?_
  refine J_iushr C dL_next_22 rfl ?_
  refine J_ixor C dL_next_23 rfl ?_
  obtain ⟨g_5, h⟩ := Ok.ofgd h
  obtain ⟨τx_2, e_τx_2, h⟩ := Ok.nm h
  refine Jl_iast C id rfl rfl g_5 e_τx_2 dL_next_24 rfl ?_
  refine J_aload_n (i := 0) (p := 0) C dL_next_25 rfl rfl rfl ?_
  refine J_iconst (v := 0) C (by decide) dL_next_26 rfl ?_
  obtain ⟨g_6, h⟩ := Ok.ofgd h
  refine Jl_iald C rfl rfl g_6 dL_next_27 rfl ?_
  refine J_bipush (v := 9) C (by decide) dL_next_28 rfl ?_
  refine J_iushr C dL_next_30 rfl ?_
  rw [← hQQ]
  exact J_iret C hret (Nat.le_of_ble_eq_true rfl) (Nat.le_of_ble_eq_true rfl) ⟨_, h.osome, rfl, rfl, rfl⟩ dL_next_31
def fL_from (τ : LawS) (l1 : Int32) (l2 : Int32) : Option (Int32 × LawS) :=
  bnd (fL_next τ) fun p_1 =>
  gd (nz ((l2 - l1) + (1 : Int32))) <|
  some (l1 + (p_1.1 - p_1.1 / ((l2 - l1) + (1 : Int32)) * ((l2 - l1) + (1 : Int32))), p_1.2)
set_option maxHeartbeats 4000000 in
set_option maxRecDepth 100000 in
theorem kL_from {l : Launch} {K : JK} (hl : l.stackTraces = false) {τ : LawS} {l1 : Int32} {l2 : Int32}  {Qf : Int32 × LawS → Prop} (h : Ok (fL_from τ l1 l2) Qf) : Con l K yL_from (.code yL_from cL_from 3 (some .int) :: TB) 1 0 0 False [.ref (K.2.2 + 0), .int l1, .int l2] 2064 (jl K τ) (PL Qf (fun p => some (.int p.1)) (fun p => jl K p.2)) PN := by
  refine Con.enter (own := RL) hl (by decide) rfl (Nat.le_of_ble_eq_true rfl) ?_
  intro X hX hR C hret hnt
  generalize hQQ : jQ X K 0 0 (PL Qf (fun p => some (.int p.1)) (fun p => jl K p.2)) PN False = QQ
  change J X K 3 False QQ 0 0 2064 (jl K τ) 0 [(0, .ref (K.2.2 + 0)), (1, .int l1), (2, .int l2)] []
  unfold fL_from at h
  refine J_iload_n (i := 1) (p := 1) C dL_from_0 rfl rfl rfl ?_
  refine J_aload_n (i := 0) (p := 0) C dL_from_1 rfl rfl rfl ?_
  refine Jl_cS (rest := [.int l1]) (st9 := fun p_1 => [.int p_1.1, .int l1]) C hR hX cs_RL_8 (kL_next hl  (Ok.ofbnd h)) rfl rfl (Nat.le_of_ble_eq_true rfl) (Nat.le_of_ble_eq_true rfl) (Nat.le_of_ble_eq_true rfl) ⟨(Nat.le_of_ble_eq_true rfl), (Nat.le_of_ble_eq_true rfl)⟩ dL_from_2 rfl (fun _ => rfl) (fun p_1 h => ?_)
  have h : Ok _ _ := h
  change J X K 3 False QQ 0 0 2064 (jl K p_1.2) 5 [(0, .ref (K.2.2 + 0)), (1, .int l1), (2, .int l2)] [.int p_1.1, .int l1]
  refine J_iload_n (i := 2) (p := 2) C dL_from_5 rfl rfl rfl ?_
  refine J_iload_n (i := 1) (p := 1) C dL_from_6 rfl rfl rfl ?_
  refine J_isub C dL_from_7 rfl ?_
  refine J_iconst (v := 1) C (by decide) dL_from_8 rfl ?_
  refine J_iadd C dL_from_9 rfl ?_
  obtain ⟨g_2, h⟩ := Ok.ofgd h
  refine J_irem C (nz_spec g_2) dL_from_10 rfl ?_
  refine J_iadd C dL_from_11 rfl ?_
  rw [← hQQ]
  exact J_iret C hret (Nat.le_of_ble_eq_true rfl) (Nat.le_of_ble_eq_true rfl) ⟨_, h.osome, rfl, rfl, rfl⟩ dL_from_12
def fL_one_j9 (l0 : Int32) (s0_9 : Int32) : Option (Int32) :=
  some s0_9
def fL_one (l0 : Int32) : Option (Int32) :=
  if l0 = 0 then
    fL_one_j9 l0 (0 : Int32)
  else
    fL_one_j9 l0 (1 : Int32)
set_option maxHeartbeats 4000000 in
set_option maxRecDepth 100000 in
theorem kL_one {l : Launch} {K : JK} (hl : l.stackTraces = false) {τ : LawS} {l0 : Int32}  {Qf : Int32 → Prop} (h : Ok (fL_one l0) Qf) : Con l K yL_one (.code yL_one cL_one 1 (some .int) :: TB) 0 0 0 False [.int l0] 2064 (jl K τ) (PL Qf (fun p => some (.int p)) (fun p => jl K τ)) PN := by
  refine Con.enter (own := RL) hl (by decide) rfl (Nat.le_of_ble_eq_true rfl) ?_
  intro X hX hR C hret hnt
  generalize hQQ : jQ X K 0 0 (PL Qf (fun p => some (.int p)) (fun p => jl K τ)) PN False = QQ
  change J X K 1 False QQ 0 0 2064 (jl K τ) 0 [(0, .int l0)] []
  have hj_9 : (∀ (s0_9 : Int32), Ok (fL_one_j9 l0 s0_9) Qf → J X K 1 False QQ 0 0 2064 (jl K τ) 9 [] [.int s0_9]) := by
    intro s0_9 h
    unfold fL_one_j9 at h
    rw [← hQQ]
    exact J_iret C hret (Nat.le_of_ble_eq_true rfl) (Nat.le_of_ble_eq_true rfl) ⟨_, h.osome, rfl, rfl, rfl⟩ dL_one_9
  unfold fL_one at h
  refine J_iload_n (i := 0) (p := 0) C dL_one_0 rfl rfl rfl ?_
  refine J_if_eq (t := 8) C dL_one_1 (by decide) rfl (fun c_1 => ?_) (fun c_1 => ?_)
  · have h := h.pos c_1
    refine J_iconst (v := 0) C (by decide) dL_one_8 rfl ?_
    refine J.sub [] rfl ?_
    exact hj_9 (0 : Int32) h
  · have h := h.neg c_1
    refine J_iconst (v := 1) C (by decide) dL_one_4 rfl ?_
    refine J_goto (t := 9) C dL_one_5 (by decide) ?_
    refine J.sub [] rfl ?_
    exact hj_9 (1 : Int32) h
def fL_done_j313 (l1 : Int32) (l2 : Int32) (l3 : Int32) (l4 : Int32) (τ_313 : LawS) (s2_313 : Int32) : Option (Int32 × LawS) :=
  hdl τ_313.1 (f11_find τ_313.2 l2 s2_313) fun p_1 =>
  some (p_1.1, (τ_313.1, p_1.2))
def fL_done_j297 (l1 : Int32) (l2 : Int32) (l3 : Int32) (l4 : Int32) (τ_297 : LawS) (s1_297 : Int32) : Option (Int32 × LawS) :=
  hdl τ_297.1 (f11_setPattern τ_297.2 s1_297) fun p_2 =>
  some (p_2.1, (τ_297.1, p_2.2))
def fL_done_j256 (l1 : Int32) (l2 : Int32) (l3 : Int32) (l4 : Int32) (τ_256 : LawS) (s3_256 : Int32) : Option (Int32 × LawS) :=
  hdl τ_256.1 (f11_setMark τ_256.2 l2 l3 s3_256) fun p_3 =>
  some (p_3.1, (τ_256.1, p_3.2))
def fL_done_j216 (l1 : Int32) (l2 : Int32) (l3 : Int32) (l4 : Int32) (τ_216 : LawS) (s1_216 : Int32) : Option (Int32 × LawS) :=
  bnd (f11_group τ_216.2 s1_216) fun p_4 =>
  bnd (fL_one p_4.1) fun p_5 =>
  some (p_5, (τ_216.1, p_4.2))
def fL_done (τ : LawS) (l1 : Int32) (l2 : Int32) (l3 : Int32) (l4 : Int32) : Option (Int32 × LawS) :=
  if Int32.toInt l1 = 0 then
    hdl τ.1 (f11_type τ.2) fun p_7 =>
    some (p_7.1, (τ.1, p_7.2))
  else if Int32.toInt l1 = 1 then
    hdl τ.1 (f11_erase τ.2 l2) fun p_9 =>
    some (p_9.1, (τ.1, p_9.2))
  else if Int32.toInt l1 = 2 then
    hdl τ.1 (f11_replace τ.2 l2 l3) fun p_11 =>
    some (p_11.1, (τ.1, p_11.2))
  else if Int32.toInt l1 = 3 then
    hdl τ.1 (f11_cut τ.2 l2 l3) fun p_13 =>
    some (p_13.1, (τ.1, p_13.2))
  else if Int32.toInt l1 = 4 then
    hdl τ.1 (f11_paste τ.2) fun p_15 =>
    some (p_15.1, (τ.1, p_15.2))
  else if Int32.toInt l1 = 5 then
    hdl τ.1 (f11_indent τ.2 l2 l3 l4) fun p_17 =>
    some (p_17.1, (τ.1, p_17.2))
  else if Int32.toInt l1 = 6 then
    hdl τ.1 (f11_wrap τ.2 l2 l3) fun p_19 =>
    some (p_19.1, (τ.1, p_19.2))
  else if Int32.toInt l1 = 7 then
    hdl τ.1 (f11_joinLines τ.2 l2 l3) fun p_21 =>
    some (p_21.1, (τ.1, p_21.2))
  else if Int32.toInt l1 = 8 then
    hdl τ.1 (f11_replaceNext τ.2) fun p_23 =>
    some (p_23.1, (τ.1, p_23.2))
  else if Int32.toInt l1 = 9 then
    hdl τ.1 (f11_replaceAll τ.2) fun p_25 =>
    some (p_25.1, (τ.1, p_25.2))
  else if Int32.toInt l1 = 10 then
    hdl τ.1 (f11_undo τ.2 l2) fun p_27 =>
    some (p_27.1, (τ.1, p_27.2))
  else if Int32.toInt l1 = 11 then
    hdl τ.1 (f11_redo τ.2 l2) fun p_29 =>
    some (p_29.1, (τ.1, p_29.2))
  else if Int32.toInt l1 = 12 then
    hdl τ.1 (f11_branch τ.2 l2) fun p_31 =>
    some (p_31.1, (τ.1, p_31.2))
  else if Int32.toInt l1 = 13 then
    if l2 = (1 : Int32) then
      fL_done_j216 l1 l2 l3 l4 τ (1 : Int32)
    else
      fL_done_j216 l1 l2 l3 l4 τ (0 : Int32)
  else if Int32.toInt l1 = 14 then
    hdl τ.1 (f11_setCursor τ.2 l2) fun p_35 =>
    some (p_35.1, (τ.1, p_35.2))
  else if Int32.toInt l1 = 15 then
    hdl τ.1 (f11_addCursor τ.2 l2) fun p_37 =>
    some (p_37.1, (τ.1, p_37.2))
  else if Int32.toInt l1 = 16 then
    hdl τ.1 (f11_moveCursors τ.2 l2 l3) fun p_39 =>
    some (p_39.1, (τ.1, p_39.2))
  else if Int32.toInt l1 = 17 then
    if l4 = (1 : Int32) then
      fL_done_j256 l1 l2 l3 l4 τ (1 : Int32)
    else
      fL_done_j256 l1 l2 l3 l4 τ (0 : Int32)
  else if Int32.toInt l1 = 18 then
    hdl τ.1 (f11_dropMark τ.2 l2) fun p_43 =>
    some (p_43.1, (τ.1, p_43.2))
  else if Int32.toInt l1 = 19 then
    hdl τ.1 (f11_fold τ.2 l2 l3) fun p_45 =>
    some (p_45.1, (τ.1, p_45.2))
  else if Int32.toInt l1 = 20 then
    hdl τ.1 (f11_unfold τ.2 l2) fun p_47 =>
    some (p_47.1, (τ.1, p_47.2))
  else if Int32.toInt l1 = 21 then
    hdl τ.1 (f11_copy τ.2 l2 l3) fun p_49 =>
    some (p_49.1, (τ.1, p_49.2))
  else if Int32.toInt l1 = 22 then
    if l2 = (1 : Int32) then
      fL_done_j297 l1 l2 l3 l4 τ (1 : Int32)
    else
      fL_done_j297 l1 l2 l3 l4 τ (0 : Int32)
  else if Int32.toInt l1 = 23 then
    if l3 = (1 : Int32) then
      fL_done_j313 l1 l2 l3 l4 τ (1 : Int32)
    else
      fL_done_j313 l1 l2 l3 l4 τ (0 : Int32)
  else if Int32.toInt l1 = 24 then
    hdl τ.1 (f11_play τ.2 l2) fun p_55 =>
    some (p_55.1, (τ.1, p_55.2))
  else if Int32.toInt l1 = 25 then
    hdl τ.1 (f11_copyBlock τ.2 l2 l3 l4 ((1 : Int32) + (l4 - l4 / (5 : Int32) * (5 : Int32)))) fun p_57 =>
    some (p_57.1, (τ.1, p_57.2))
  else if Int32.toInt l1 = 26 then
    hdl τ.1 (f11_letterAt τ.2 l2) fun p_59 =>
    some (p_59.1, (τ.1, p_59.2))
  else
    hdl τ.1 (f11_lineOf τ.2 l2) fun p_60 =>
    some (p_60.1, (τ.1, p_60.2))
set_option maxHeartbeats 4000000 in
set_option maxRecDepth 100000 in
theorem kL_done {l : Launch} {K : JK} (hl : l.stackTraces = false) {τ : LawS} {l1 : Int32} {l2 : Int32} {l3 : Int32} {l4 : Int32}  {Qf : Int32 × LawS → Prop} (h : Ok (fL_done τ l1 l2 l3 l4) Qf) : Con l K yL_done (.codeWith yL_done cL_done 6 (some .int) doneH :: TB) 9 1 6 False [.ref (K.2.2 + 47), .int l1, .int l2, .int l3, .int l4] 2064 (jl K τ) (PL Qf (fun p => some (.int p.1)) (fun p => jl K p.2)) PN := by
  refine Con.enterH (own := RL) hl (by decide) rfl (Nat.le_of_ble_eq_true rfl) ?_
  intro X hX hR C hret htab
  generalize hQQ : jQ X K 1 6 (PL Qf (fun p => some (.int p.1)) (fun p => jl K p.2)) PN False = QQ
  change J X K 6 False QQ 0 0 2064 (jl K τ) 0 [(0, .ref (K.2.2 + 47)), (1, .int l1), (2, .int l2), (3, .int l3), (4, .int l4)] []
  have hj_313 : (∀ (τ_313 : LawS) (s2_313 : Int32), Ok (fL_done_j313 l1 l2 l3 l4 τ_313 s2_313) Qf → J X K 6 False QQ 0 0 2064 (jl K τ_313) 313 [] [.int s2_313, .int l2, .ref (K.2.2 + 47)]) := by
    intro τ_313 s2_313 h
    unfold fL_done_j313 at h
    refine Jl_cV (rest := []) (st9 := fun p_1 => [.int p_1.1]) (wd := fun p_1 => p_1.2) C hR hX cv_RL_95 (k11_find hl (Ok.ofhdl h)) rfl rfl (Nat.le_of_ble_eq_true rfl) (Nat.le_of_ble_eq_true rfl) (Nat.le_of_ble_eq_true rfl) ⟨(Nat.le_of_ble_eq_true rfl), (Nat.le_of_ble_eq_true rfl)⟩ dL_done_313 rfl (fun E n9 w9 hx => by rw [← hQQ]; exact done_kx C htab hret 23 (by decide +kernel) (by decide +kernel) (by decide +kernel) (by decide +kernel) (by decide +kernel) (by decide +kernel) (by decide +kernel) (by decide +kernel) hx) (fun _ => rfl) (fun p_1 h => ?_)
    have h : Ok _ _ := h
    change J X K 6 False QQ 1 6 2064 (jl K (τ_313.1, p_1.2)) 316 [] [.int p_1.1]
    rw [← hQQ]
    exact J_iret C hret (Nat.le_of_ble_eq_true rfl) (Nat.le_of_ble_eq_true rfl) ⟨_, h.osome, rfl, rfl, rfl⟩ dL_done_316
  have hj_297 : (∀ (τ_297 : LawS) (s1_297 : Int32), Ok (fL_done_j297 l1 l2 l3 l4 τ_297 s1_297) Qf → J X K 6 False QQ 0 0 2064 (jl K τ_297) 297 [] [.int s1_297, .ref (K.2.2 + 47)]) := by
    intro τ_297 s1_297 h
    unfold fL_done_j297 at h
    refine Jl_cV (rest := []) (st9 := fun p_2 => [.int p_2.1]) (wd := fun p_2 => p_2.2) C hR hX cv_RL_92 (k11_setPattern hl (Ok.ofhdl h)) rfl rfl (Nat.le_of_ble_eq_true rfl) (Nat.le_of_ble_eq_true rfl) (Nat.le_of_ble_eq_true rfl) ⟨(Nat.le_of_ble_eq_true rfl), (Nat.le_of_ble_eq_true rfl)⟩ dL_done_297 rfl (fun E n9 w9 hx => by rw [← hQQ]; exact done_kx C htab hret 22 (by decide +kernel) (by decide +kernel) (by decide +kernel) (by decide +kernel) (by decide +kernel) (by decide +kernel) (by decide +kernel) (by decide +kernel) hx) (fun _ => rfl) (fun p_2 h => ?_)
    have h : Ok _ _ := h
    change J X K 6 False QQ 1 6 2064 (jl K (τ_297.1, p_2.2)) 300 [] [.int p_2.1]
    rw [← hQQ]
    exact J_iret C hret (Nat.le_of_ble_eq_true rfl) (Nat.le_of_ble_eq_true rfl) ⟨_, h.osome, rfl, rfl, rfl⟩ dL_done_300
  have hj_256 : (∀ (τ_256 : LawS) (s3_256 : Int32), Ok (fL_done_j256 l1 l2 l3 l4 τ_256 s3_256) Qf → J X K 6 False QQ 0 0 2064 (jl K τ_256) 256 [] [.int s3_256, .int l3, .int l2, .ref (K.2.2 + 47)]) := by
    intro τ_256 s3_256 h
    unfold fL_done_j256 at h
    refine Jl_cV (rest := []) (st9 := fun p_3 => [.int p_3.1]) (wd := fun p_3 => p_3.2) C hR hX cv_RL_76 (k11_setMark hl (Ok.ofhdl h)) rfl rfl (Nat.le_of_ble_eq_true rfl) (Nat.le_of_ble_eq_true rfl) (Nat.le_of_ble_eq_true rfl) ⟨(Nat.le_of_ble_eq_true rfl), (Nat.le_of_ble_eq_true rfl)⟩ dL_done_256 rfl (fun E n9 w9 hx => by rw [← hQQ]; exact done_kx C htab hret 17 (by decide +kernel) (by decide +kernel) (by decide +kernel) (by decide +kernel) (by decide +kernel) (by decide +kernel) (by decide +kernel) (by decide +kernel) hx) (fun _ => rfl) (fun p_3 h => ?_)
    have h : Ok _ _ := h
    change J X K 6 False QQ 1 6 2064 (jl K (τ_256.1, p_3.2)) 259 [] [.int p_3.1]
    rw [← hQQ]
    exact J_iret C hret (Nat.le_of_ble_eq_true rfl) (Nat.le_of_ble_eq_true rfl) ⟨_, h.osome, rfl, rfl, rfl⟩ dL_done_259
  have hj_216 : (∀ (τ_216 : LawS) (s1_216 : Int32), Ok (fL_done_j216 l1 l2 l3 l4 τ_216 s1_216) Qf → J X K 6 False QQ 0 0 2064 (jl K τ_216) 216 [] [.int s1_216, .ref (K.2.2 + 47)]) := by
    intro τ_216 s1_216 h
    unfold fL_done_j216 at h
    refine Jl_cV (rest := []) (st9 := fun p_4 => [.int p_4.1]) (wd := fun p_4 => p_4.2) C hR hX cv_RL_59 (k11_group hl (Ok.ofbnd h)) rfl rfl (Nat.le_of_ble_eq_true rfl) (Nat.le_of_ble_eq_true rfl) (Nat.le_of_ble_eq_true rfl) ⟨(Nat.le_of_ble_eq_true rfl), (Nat.le_of_ble_eq_true rfl)⟩ dL_done_216 rfl (fun E n9 w9 hx => hx.elim) (fun _ => rfl) (fun p_4 h => ?_)
    have h : Ok _ _ := h
    change J X K 6 False QQ 0 0 2064 (jl K (τ_216.1, p_4.2)) 219 [] [.int p_4.1]
    refine Jl_cS (rest := []) (st9 := fun p_5 => [.int p_5]) C hR hX cs_RL_63 (kL_one hl  (Ok.ofbnd h)) rfl rfl (Nat.le_of_ble_eq_true rfl) (Nat.le_of_ble_eq_true rfl) (Nat.le_of_ble_eq_true rfl) ⟨(Nat.le_of_ble_eq_true rfl), (Nat.le_of_ble_eq_true rfl)⟩ dL_done_219 rfl (fun _ => rfl) (fun p_5 h => ?_)
    have h : Ok _ _ := h
    change J X K 6 False QQ 0 0 2064 (jl K (τ_216.1, p_4.2)) 222 [] [.int p_5]
    rw [← hQQ]
    exact J_iret C hret (Nat.le_of_ble_eq_true rfl) (Nat.le_of_ble_eq_true rfl) ⟨_, h.osome, rfl, rfl, rfl⟩ dL_done_222
  unfold fL_done at h
  refine J_iload_n (i := 1) (p := 1) C dL_done_0 rfl rfl rfl ?_
  by_cases c_6 : Int32.toInt l1 = 0
  · have h := h.pos c_6
    refine J_tab (t := 124) C 0 c_6 dL_done_1 (by decide) (by decide) rfl (by decide) ?_
    refine J_aload_n (i := 0) (p := 0) C dL_done_124 rfl rfl rfl ?_
    refine Jl_cV (rest := []) (st9 := fun p_7 => [.int p_7.1]) (wd := fun p_7 => p_7.2) C hR hX cv_RL_14 (k11_type hl (Ok.ofhdl h)) rfl rfl (Nat.le_of_ble_eq_true rfl) (Nat.le_of_ble_eq_true rfl) (Nat.le_of_ble_eq_true rfl) ⟨(Nat.le_of_ble_eq_true rfl), (Nat.le_of_ble_eq_true rfl)⟩ dL_done_125 rfl (fun E n9 w9 hx => by rw [← hQQ]; exact done_kx C htab hret 0 (by decide +kernel) (by decide +kernel) (by decide +kernel) (by decide +kernel) (by decide +kernel) (by decide +kernel) (by decide +kernel) (by decide +kernel) hx) (fun _ => rfl) (fun p_7 h => ?_)
    have h : Ok _ _ := h
    change J X K 6 False QQ 1 6 2064 (jl K (τ.1, p_7.2)) 128 [(0, .ref (K.2.2 + 47)), (1, .int l1), (2, .int l2), (3, .int l3), (4, .int l4)] [.int p_7.1]
    rw [← hQQ]
    exact J_iret C hret (Nat.le_of_ble_eq_true rfl) (Nat.le_of_ble_eq_true rfl) ⟨_, h.osome, rfl, rfl, rfl⟩ dL_done_128
  · have h := h.neg c_6
    by_cases c_8 : Int32.toInt l1 = 1
    · have h := h.pos c_8
      refine J_tab (t := 129) C 1 c_8 dL_done_1 (by decide) (by decide) rfl (by decide) ?_
      refine J_aload_n (i := 0) (p := 0) C dL_done_129 rfl rfl rfl ?_
      refine J_iload_n (i := 2) (p := 2) C dL_done_130 rfl rfl rfl ?_
      refine Jl_cV (rest := []) (st9 := fun p_9 => [.int p_9.1]) (wd := fun p_9 => p_9.2) C hR hX cv_RL_20 (k11_erase hl (Ok.ofhdl h)) rfl rfl (Nat.le_of_ble_eq_true rfl) (Nat.le_of_ble_eq_true rfl) (Nat.le_of_ble_eq_true rfl) ⟨(Nat.le_of_ble_eq_true rfl), (Nat.le_of_ble_eq_true rfl)⟩ dL_done_131 rfl (fun E n9 w9 hx => by rw [← hQQ]; exact done_kx C htab hret 1 (by decide +kernel) (by decide +kernel) (by decide +kernel) (by decide +kernel) (by decide +kernel) (by decide +kernel) (by decide +kernel) (by decide +kernel) hx) (fun _ => rfl) (fun p_9 h => ?_)
      have h : Ok _ _ := h
      change J X K 6 False QQ 1 6 2064 (jl K (τ.1, p_9.2)) 134 [(0, .ref (K.2.2 + 47)), (1, .int l1), (2, .int l2), (3, .int l3), (4, .int l4)] [.int p_9.1]
      rw [← hQQ]
      exact J_iret C hret (Nat.le_of_ble_eq_true rfl) (Nat.le_of_ble_eq_true rfl) ⟨_, h.osome, rfl, rfl, rfl⟩ dL_done_134
    · have h := h.neg c_8
      by_cases c_10 : Int32.toInt l1 = 2
      · have h := h.pos c_10
        refine J_tab (t := 135) C 2 c_10 dL_done_1 (by decide) (by decide) rfl (by decide) ?_
        refine J_aload_n (i := 0) (p := 0) C dL_done_135 rfl rfl rfl ?_
        refine J_iload_n (i := 2) (p := 2) C dL_done_136 rfl rfl rfl ?_
        refine J_iload_n (i := 3) (p := 3) C dL_done_137 rfl rfl rfl ?_
        refine Jl_cV (rest := []) (st9 := fun p_11 => [.int p_11.1]) (wd := fun p_11 => p_11.2) C hR hX cv_RL_24 (k11_replace hl (Ok.ofhdl h)) rfl rfl (Nat.le_of_ble_eq_true rfl) (Nat.le_of_ble_eq_true rfl) (Nat.le_of_ble_eq_true rfl) ⟨(Nat.le_of_ble_eq_true rfl), (Nat.le_of_ble_eq_true rfl)⟩ dL_done_138 rfl (fun E n9 w9 hx => by rw [← hQQ]; exact done_kx C htab hret 2 (by decide +kernel) (by decide +kernel) (by decide +kernel) (by decide +kernel) (by decide +kernel) (by decide +kernel) (by decide +kernel) (by decide +kernel) hx) (fun _ => rfl) (fun p_11 h => ?_)
        have h : Ok _ _ := h
        change J X K 6 False QQ 1 6 2064 (jl K (τ.1, p_11.2)) 141 [(0, .ref (K.2.2 + 47)), (1, .int l1), (2, .int l2), (3, .int l3), (4, .int l4)] [.int p_11.1]
        rw [← hQQ]
        exact J_iret C hret (Nat.le_of_ble_eq_true rfl) (Nat.le_of_ble_eq_true rfl) ⟨_, h.osome, rfl, rfl, rfl⟩ dL_done_141
      · have h := h.neg c_10
        by_cases c_12 : Int32.toInt l1 = 3
        · have h := h.pos c_12
          refine J_tab (t := 142) C 3 c_12 dL_done_1 (by decide) (by decide) rfl (by decide) ?_
          refine J_aload_n (i := 0) (p := 0) C dL_done_142 rfl rfl rfl ?_
          refine J_iload_n (i := 2) (p := 2) C dL_done_143 rfl rfl rfl ?_
          refine J_iload_n (i := 3) (p := 3) C dL_done_144 rfl rfl rfl ?_
          refine Jl_cV (rest := []) (st9 := fun p_13 => [.int p_13.1]) (wd := fun p_13 => p_13.2) C hR hX cv_RL_28 (k11_cut hl (Ok.ofhdl h)) rfl rfl (Nat.le_of_ble_eq_true rfl) (Nat.le_of_ble_eq_true rfl) (Nat.le_of_ble_eq_true rfl) ⟨(Nat.le_of_ble_eq_true rfl), (Nat.le_of_ble_eq_true rfl)⟩ dL_done_145 rfl (fun E n9 w9 hx => by rw [← hQQ]; exact done_kx C htab hret 3 (by decide +kernel) (by decide +kernel) (by decide +kernel) (by decide +kernel) (by decide +kernel) (by decide +kernel) (by decide +kernel) (by decide +kernel) hx) (fun _ => rfl) (fun p_13 h => ?_)
          have h : Ok _ _ := h
          change J X K 6 False QQ 1 6 2064 (jl K (τ.1, p_13.2)) 148 [(0, .ref (K.2.2 + 47)), (1, .int l1), (2, .int l2), (3, .int l3), (4, .int l4)] [.int p_13.1]
          rw [← hQQ]
          exact J_iret C hret (Nat.le_of_ble_eq_true rfl) (Nat.le_of_ble_eq_true rfl) ⟨_, h.osome, rfl, rfl, rfl⟩ dL_done_148
        · have h := h.neg c_12
          by_cases c_14 : Int32.toInt l1 = 4
          · have h := h.pos c_14
            refine J_tab (t := 149) C 4 c_14 dL_done_1 (by decide) (by decide) rfl (by decide) ?_
            refine J_aload_n (i := 0) (p := 0) C dL_done_149 rfl rfl rfl ?_
            refine Jl_cV (rest := []) (st9 := fun p_15 => [.int p_15.1]) (wd := fun p_15 => p_15.2) C hR hX cv_RL_31 (k11_paste hl (Ok.ofhdl h)) rfl rfl (Nat.le_of_ble_eq_true rfl) (Nat.le_of_ble_eq_true rfl) (Nat.le_of_ble_eq_true rfl) ⟨(Nat.le_of_ble_eq_true rfl), (Nat.le_of_ble_eq_true rfl)⟩ dL_done_150 rfl (fun E n9 w9 hx => by rw [← hQQ]; exact done_kx C htab hret 4 (by decide +kernel) (by decide +kernel) (by decide +kernel) (by decide +kernel) (by decide +kernel) (by decide +kernel) (by decide +kernel) (by decide +kernel) hx) (fun _ => rfl) (fun p_15 h => ?_)
            have h : Ok _ _ := h
            change J X K 6 False QQ 1 6 2064 (jl K (τ.1, p_15.2)) 153 [(0, .ref (K.2.2 + 47)), (1, .int l1), (2, .int l2), (3, .int l3), (4, .int l4)] [.int p_15.1]
            rw [← hQQ]
            exact J_iret C hret (Nat.le_of_ble_eq_true rfl) (Nat.le_of_ble_eq_true rfl) ⟨_, h.osome, rfl, rfl, rfl⟩ dL_done_153
          · have h := h.neg c_14
            by_cases c_16 : Int32.toInt l1 = 5
            · have h := h.pos c_16
              refine J_tab (t := 154) C 5 c_16 dL_done_1 (by decide) (by decide) rfl (by decide) ?_
              refine J_aload_n (i := 0) (p := 0) C dL_done_154 rfl rfl rfl ?_
              refine J_iload_n (i := 2) (p := 2) C dL_done_155 rfl rfl rfl ?_
              refine J_iload_n (i := 3) (p := 3) C dL_done_156 rfl rfl rfl ?_
              refine J_iload (i := 4) (p := 4) C dL_done_157 rfl rfl ?_
              refine Jl_cV (rest := []) (st9 := fun p_17 => [.int p_17.1]) (wd := fun p_17 => p_17.2) C hR hX cv_RL_34 (k11_indent hl (Ok.ofhdl h)) rfl rfl (Nat.le_of_ble_eq_true rfl) (Nat.le_of_ble_eq_true rfl) (Nat.le_of_ble_eq_true rfl) ⟨(Nat.le_of_ble_eq_true rfl), (Nat.le_of_ble_eq_true rfl)⟩ dL_done_159 rfl (fun E n9 w9 hx => by rw [← hQQ]; exact done_kx C htab hret 5 (by decide +kernel) (by decide +kernel) (by decide +kernel) (by decide +kernel) (by decide +kernel) (by decide +kernel) (by decide +kernel) (by decide +kernel) hx) (fun _ => rfl) (fun p_17 h => ?_)
              have h : Ok _ _ := h
              change J X K 6 False QQ 1 6 2064 (jl K (τ.1, p_17.2)) 162 [(0, .ref (K.2.2 + 47)), (1, .int l1), (2, .int l2), (3, .int l3), (4, .int l4)] [.int p_17.1]
              rw [← hQQ]
              exact J_iret C hret (Nat.le_of_ble_eq_true rfl) (Nat.le_of_ble_eq_true rfl) ⟨_, h.osome, rfl, rfl, rfl⟩ dL_done_162
            · have h := h.neg c_16
              by_cases c_18 : Int32.toInt l1 = 6
              · have h := h.pos c_18
                refine J_tab (t := 163) C 6 c_18 dL_done_1 (by decide) (by decide) rfl (by decide) ?_
                refine J_aload_n (i := 0) (p := 0) C dL_done_163 rfl rfl rfl ?_
                refine J_iload_n (i := 2) (p := 2) C dL_done_164 rfl rfl rfl ?_
                refine J_iload_n (i := 3) (p := 3) C dL_done_165 rfl rfl rfl ?_
                refine Jl_cV (rest := []) (st9 := fun p_19 => [.int p_19.1]) (wd := fun p_19 => p_19.2) C hR hX cv_RL_38 (k11_wrap hl (Ok.ofhdl h)) rfl rfl (Nat.le_of_ble_eq_true rfl) (Nat.le_of_ble_eq_true rfl) (Nat.le_of_ble_eq_true rfl) ⟨(Nat.le_of_ble_eq_true rfl), (Nat.le_of_ble_eq_true rfl)⟩ dL_done_166 rfl (fun E n9 w9 hx => by rw [← hQQ]; exact done_kx C htab hret 6 (by decide +kernel) (by decide +kernel) (by decide +kernel) (by decide +kernel) (by decide +kernel) (by decide +kernel) (by decide +kernel) (by decide +kernel) hx) (fun _ => rfl) (fun p_19 h => ?_)
                have h : Ok _ _ := h
                change J X K 6 False QQ 1 6 2064 (jl K (τ.1, p_19.2)) 169 [(0, .ref (K.2.2 + 47)), (1, .int l1), (2, .int l2), (3, .int l3), (4, .int l4)] [.int p_19.1]
                rw [← hQQ]
                exact J_iret C hret (Nat.le_of_ble_eq_true rfl) (Nat.le_of_ble_eq_true rfl) ⟨_, h.osome, rfl, rfl, rfl⟩ dL_done_169
              · have h := h.neg c_18
                by_cases c_20 : Int32.toInt l1 = 7
                · have h := h.pos c_20
                  refine J_tab (t := 170) C 7 c_20 dL_done_1 (by decide) (by decide) rfl (by decide) ?_
                  refine J_aload_n (i := 0) (p := 0) C dL_done_170 rfl rfl rfl ?_
                  refine J_iload_n (i := 2) (p := 2) C dL_done_171 rfl rfl rfl ?_
                  refine J_iload_n (i := 3) (p := 3) C dL_done_172 rfl rfl rfl ?_
                  refine Jl_cV (rest := []) (st9 := fun p_21 => [.int p_21.1]) (wd := fun p_21 => p_21.2) C hR hX cv_RL_41 (k11_joinLines hl (Ok.ofhdl h)) rfl rfl (Nat.le_of_ble_eq_true rfl) (Nat.le_of_ble_eq_true rfl) (Nat.le_of_ble_eq_true rfl) ⟨(Nat.le_of_ble_eq_true rfl), (Nat.le_of_ble_eq_true rfl)⟩ dL_done_173 rfl (fun E n9 w9 hx => by rw [← hQQ]; exact done_kx C htab hret 7 (by decide +kernel) (by decide +kernel) (by decide +kernel) (by decide +kernel) (by decide +kernel) (by decide +kernel) (by decide +kernel) (by decide +kernel) hx) (fun _ => rfl) (fun p_21 h => ?_)
                  have h : Ok _ _ := h
                  change J X K 6 False QQ 1 6 2064 (jl K (τ.1, p_21.2)) 176 [(0, .ref (K.2.2 + 47)), (1, .int l1), (2, .int l2), (3, .int l3), (4, .int l4)] [.int p_21.1]
                  rw [← hQQ]
                  exact J_iret C hret (Nat.le_of_ble_eq_true rfl) (Nat.le_of_ble_eq_true rfl) ⟨_, h.osome, rfl, rfl, rfl⟩ dL_done_176
                · have h := h.neg c_20
                  by_cases c_22 : Int32.toInt l1 = 8
                  · have h := h.pos c_22
                    refine J_tab (t := 177) C 8 c_22 dL_done_1 (by decide) (by decide) rfl (by decide) ?_
                    refine J_aload_n (i := 0) (p := 0) C dL_done_177 rfl rfl rfl ?_
                    refine Jl_cV (rest := []) (st9 := fun p_23 => [.int p_23.1]) (wd := fun p_23 => p_23.2) C hR hX cv_RL_44 (k11_replaceNext hl (Ok.ofhdl h)) rfl rfl (Nat.le_of_ble_eq_true rfl) (Nat.le_of_ble_eq_true rfl) (Nat.le_of_ble_eq_true rfl) ⟨(Nat.le_of_ble_eq_true rfl), (Nat.le_of_ble_eq_true rfl)⟩ dL_done_178 rfl (fun E n9 w9 hx => by rw [← hQQ]; exact done_kx C htab hret 8 (by decide +kernel) (by decide +kernel) (by decide +kernel) (by decide +kernel) (by decide +kernel) (by decide +kernel) (by decide +kernel) (by decide +kernel) hx) (fun _ => rfl) (fun p_23 h => ?_)
                    have h : Ok _ _ := h
                    change J X K 6 False QQ 1 6 2064 (jl K (τ.1, p_23.2)) 181 [(0, .ref (K.2.2 + 47)), (1, .int l1), (2, .int l2), (3, .int l3), (4, .int l4)] [.int p_23.1]
                    rw [← hQQ]
                    exact J_iret C hret (Nat.le_of_ble_eq_true rfl) (Nat.le_of_ble_eq_true rfl) ⟨_, h.osome, rfl, rfl, rfl⟩ dL_done_181
                  · have h := h.neg c_22
                    by_cases c_24 : Int32.toInt l1 = 9
                    · have h := h.pos c_24
                      refine J_tab (t := 182) C 9 c_24 dL_done_1 (by decide) (by decide) rfl (by decide) ?_
                      refine J_aload_n (i := 0) (p := 0) C dL_done_182 rfl rfl rfl ?_
                      refine Jl_cV (rest := []) (st9 := fun p_25 => [.int p_25.1]) (wd := fun p_25 => p_25.2) C hR hX cv_RL_47 (k11_replaceAll hl (Ok.ofhdl h)) rfl rfl (Nat.le_of_ble_eq_true rfl) (Nat.le_of_ble_eq_true rfl) (Nat.le_of_ble_eq_true rfl) ⟨(Nat.le_of_ble_eq_true rfl), (Nat.le_of_ble_eq_true rfl)⟩ dL_done_183 rfl (fun E n9 w9 hx => by rw [← hQQ]; exact done_kx C htab hret 9 (by decide +kernel) (by decide +kernel) (by decide +kernel) (by decide +kernel) (by decide +kernel) (by decide +kernel) (by decide +kernel) (by decide +kernel) hx) (fun _ => rfl) (fun p_25 h => ?_)
                      have h : Ok _ _ := h
                      change J X K 6 False QQ 1 6 2064 (jl K (τ.1, p_25.2)) 186 [(0, .ref (K.2.2 + 47)), (1, .int l1), (2, .int l2), (3, .int l3), (4, .int l4)] [.int p_25.1]
                      rw [← hQQ]
                      exact J_iret C hret (Nat.le_of_ble_eq_true rfl) (Nat.le_of_ble_eq_true rfl) ⟨_, h.osome, rfl, rfl, rfl⟩ dL_done_186
                    · have h := h.neg c_24
                      by_cases c_26 : Int32.toInt l1 = 10
                      · have h := h.pos c_26
                        refine J_tab (t := 187) C 10 c_26 dL_done_1 (by decide) (by decide) rfl (by decide) ?_
                        refine J_aload_n (i := 0) (p := 0) C dL_done_187 rfl rfl rfl ?_
                        refine J_iload_n (i := 2) (p := 2) C dL_done_188 rfl rfl rfl ?_
                        refine Jl_cV (rest := []) (st9 := fun p_27 => [.int p_27.1]) (wd := fun p_27 => p_27.2) C hR hX cv_RL_50 (k11_undo hl (Ok.ofhdl h)) rfl rfl (Nat.le_of_ble_eq_true rfl) (Nat.le_of_ble_eq_true rfl) (Nat.le_of_ble_eq_true rfl) ⟨(Nat.le_of_ble_eq_true rfl), (Nat.le_of_ble_eq_true rfl)⟩ dL_done_189 rfl (fun E n9 w9 hx => by rw [← hQQ]; exact done_kx C htab hret 10 (by decide +kernel) (by decide +kernel) (by decide +kernel) (by decide +kernel) (by decide +kernel) (by decide +kernel) (by decide +kernel) (by decide +kernel) hx) (fun _ => rfl) (fun p_27 h => ?_)
                        have h : Ok _ _ := h
                        change J X K 6 False QQ 1 6 2064 (jl K (τ.1, p_27.2)) 192 [(0, .ref (K.2.2 + 47)), (1, .int l1), (2, .int l2), (3, .int l3), (4, .int l4)] [.int p_27.1]
                        rw [← hQQ]
                        exact J_iret C hret (Nat.le_of_ble_eq_true rfl) (Nat.le_of_ble_eq_true rfl) ⟨_, h.osome, rfl, rfl, rfl⟩ dL_done_192
                      · have h := h.neg c_26
                        by_cases c_28 : Int32.toInt l1 = 11
                        · have h := h.pos c_28
                          refine J_tab (t := 193) C 11 c_28 dL_done_1 (by decide) (by decide) rfl (by decide) ?_
                          refine J_aload_n (i := 0) (p := 0) C dL_done_193 rfl rfl rfl ?_
                          refine J_iload_n (i := 2) (p := 2) C dL_done_194 rfl rfl rfl ?_
                          refine Jl_cV (rest := []) (st9 := fun p_29 => [.int p_29.1]) (wd := fun p_29 => p_29.2) C hR hX cv_RL_53 (k11_redo hl (Ok.ofhdl h)) rfl rfl (Nat.le_of_ble_eq_true rfl) (Nat.le_of_ble_eq_true rfl) (Nat.le_of_ble_eq_true rfl) ⟨(Nat.le_of_ble_eq_true rfl), (Nat.le_of_ble_eq_true rfl)⟩ dL_done_195 rfl (fun E n9 w9 hx => by rw [← hQQ]; exact done_kx C htab hret 11 (by decide +kernel) (by decide +kernel) (by decide +kernel) (by decide +kernel) (by decide +kernel) (by decide +kernel) (by decide +kernel) (by decide +kernel) hx) (fun _ => rfl) (fun p_29 h => ?_)
                          have h : Ok _ _ := h
                          change J X K 6 False QQ 1 6 2064 (jl K (τ.1, p_29.2)) 198 [(0, .ref (K.2.2 + 47)), (1, .int l1), (2, .int l2), (3, .int l3), (4, .int l4)] [.int p_29.1]
                          rw [← hQQ]
                          exact J_iret C hret (Nat.le_of_ble_eq_true rfl) (Nat.le_of_ble_eq_true rfl) ⟨_, h.osome, rfl, rfl, rfl⟩ dL_done_198
                        · have h := h.neg c_28
                          by_cases c_30 : Int32.toInt l1 = 12
                          · have h := h.pos c_30
                            refine J_tab (t := 199) C 12 c_30 dL_done_1 (by decide) (by decide) rfl (by decide) ?_
                            refine J_aload_n (i := 0) (p := 0) C dL_done_199 rfl rfl rfl ?_
                            refine J_iload_n (i := 2) (p := 2) C dL_done_200 rfl rfl rfl ?_
                            refine Jl_cV (rest := []) (st9 := fun p_31 => [.int p_31.1]) (wd := fun p_31 => p_31.2) C hR hX cv_RL_56 (k11_branch hl (Ok.ofhdl h)) rfl rfl (Nat.le_of_ble_eq_true rfl) (Nat.le_of_ble_eq_true rfl) (Nat.le_of_ble_eq_true rfl) ⟨(Nat.le_of_ble_eq_true rfl), (Nat.le_of_ble_eq_true rfl)⟩ dL_done_201 rfl (fun E n9 w9 hx => by rw [← hQQ]; exact done_kx C htab hret 12 (by decide +kernel) (by decide +kernel) (by decide +kernel) (by decide +kernel) (by decide +kernel) (by decide +kernel) (by decide +kernel) (by decide +kernel) hx) (fun _ => rfl) (fun p_31 h => ?_)
                            have h : Ok _ _ := h
                            change J X K 6 False QQ 1 6 2064 (jl K (τ.1, p_31.2)) 204 [(0, .ref (K.2.2 + 47)), (1, .int l1), (2, .int l2), (3, .int l3), (4, .int l4)] [.int p_31.1]
                            rw [← hQQ]
                            exact J_iret C hret (Nat.le_of_ble_eq_true rfl) (Nat.le_of_ble_eq_true rfl) ⟨_, h.osome, rfl, rfl, rfl⟩ dL_done_204
                          · have h := h.neg c_30
                            by_cases c_32 : Int32.toInt l1 = 13
                            · have h := h.pos c_32
                              refine J_tab (t := 205) C 13 c_32 dL_done_1 (by decide) (by decide) rfl (by decide) ?_
                              refine J_aload_n (i := 0) (p := 0) C dL_done_205 rfl rfl rfl ?_
                              refine J_iload_n (i := 2) (p := 2) C dL_done_206 rfl rfl rfl ?_
                              refine J_iconst (v := 1) C (by decide) dL_done_207 rfl ?_
                              refine J_icmp_ne (t := 215) C dL_done_208 (by decide) rfl (fun c_33 => ?_) (fun c_33 => ?_)
                              · have h := h.neg c_33
                                refine J_iconst (v := 0) C (by decide) dL_done_215 rfl ?_
                                refine J.sub [] rfl ?_
                                exact hj_216 τ (0 : Int32) h
                              · have h := h.pos (Decidable.not_not.mp c_33)
                                refine J_iconst (v := 1) C (by decide) dL_done_211 rfl ?_
                                refine J_goto (t := 216) C dL_done_212 (by decide) ?_
                                refine J.sub [] rfl ?_
                                exact hj_216 τ (1 : Int32) h
                            · have h := h.neg c_32
                              by_cases c_34 : Int32.toInt l1 = 14
                              · have h := h.pos c_34
                                refine J_tab (t := 223) C 14 c_34 dL_done_1 (by decide) (by decide) rfl (by decide) ?_
                                refine J_aload_n (i := 0) (p := 0) C dL_done_223 rfl rfl rfl ?_
                                refine J_iload_n (i := 2) (p := 2) C dL_done_224 rfl rfl rfl ?_
                                refine Jl_cV (rest := []) (st9 := fun p_35 => [.int p_35.1]) (wd := fun p_35 => p_35.2) C hR hX cv_RL_67 (k11_setCursor hl (Ok.ofhdl h)) rfl rfl (Nat.le_of_ble_eq_true rfl) (Nat.le_of_ble_eq_true rfl) (Nat.le_of_ble_eq_true rfl) ⟨(Nat.le_of_ble_eq_true rfl), (Nat.le_of_ble_eq_true rfl)⟩ dL_done_225 rfl (fun E n9 w9 hx => by rw [← hQQ]; exact done_kx C htab hret 14 (by decide +kernel) (by decide +kernel) (by decide +kernel) (by decide +kernel) (by decide +kernel) (by decide +kernel) (by decide +kernel) (by decide +kernel) hx) (fun _ => rfl) (fun p_35 h => ?_)
                                have h : Ok _ _ := h
                                change J X K 6 False QQ 1 6 2064 (jl K (τ.1, p_35.2)) 228 [(0, .ref (K.2.2 + 47)), (1, .int l1), (2, .int l2), (3, .int l3), (4, .int l4)] [.int p_35.1]
                                rw [← hQQ]
                                exact J_iret C hret (Nat.le_of_ble_eq_true rfl) (Nat.le_of_ble_eq_true rfl) ⟨_, h.osome, rfl, rfl, rfl⟩ dL_done_228
                              · have h := h.neg c_34
                                by_cases c_36 : Int32.toInt l1 = 15
                                · have h := h.pos c_36
                                  refine J_tab (t := 229) C 15 c_36 dL_done_1 (by decide) (by decide) rfl (by decide) ?_
                                  refine J_aload_n (i := 0) (p := 0) C dL_done_229 rfl rfl rfl ?_
                                  refine J_iload_n (i := 2) (p := 2) C dL_done_230 rfl rfl rfl ?_
                                  refine Jl_cV (rest := []) (st9 := fun p_37 => [.int p_37.1]) (wd := fun p_37 => p_37.2) C hR hX cv_RL_70 (k11_addCursor hl (Ok.ofhdl h)) rfl rfl (Nat.le_of_ble_eq_true rfl) (Nat.le_of_ble_eq_true rfl) (Nat.le_of_ble_eq_true rfl) ⟨(Nat.le_of_ble_eq_true rfl), (Nat.le_of_ble_eq_true rfl)⟩ dL_done_231 rfl (fun E n9 w9 hx => by rw [← hQQ]; exact done_kx C htab hret 15 (by decide +kernel) (by decide +kernel) (by decide +kernel) (by decide +kernel) (by decide +kernel) (by decide +kernel) (by decide +kernel) (by decide +kernel) hx) (fun _ => rfl) (fun p_37 h => ?_)
                                  have h : Ok _ _ := h
                                  change J X K 6 False QQ 1 6 2064 (jl K (τ.1, p_37.2)) 234 [(0, .ref (K.2.2 + 47)), (1, .int l1), (2, .int l2), (3, .int l3), (4, .int l4)] [.int p_37.1]
                                  rw [← hQQ]
                                  exact J_iret C hret (Nat.le_of_ble_eq_true rfl) (Nat.le_of_ble_eq_true rfl) ⟨_, h.osome, rfl, rfl, rfl⟩ dL_done_234
                                · have h := h.neg c_36
                                  by_cases c_38 : Int32.toInt l1 = 16
                                  · have h := h.pos c_38
                                    refine J_tab (t := 235) C 16 c_38 dL_done_1 (by decide) (by decide) rfl (by decide) ?_
                                    refine J_aload_n (i := 0) (p := 0) C dL_done_235 rfl rfl rfl ?_
                                    refine J_iload_n (i := 2) (p := 2) C dL_done_236 rfl rfl rfl ?_
                                    refine J_iload_n (i := 3) (p := 3) C dL_done_237 rfl rfl rfl ?_
                                    refine Jl_cV (rest := []) (st9 := fun p_39 => [.int p_39.1]) (wd := fun p_39 => p_39.2) C hR hX cv_RL_73 (k11_moveCursors hl (Ok.ofhdl h)) rfl rfl (Nat.le_of_ble_eq_true rfl) (Nat.le_of_ble_eq_true rfl) (Nat.le_of_ble_eq_true rfl) ⟨(Nat.le_of_ble_eq_true rfl), (Nat.le_of_ble_eq_true rfl)⟩ dL_done_238 rfl (fun E n9 w9 hx => by rw [← hQQ]; exact done_kx C htab hret 16 (by decide +kernel) (by decide +kernel) (by decide +kernel) (by decide +kernel) (by decide +kernel) (by decide +kernel) (by decide +kernel) (by decide +kernel) hx) (fun _ => rfl) (fun p_39 h => ?_)
                                    have h : Ok _ _ := h
                                    change J X K 6 False QQ 1 6 2064 (jl K (τ.1, p_39.2)) 241 [(0, .ref (K.2.2 + 47)), (1, .int l1), (2, .int l2), (3, .int l3), (4, .int l4)] [.int p_39.1]
                                    rw [← hQQ]
                                    exact J_iret C hret (Nat.le_of_ble_eq_true rfl) (Nat.le_of_ble_eq_true rfl) ⟨_, h.osome, rfl, rfl, rfl⟩ dL_done_241
                                  · have h := h.neg c_38
                                    by_cases c_40 : Int32.toInt l1 = 17
                                    · have h := h.pos c_40
                                      refine J_tab (t := 242) C 17 c_40 dL_done_1 (by decide) (by decide) rfl (by decide) ?_
                                      refine J_aload_n (i := 0) (p := 0) C dL_done_242 rfl rfl rfl ?_
                                      refine J_iload_n (i := 2) (p := 2) C dL_done_243 rfl rfl rfl ?_
                                      refine J_iload_n (i := 3) (p := 3) C dL_done_244 rfl rfl rfl ?_
                                      refine J_iload (i := 4) (p := 4) C dL_done_245 rfl rfl ?_
                                      refine J_iconst (v := 1) C (by decide) dL_done_247 rfl ?_
                                      refine J_icmp_ne (t := 255) C dL_done_248 (by decide) rfl (fun c_41 => ?_) (fun c_41 => ?_)
                                      · have h := h.neg c_41
                                        refine J_iconst (v := 0) C (by decide) dL_done_255 rfl ?_
                                        refine J.sub [] rfl ?_
                                        exact hj_256 τ (0 : Int32) h
                                      · have h := h.pos (Decidable.not_not.mp c_41)
                                        refine J_iconst (v := 1) C (by decide) dL_done_251 rfl ?_
                                        refine J_goto (t := 256) C dL_done_252 (by decide) ?_
                                        refine J.sub [] rfl ?_
                                        exact hj_256 τ (1 : Int32) h
                                    · have h := h.neg c_40
                                      by_cases c_42 : Int32.toInt l1 = 18
                                      · have h := h.pos c_42
                                        refine J_tab (t := 260) C 18 c_42 dL_done_1 (by decide) (by decide) rfl (by decide) ?_
                                        refine J_aload_n (i := 0) (p := 0) C dL_done_260 rfl rfl rfl ?_
                                        refine J_iload_n (i := 2) (p := 2) C dL_done_261 rfl rfl rfl ?_
                                        refine Jl_cV (rest := []) (st9 := fun p_43 => [.int p_43.1]) (wd := fun p_43 => p_43.2) C hR hX cv_RL_80 (k11_dropMark hl (Ok.ofhdl h)) rfl rfl (Nat.le_of_ble_eq_true rfl) (Nat.le_of_ble_eq_true rfl) (Nat.le_of_ble_eq_true rfl) ⟨(Nat.le_of_ble_eq_true rfl), (Nat.le_of_ble_eq_true rfl)⟩ dL_done_262 rfl (fun E n9 w9 hx => by rw [← hQQ]; exact done_kx C htab hret 18 (by decide +kernel) (by decide +kernel) (by decide +kernel) (by decide +kernel) (by decide +kernel) (by decide +kernel) (by decide +kernel) (by decide +kernel) hx) (fun _ => rfl) (fun p_43 h => ?_)
                                        have h : Ok _ _ := h
                                        change J X K 6 False QQ 1 6 2064 (jl K (τ.1, p_43.2)) 265 [(0, .ref (K.2.2 + 47)), (1, .int l1), (2, .int l2), (3, .int l3), (4, .int l4)] [.int p_43.1]
                                        rw [← hQQ]
                                        exact J_iret C hret (Nat.le_of_ble_eq_true rfl) (Nat.le_of_ble_eq_true rfl) ⟨_, h.osome, rfl, rfl, rfl⟩ dL_done_265
                                      · have h := h.neg c_42
                                        by_cases c_44 : Int32.toInt l1 = 19
                                        · have h := h.pos c_44
                                          refine J_tab (t := 266) C 19 c_44 dL_done_1 (by decide) (by decide) rfl (by decide) ?_
                                          refine J_aload_n (i := 0) (p := 0) C dL_done_266 rfl rfl rfl ?_
                                          refine J_iload_n (i := 2) (p := 2) C dL_done_267 rfl rfl rfl ?_
                                          refine J_iload_n (i := 3) (p := 3) C dL_done_268 rfl rfl rfl ?_
                                          refine Jl_cV (rest := []) (st9 := fun p_45 => [.int p_45.1]) (wd := fun p_45 => p_45.2) C hR hX cv_RL_83 (k11_fold hl (Ok.ofhdl h)) rfl rfl (Nat.le_of_ble_eq_true rfl) (Nat.le_of_ble_eq_true rfl) (Nat.le_of_ble_eq_true rfl) ⟨(Nat.le_of_ble_eq_true rfl), (Nat.le_of_ble_eq_true rfl)⟩ dL_done_269 rfl (fun E n9 w9 hx => by rw [← hQQ]; exact done_kx C htab hret 19 (by decide +kernel) (by decide +kernel) (by decide +kernel) (by decide +kernel) (by decide +kernel) (by decide +kernel) (by decide +kernel) (by decide +kernel) hx) (fun _ => rfl) (fun p_45 h => ?_)
                                          have h : Ok _ _ := h
                                          change J X K 6 False QQ 1 6 2064 (jl K (τ.1, p_45.2)) 272 [(0, .ref (K.2.2 + 47)), (1, .int l1), (2, .int l2), (3, .int l3), (4, .int l4)] [.int p_45.1]
                                          rw [← hQQ]
                                          exact J_iret C hret (Nat.le_of_ble_eq_true rfl) (Nat.le_of_ble_eq_true rfl) ⟨_, h.osome, rfl, rfl, rfl⟩ dL_done_272
                                        · have h := h.neg c_44
                                          by_cases c_46 : Int32.toInt l1 = 20
                                          · have h := h.pos c_46
                                            refine J_tab (t := 273) C 20 c_46 dL_done_1 (by decide) (by decide) rfl (by decide) ?_
                                            refine J_aload_n (i := 0) (p := 0) C dL_done_273 rfl rfl rfl ?_
                                            refine J_iload_n (i := 2) (p := 2) C dL_done_274 rfl rfl rfl ?_
                                            refine Jl_cV (rest := []) (st9 := fun p_47 => [.int p_47.1]) (wd := fun p_47 => p_47.2) C hR hX cv_RL_86 (k11_unfold hl (Ok.ofhdl h)) rfl rfl (Nat.le_of_ble_eq_true rfl) (Nat.le_of_ble_eq_true rfl) (Nat.le_of_ble_eq_true rfl) ⟨(Nat.le_of_ble_eq_true rfl), (Nat.le_of_ble_eq_true rfl)⟩ dL_done_275 rfl (fun E n9 w9 hx => by rw [← hQQ]; exact done_kx C htab hret 20 (by decide +kernel) (by decide +kernel) (by decide +kernel) (by decide +kernel) (by decide +kernel) (by decide +kernel) (by decide +kernel) (by decide +kernel) hx) (fun _ => rfl) (fun p_47 h => ?_)
                                            have h : Ok _ _ := h
                                            change J X K 6 False QQ 1 6 2064 (jl K (τ.1, p_47.2)) 278 [(0, .ref (K.2.2 + 47)), (1, .int l1), (2, .int l2), (3, .int l3), (4, .int l4)] [.int p_47.1]
                                            rw [← hQQ]
                                            exact J_iret C hret (Nat.le_of_ble_eq_true rfl) (Nat.le_of_ble_eq_true rfl) ⟨_, h.osome, rfl, rfl, rfl⟩ dL_done_278
                                          · have h := h.neg c_46
                                            by_cases c_48 : Int32.toInt l1 = 21
                                            · have h := h.pos c_48
                                              refine J_tab (t := 279) C 21 c_48 dL_done_1 (by decide) (by decide) rfl (by decide) ?_
                                              refine J_aload_n (i := 0) (p := 0) C dL_done_279 rfl rfl rfl ?_
                                              refine J_iload_n (i := 2) (p := 2) C dL_done_280 rfl rfl rfl ?_
                                              refine J_iload_n (i := 3) (p := 3) C dL_done_281 rfl rfl rfl ?_
                                              refine Jl_cV (rest := []) (st9 := fun p_49 => [.int p_49.1]) (wd := fun p_49 => p_49.2) C hR hX cv_RL_89 (k11_copy hl (Ok.ofhdl h)) rfl rfl (Nat.le_of_ble_eq_true rfl) (Nat.le_of_ble_eq_true rfl) (Nat.le_of_ble_eq_true rfl) ⟨(Nat.le_of_ble_eq_true rfl), (Nat.le_of_ble_eq_true rfl)⟩ dL_done_282 rfl (fun E n9 w9 hx => by rw [← hQQ]; exact done_kx C htab hret 21 (by decide +kernel) (by decide +kernel) (by decide +kernel) (by decide +kernel) (by decide +kernel) (by decide +kernel) (by decide +kernel) (by decide +kernel) hx) (fun _ => rfl) (fun p_49 h => ?_)
                                              have h : Ok _ _ := h
                                              change J X K 6 False QQ 1 6 2064 (jl K (τ.1, p_49.2)) 285 [(0, .ref (K.2.2 + 47)), (1, .int l1), (2, .int l2), (3, .int l3), (4, .int l4)] [.int p_49.1]
                                              rw [← hQQ]
                                              exact J_iret C hret (Nat.le_of_ble_eq_true rfl) (Nat.le_of_ble_eq_true rfl) ⟨_, h.osome, rfl, rfl, rfl⟩ dL_done_285
                                            · have h := h.neg c_48
                                              by_cases c_50 : Int32.toInt l1 = 22
                                              · have h := h.pos c_50
                                                refine J_tab (t := 286) C 22 c_50 dL_done_1 (by decide) (by decide) rfl (by decide) ?_
                                                refine J_aload_n (i := 0) (p := 0) C dL_done_286 rfl rfl rfl ?_
                                                refine J_iload_n (i := 2) (p := 2) C dL_done_287 rfl rfl rfl ?_
                                                refine J_iconst (v := 1) C (by decide) dL_done_288 rfl ?_
                                                refine J_icmp_ne (t := 296) C dL_done_289 (by decide) rfl (fun c_51 => ?_) (fun c_51 => ?_)
                                                · have h := h.neg c_51
                                                  refine J_iconst (v := 0) C (by decide) dL_done_296 rfl ?_
                                                  refine J.sub [] rfl ?_
                                                  exact hj_297 τ (0 : Int32) h
                                                · have h := h.pos (Decidable.not_not.mp c_51)
                                                  refine J_iconst (v := 1) C (by decide) dL_done_292 rfl ?_
                                                  refine J_goto (t := 297) C dL_done_293 (by decide) ?_
                                                  refine J.sub [] rfl ?_
                                                  exact hj_297 τ (1 : Int32) h
                                              · have h := h.neg c_50
                                                by_cases c_52 : Int32.toInt l1 = 23
                                                · have h := h.pos c_52
                                                  refine J_tab (t := 301) C 23 c_52 dL_done_1 (by decide) (by decide) rfl (by decide) ?_
                                                  refine J_aload_n (i := 0) (p := 0) C dL_done_301 rfl rfl rfl ?_
                                                  refine J_iload_n (i := 2) (p := 2) C dL_done_302 rfl rfl rfl ?_
                                                  refine J_iload_n (i := 3) (p := 3) C dL_done_303 rfl rfl rfl ?_
                                                  refine J_iconst (v := 1) C (by decide) dL_done_304 rfl ?_
                                                  refine J_icmp_ne (t := 312) C dL_done_305 (by decide) rfl (fun c_53 => ?_) (fun c_53 => ?_)
                                                  · have h := h.neg c_53
                                                    refine J_iconst (v := 0) C (by decide) dL_done_312 rfl ?_
                                                    refine J.sub [] rfl ?_
                                                    exact hj_313 τ (0 : Int32) h
                                                  · have h := h.pos (Decidable.not_not.mp c_53)
                                                    refine J_iconst (v := 1) C (by decide) dL_done_308 rfl ?_
                                                    refine J_goto (t := 313) C dL_done_309 (by decide) ?_
                                                    refine J.sub [] rfl ?_
                                                    exact hj_313 τ (1 : Int32) h
                                                · have h := h.neg c_52
                                                  by_cases c_54 : Int32.toInt l1 = 24
                                                  · have h := h.pos c_54
                                                    refine J_tab (t := 317) C 24 c_54 dL_done_1 (by decide) (by decide) rfl (by decide) ?_
                                                    refine J_aload_n (i := 0) (p := 0) C dL_done_317 rfl rfl rfl ?_
                                                    refine J_iload_n (i := 2) (p := 2) C dL_done_318 rfl rfl rfl ?_
                                                    refine Jl_cV (rest := []) (st9 := fun p_55 => [.int p_55.1]) (wd := fun p_55 => p_55.2) C hR hX cv_RL_99 (k11_play hl (Ok.ofhdl h)) rfl rfl (Nat.le_of_ble_eq_true rfl) (Nat.le_of_ble_eq_true rfl) (Nat.le_of_ble_eq_true rfl) ⟨(Nat.le_of_ble_eq_true rfl), (Nat.le_of_ble_eq_true rfl)⟩ dL_done_319 rfl (fun E n9 w9 hx => by rw [← hQQ]; exact done_kx C htab hret 24 (by decide +kernel) (by decide +kernel) (by decide +kernel) (by decide +kernel) (by decide +kernel) (by decide +kernel) (by decide +kernel) (by decide +kernel) hx) (fun _ => rfl) (fun p_55 h => ?_)
                                                    have h : Ok _ _ := h
                                                    change J X K 6 False QQ 1 6 2064 (jl K (τ.1, p_55.2)) 322 [(0, .ref (K.2.2 + 47)), (1, .int l1), (2, .int l2), (3, .int l3), (4, .int l4)] [.int p_55.1]
                                                    rw [← hQQ]
                                                    exact J_iret C hret (Nat.le_of_ble_eq_true rfl) (Nat.le_of_ble_eq_true rfl) ⟨_, h.osome, rfl, rfl, rfl⟩ dL_done_322
                                                  · have h := h.neg c_54
                                                    by_cases c_56 : Int32.toInt l1 = 25
                                                    · have h := h.pos c_56
                                                      refine J_tab (t := 323) C 25 c_56 dL_done_1 (by decide) (by decide) rfl (by decide) ?_
                                                      refine J_aload_n (i := 0) (p := 0) C dL_done_323 rfl rfl rfl ?_
                                                      refine J_iload_n (i := 2) (p := 2) C dL_done_324 rfl rfl rfl ?_
                                                      refine J_iload_n (i := 3) (p := 3) C dL_done_325 rfl rfl rfl ?_
                                                      refine J_iload (i := 4) (p := 4) C dL_done_326 rfl rfl ?_
                                                      refine J_iconst (v := 1) C (by decide) dL_done_328 rfl ?_
                                                      refine J_iload (i := 4) (p := 4) C dL_done_329 rfl rfl ?_
                                                      refine J_iconst (v := 5) C (by decide) dL_done_331 rfl ?_
                                                      refine J_irem C (by decide) dL_done_332 rfl ?_
                                                      refine J_iadd C dL_done_333 rfl ?_
                                                      refine Jl_cV (rest := []) (st9 := fun p_57 => [.int p_57.1]) (wd := fun p_57 => p_57.2) C hR hX cv_RL_102 (k11_copyBlock hl (Ok.ofhdl h)) rfl rfl (Nat.le_of_ble_eq_true rfl) (Nat.le_of_ble_eq_true rfl) (Nat.le_of_ble_eq_true rfl) ⟨(Nat.le_of_ble_eq_true rfl), (Nat.le_of_ble_eq_true rfl)⟩ dL_done_334 rfl (fun E n9 w9 hx => by rw [← hQQ]; exact done_kx C htab hret 25 (by decide +kernel) (by decide +kernel) (by decide +kernel) (by decide +kernel) (by decide +kernel) (by decide +kernel) (by decide +kernel) (by decide +kernel) hx) (fun _ => rfl) (fun p_57 h => ?_)
                                                      have h : Ok _ _ := h
                                                      change J X K 6 False QQ 1 6 2064 (jl K (τ.1, p_57.2)) 337 [(0, .ref (K.2.2 + 47)), (1, .int l1), (2, .int l2), (3, .int l3), (4, .int l4)] [.int p_57.1]
                                                      rw [← hQQ]
                                                      exact J_iret C hret (Nat.le_of_ble_eq_true rfl) (Nat.le_of_ble_eq_true rfl) ⟨_, h.osome, rfl, rfl, rfl⟩ dL_done_337
                                                    · have h := h.neg c_56
                                                      by_cases c_58 : Int32.toInt l1 = 26
                                                      · have h := h.pos c_58
                                                        refine J_tab (t := 338) C 26 c_58 dL_done_1 (by decide) (by decide) rfl (by decide) ?_
                                                        refine J_aload_n (i := 0) (p := 0) C dL_done_338 rfl rfl rfl ?_
                                                        refine J_iload_n (i := 2) (p := 2) C dL_done_339 rfl rfl rfl ?_
                                                        refine Jl_cV (rest := []) (st9 := fun p_59 => [.int p_59.1]) (wd := fun p_59 => p_59.2) C hR hX cv_RL_106 (k11_letterAt hl (Ok.ofhdl h)) rfl rfl (Nat.le_of_ble_eq_true rfl) (Nat.le_of_ble_eq_true rfl) (Nat.le_of_ble_eq_true rfl) ⟨(Nat.le_of_ble_eq_true rfl), (Nat.le_of_ble_eq_true rfl)⟩ dL_done_340 rfl (fun E n9 w9 hx => by rw [← hQQ]; exact done_kx C htab hret 26 (by decide +kernel) (by decide +kernel) (by decide +kernel) (by decide +kernel) (by decide +kernel) (by decide +kernel) (by decide +kernel) (by decide +kernel) hx) (fun _ => rfl) (fun p_59 h => ?_)
                                                        have h : Ok _ _ := h
                                                        change J X K 6 False QQ 1 6 2064 (jl K (τ.1, p_59.2)) 343 [(0, .ref (K.2.2 + 47)), (1, .int l1), (2, .int l2), (3, .int l3), (4, .int l4)] [.int p_59.1]
                                                        rw [← hQQ]
                                                        exact J_iret C hret (Nat.le_of_ble_eq_true rfl) (Nat.le_of_ble_eq_true rfl) ⟨_, h.osome, rfl, rfl, rfl⟩ dL_done_343
                                                      · have h := h.neg c_58
                                                        refine J_tabO (t := 344) C dL_done_1 (by omega) (by decide) ?_
                                                        refine J_aload_n (i := 0) (p := 0) C dL_done_344 rfl rfl rfl ?_
                                                        refine J_iload_n (i := 2) (p := 2) C dL_done_345 rfl rfl rfl ?_
                                                        refine Jl_cV (rest := []) (st9 := fun p_60 => [.int p_60.1]) (wd := fun p_60 => p_60.2) C hR hX cv_RL_109 (k11_lineOf hl (Ok.ofhdl h)) rfl rfl (Nat.le_of_ble_eq_true rfl) (Nat.le_of_ble_eq_true rfl) (Nat.le_of_ble_eq_true rfl) ⟨(Nat.le_of_ble_eq_true rfl), (Nat.le_of_ble_eq_true rfl)⟩ dL_done_346 rfl (fun E n9 w9 hx => by rw [← hQQ]; exact done_kx C htab hret 27 (by decide +kernel) (by decide +kernel) (by decide +kernel) (by decide +kernel) (by decide +kernel) (by decide +kernel) (by decide +kernel) (by decide +kernel) hx) (fun _ => rfl) (fun p_60 h => ?_)
                                                        have h : Ok _ _ := h
                                                        change J X K 6 False QQ 1 6 2064 (jl K (τ.1, p_60.2)) 349 [(0, .ref (K.2.2 + 47)), (1, .int l1), (2, .int l2), (3, .int l3), (4, .int l4)] [.int p_60.1]
                                                        rw [← hQQ]
                                                        exact J_iret C hret (Nat.le_of_ble_eq_true rfl) (Nat.le_of_ble_eq_true rfl) ⟨_, h.osome, rfl, rfl, rfl⟩ dL_done_349
def fL_feeds_j90 (a1 : Nat) (l2 : Int32) (τ_90 : LawS) (s0_90 : Int32) : Option (Int32 × LawS) :=
  gd (isB s0_90) <|
  some (s0_90, τ_90)
def fL_feeds_j89 (a1 : Nat) (l2 : Int32) (τ_89 : LawS) : Option (Int32 × LawS) :=
  fL_feeds_j90 a1 l2 τ_89 (0 : Int32)
def fL_feeds_j58 (a1 : Nat) (l2 : Int32) (τ_58 : LawS) (l4_58 : Int32) (l5_58 : Int64) : Option ((LawS × Int32 × Int32) ⊕ (LawS × Int32)) :=
  bnd (nox (f11_feed τ_58.2 l5_58)) fun p_2 =>
  stp p_2.1 fun x3_1 =>
  stp (l4_58 + (8 : Int32)) fun x4_2 =>
  some (.inl ((τ_58.1, p_2.2), x3_1, x4_2))
def fL_feeds_b23 (a1 : Nat) (l2 : Int32) (τ_23 : LawS) (l4_23 : Int32) (l5_23 : Int64) (l7_23 : Int32) : Option ((Int64 × Int32) ⊕ Int64) :=
  if (l4_23 + (8 : Int32)) ≤ l7_23 then
    some (.inr l5_23)
  else
    if l2 ≤ l7_23 then
      some (.inr l5_23)
    else
      gd (inb l7_23 (lq a1)) <|
      stp ((l5_23 <<< (Int32.toInt64 (8 : Int32) &&& 63)) ||| (Int32.toInt64 (τ_23.1 a1 (Int32.toNatClampNeg l7_23)))) fun x5_3 =>
      stp (l7_23 + (1 : Int32)) fun x7_4 =>
      some (.inl (x5_3, x7_4))
def fL_feeds_j23 (a1 : Nat) (l2 : Int32) (τ_23 : LawS) (l4_23 : Int32) (l5_23 : Int64) (l7_23 : Int32) : Option ((LawS × Int32 × Int32) ⊕ (LawS × Int32)) :=
  bnd (loopF (fun s_23 => fL_feeds_b23 a1 l2 τ_23 l4_23 s_23.1 s_23.2) FU (l5_23, l7_23)) fun r_23 =>
    fL_feeds_j58 a1 l2 τ_23 l4_23 r_23
def fL_feeds_b10 (a1 : Nat) (l2 : Int32) (τ_10 : LawS) (l3_10 : Int32) (l4_10 : Int32) : Option ((LawS × Int32 × Int32) ⊕ (LawS × Int32)) :=
  if l2 ≤ l4_10 then
    some (.inr (τ_10, l3_10))
  else
    stp (0 : Int64) fun x5_5 =>
    stp l4_10 fun x7_6 =>
    fL_feeds_j23 a1 l2 τ_10 l4_10 x5_5 x7_6
def fL_feeds_j10 (a1 : Nat) (l2 : Int32) (τ_10 : LawS) (l3_10 : Int32) (l4_10 : Int32) : Option (Int32 × LawS) :=
  bnd (loopF (fun s_10 => fL_feeds_b10 a1 l2 s_10.1 s_10.2.1 s_10.2.2) FU (τ_10, l3_10, l4_10)) fun r_10 =>
    if r_10.2 = l2 then
      bnd (nox (f11_count r_10.1.2 (5 : Int32))) fun p_11 =>
      if p_11.1 = l2 then
        fL_feeds_j90 a1 l2 (r_10.1.1, p_11.2) (1 : Int32)
      else
        fL_feeds_j89 a1 l2 (r_10.1.1, p_11.2)
    else
      fL_feeds_j89 a1 l2 r_10.1
def fL_feeds (τ : LawS) (a1 : Nat) (l2 : Int32) : Option (Int32 × LawS) :=
  bnd (f11_clearTape τ.2) fun p_13 =>
  stp p_13.1 fun x3_7 =>
  stp (0 : Int32) fun x3_8 =>
  stp (0 : Int32) fun x4_9 =>
  fL_feeds_j10 a1 l2 (τ.1, p_13.2) x3_8 x4_9
set_option maxHeartbeats 4000000 in
set_option maxRecDepth 100000 in
theorem kL_feeds {l : Launch} {K : JK} (hl : l.stackTraces = false) {τ : LawS} {a1 : Nat} {l2 : Int32} (h_a1 : kl a1 = 12) {Qf : Int32 × LawS → Prop} (h : Ok (fL_feeds τ a1 l2) Qf) : Con l K yL_feeds (.code yL_feeds cL_feeds 8 (some .boolean) :: TB) 7 0 0 False [.ref (K.2.2 + 47), .ref (K.2.2 + a1), .int l2] 2064 (jl K τ) (PL Qf (fun p => some (.int p.1)) (fun p => jl K p.2)) PN := by
  refine Con.enter (own := RL) hl (by decide) rfl (Nat.le_of_ble_eq_true rfl) ?_
  intro X hX hR C hret hnt
  generalize hQQ : jQ X K 0 0 (PL Qf (fun p => some (.int p.1)) (fun p => jl K p.2)) PN False = QQ
  change J X K 8 False QQ 0 0 2064 (jl K τ) 0 [(0, .ref (K.2.2 + 47)), (1, .ref (K.2.2 + a1)), (2, .int l2)] []
  have hj_90 : (∀ (τ_90 : LawS) (s0_90 : Int32), Ok (fL_feeds_j90 a1 l2 τ_90 s0_90) Qf → J X K 8 False QQ 0 0 2064 (jl K τ_90) 90 [] [.int s0_90]) := by
    intro τ_90 s0_90 h
    unfold fL_feeds_j90 at h
    obtain ⟨g_1, h⟩ := Ok.ofgd h
    rw [← hQQ]
    exact J_zret C hret (narB g_1).1 (Nat.le_of_ble_eq_true rfl) (Nat.le_of_ble_eq_true rfl) ⟨_, h.osome, rfl, rfl, rfl⟩ dL_feeds_90
  have hj_89 : (∀ (τ_89 : LawS), Ok (fL_feeds_j89 a1 l2 τ_89) Qf → J X K 8 False QQ 0 0 2064 (jl K τ_89) 89 [] []) := by
    intro τ_89 h
    unfold fL_feeds_j89 at h
    refine J_iconst (v := 0) C (by decide) dL_feeds_89 rfl ?_
    exact hj_90 τ_89 (0 : Int32) h
  have hj_10 : (∀ (τ_10 : LawS) (l3_10 : Int32) (l4_10 : Int32), Ok (fL_feeds_j10 a1 l2 τ_10 l3_10 l4_10) Qf → J X K 8 False QQ 0 0 2064 (jl K τ_10) 10 [(0, .ref (K.2.2 + 47)), (1, .ref (K.2.2 + a1)), (2, .int l2), (3, .int l3_10), (4, .int l4_10)] []) := by
    intro τ_10 l3_10 l4_10 h
    unfold fL_feeds_j10 at h
    refine loop_gen (S := LawS × Int32 × Int32) (P := fun s_10 => J X K 8 False QQ 0 0 2064 (jl K s_10.1) 10 [(0, .ref (K.2.2 + 47)), (1, .ref (K.2.2 + a1)), (2, .int l2), (3, .int s_10.2.1), (4, .int s_10.2.2)] []) ?_ FU (τ_10, l3_10, l4_10) (Ok.ofbnd h)
    intro B_10 hB_10 hE_10 s_10 h
    obtain ⟨τ_10, l3_10, l4_10⟩ := s_10
    have h : Ok (fL_feeds_b10 a1 l2 τ_10 l3_10 l4_10) B_10 := h
    change J X K 8 False QQ 0 0 2064 (jl K τ_10) 10 [(0, .ref (K.2.2 + 47)), (1, .ref (K.2.2 + a1)), (2, .int l2), (3, .int l3_10), (4, .int l4_10)] []
    have hj_58 : (∀ (τ_58 : LawS) (l4_58 : Int32) (l5_58 : Int64), Ok (fL_feeds_j58 a1 l2 τ_58 l4_58 l5_58) B_10 → J X K 8 False QQ 0 0 2064 (jl K τ_58) 58 [(0, .ref (K.2.2 + 47)), (1, .ref (K.2.2 + a1)), (2, .int l2), (4, .int l4_58), (5, .long l5_58)] []) := by
      intro τ_58 l4_58 l5_58 h
      unfold fL_feeds_j58 at h
      refine J_aload_n (i := 0) (p := 0) C dL_feeds_58 rfl rfl rfl ?_
      refine J_lload (i := 5) (p := 4) C dL_feeds_59 rfl rfl ?_
      refine Jl_cV (rest := []) (st9 := fun p_2 => [.int p_2.1]) (wd := fun p_2 => p_2.2) C hR hX cv_RL_130 (k11_feed_n hl (Ok.ofnox h) (fun c hc => hc)) rfl rfl (Nat.le_of_ble_eq_true rfl) (Nat.le_of_ble_eq_true rfl) (Nat.le_of_ble_eq_true rfl) ⟨(Nat.le_of_ble_eq_true rfl), (Nat.le_of_ble_eq_true rfl)⟩ dL_feeds_61 rfl (fun E n9 w9 hx => hx.elim) (fun _ => rfl) (fun p_2 h => ?_)
      have h : Ok _ _ := h
      change J X K 8 False QQ 0 0 2064 (jl K (τ_58.1, p_2.2)) 64 [(0, .ref (K.2.2 + 47)), (1, .ref (K.2.2 + a1)), (2, .int l2), (4, .int l4_58), (5, .long l5_58)] [.int p_2.1]
      obtain ⟨x3_1, e_x3_1, h⟩ := Ok.nm h
      refine J_istoreE_n (i := 3) (lv' := [(3, .int x3_1), (0, .ref (K.2.2 + 47)), (1, .ref (K.2.2 + a1)), (2, .int l2), (4, .int l4_58), (5, .long l5_58)]) C e_x3_1 dL_feeds_64 rfl (Nat.le_of_ble_eq_true rfl) rfl rfl ?_
      obtain ⟨x4_2, e_x4_2, h⟩ := Ok.nm h
      refine J_iincE (i := 4) (p := 4) (lv' := [(4, .int x4_2), (3, .int x3_1), (0, .ref (K.2.2 + 47)), (1, .ref (K.2.2 + a1)), (2, .int l2), (5, .long l5_58)]) C e_x4_2 dL_feeds_65 rfl (by decide) (Nat.le_of_ble_eq_true rfl) rfl rfl ?_
      refine J_goto (t := 10) C dL_feeds_68 (by decide) ?_
      refine J.sub [2, 3, 4, 1, 0] rfl ?_
      exact hB_10 ((τ_58.1, p_2.2), x3_1, x4_2) h.osome
    have hj_23 : (∀ (τ_23 : LawS) (l4_23 : Int32) (l5_23 : Int64) (l7_23 : Int32), Ok (fL_feeds_j23 a1 l2 τ_23 l4_23 l5_23 l7_23) B_10 → J X K 8 False QQ 0 0 2064 (jl K τ_23) 23 [(0, .ref (K.2.2 + 47)), (1, .ref (K.2.2 + a1)), (2, .int l2), (4, .int l4_23), (5, .long l5_23), (7, .int l7_23)] []) := by
      intro τ_23 l4_23 l5_23 l7_23 h
      unfold fL_feeds_j23 at h
      refine loop_gen (S := Int64 × Int32) (P := fun s_23 => J X K 8 False QQ 0 0 2064 (jl K τ_23) 23 [(0, .ref (K.2.2 + 47)), (1, .ref (K.2.2 + a1)), (2, .int l2), (4, .int l4_23), (5, .long s_23.1), (7, .int s_23.2)] []) ?_ FU (l5_23, l7_23) (Ok.ofbnd h)
      intro B_23 hB_23 hE_23 s_23 h
      obtain ⟨l5_23, l7_23⟩ := s_23
      have h : Ok (fL_feeds_b23 a1 l2 τ_23 l4_23 l5_23 l7_23) B_23 := h
      change J X K 8 False QQ 0 0 2064 (jl K τ_23) 23 [(0, .ref (K.2.2 + 47)), (1, .ref (K.2.2 + a1)), (2, .int l2), (4, .int l4_23), (5, .long l5_23), (7, .int l7_23)] []
      unfold fL_feeds_b23 at h
      refine J_iload (i := 7) (p := 5) C dL_feeds_23 rfl rfl ?_
      refine J_iload (i := 4) (p := 3) C dL_feeds_25 rfl rfl ?_
      refine J_bipush (v := 8) C (by decide) dL_feeds_27 rfl ?_
      refine J_iadd C dL_feeds_29 rfl ?_
      refine J_icmp_ge (t := 58) C dL_feeds_30 (by decide) rfl (fun c_3 => ?_) (fun c_3 => ?_)
      · have h := h.pos c_3
        have h := hE_23 l5_23 h.osome
        try dsimp only at h
        refine J.sub [0, 1, 2, 3, 4] rfl ?_
        exact hj_58 τ_23 l4_23 l5_23 h
      · have h := h.neg c_3
        refine J_iload (i := 7) (p := 5) C dL_feeds_33 rfl rfl ?_
        refine J_iload_n (i := 2) (p := 2) C dL_feeds_35 rfl rfl rfl ?_
        refine J_icmp_ge (t := 58) C dL_feeds_36 (by decide) rfl (fun c_4 => ?_) (fun c_4 => ?_)
        · have h := h.pos c_4
          have h := hE_23 l5_23 h.osome
          try dsimp only at h
          refine J.sub [0, 1, 2, 3, 4] rfl ?_
          exact hj_58 τ_23 l4_23 l5_23 h
        · have h := h.neg c_4
          refine J_lload (i := 5) (p := 4) C dL_feeds_39 rfl rfl ?_
          refine J_bipush (v := 8) C (by decide) dL_feeds_41 rfl ?_
          refine J_lshl C dL_feeds_43 rfl ?_
          refine J_aload_n (i := 1) (p := 1) C dL_feeds_44 rfl rfl rfl ?_
          refine J_iload (i := 7) (p := 5) C dL_feeds_45 rfl rfl ?_
          obtain ⟨g_5, h⟩ := Ok.ofgd h
          refine Jl_iald C h_a1 rfl g_5 dL_feeds_47 rfl ?_
          refine J_i2l C dL_feeds_48 rfl ?_
          refine J_lor C dL_feeds_49 rfl ?_
          obtain ⟨x5_3, e_x5_3, h⟩ := Ok.nm h
          refine J_lstoreE (i := 5) (lv' := [(5, .long x5_3), (0, .ref (K.2.2 + 47)), (1, .ref (K.2.2 + a1)), (2, .int l2), (4, .int l4_23), (7, .int l7_23)]) C e_x5_3 dL_feeds_50 (Nat.le_of_ble_eq_true rfl) rfl rfl ?_
          obtain ⟨x7_4, e_x7_4, h⟩ := Ok.nm h
          refine J_iincE (i := 7) (p := 5) (lv' := [(7, .int x7_4), (5, .long x5_3), (0, .ref (K.2.2 + 47)), (1, .ref (K.2.2 + a1)), (2, .int l2), (4, .int l4_23)]) C e_x7_4 dL_feeds_52 rfl (by decide) (Nat.le_of_ble_eq_true rfl) rfl rfl ?_
          refine J_goto (t := 23) C dL_feeds_55 (by decide) ?_
          refine J.sub [2, 3, 4, 5, 1, 0] rfl ?_
          exact hB_23 (x5_3, x7_4) h.osome
    unfold fL_feeds_b10 at h
    refine J_iload (i := 4) (p := 4) C dL_feeds_10 rfl rfl ?_
    refine J_iload_n (i := 2) (p := 2) C dL_feeds_12 rfl rfl rfl ?_
    refine J_icmp_ge (t := 71) C dL_feeds_13 (by decide) rfl (fun c_6 => ?_) (fun c_6 => ?_)
    · have h := h.pos c_6
      have h := hE_10 (τ_10, l3_10) h.osome
      try dsimp only at h
      refine J_iload_n (i := 3) (p := 3) C dL_feeds_71 rfl rfl rfl ?_
      refine J_iload_n (i := 2) (p := 2) C dL_feeds_72 rfl rfl rfl ?_
      refine J_icmp_ne (t := 89) C dL_feeds_73 (by decide) rfl (fun c_7 => ?_) (fun c_7 => ?_)
      · have h := h.neg c_7
        refine J.sub [] rfl ?_
        exact hj_89 τ_10 h
      · have h := h.pos (Decidable.not_not.mp c_7)
        refine J_aload_n (i := 0) (p := 0) C dL_feeds_76 rfl rfl rfl ?_
        refine J_iconst (v := 5) C (by decide) dL_feeds_77 rfl ?_
        refine Jl_cV (rest := []) (st9 := fun p_8 => [.int p_8.1]) (wd := fun p_8 => p_8.2) C hR hX cv_RL_134 (k11_count_n hl (Ok.ofnox h) (fun c hc => hc)) rfl rfl (Nat.le_of_ble_eq_true rfl) (Nat.le_of_ble_eq_true rfl) (Nat.le_of_ble_eq_true rfl) ⟨(Nat.le_of_ble_eq_true rfl), (Nat.le_of_ble_eq_true rfl)⟩ dL_feeds_78 rfl (fun E n9 w9 hx => hx.elim) (fun _ => rfl) (fun p_8 h => ?_)
        have h : Ok _ _ := h
        change J X K 8 False QQ 0 0 2064 (jl K (τ_10.1, p_8.2)) 81 [(0, .ref (K.2.2 + 47)), (1, .ref (K.2.2 + a1)), (2, .int l2), (3, .int l3_10), (4, .int l4_10)] [.int p_8.1]
        refine J_iload_n (i := 2) (p := 2) C dL_feeds_81 rfl rfl rfl ?_
        refine J_icmp_ne (t := 89) C dL_feeds_82 (by decide) rfl (fun c_9 => ?_) (fun c_9 => ?_)
        · have h := h.neg c_9
          refine J.sub [] rfl ?_
          exact hj_89 (τ_10.1, p_8.2) h
        · have h := h.pos (Decidable.not_not.mp c_9)
          refine J_iconst (v := 1) C (by decide) dL_feeds_85 rfl ?_
          refine J_goto (t := 90) C dL_feeds_86 (by decide) ?_
          refine J.sub [] rfl ?_
          exact hj_90 (τ_10.1, p_8.2) (1 : Int32) h
    · have h := h.neg c_6
      refine J_lconst (v := 0) C (by decide) dL_feeds_16 rfl ?_
      obtain ⟨x5_5, e_x5_5, h⟩ := Ok.nm h
      refine J_lstoreE (i := 5) (lv' := [(5, .long x5_5), (0, .ref (K.2.2 + 47)), (1, .ref (K.2.2 + a1)), (2, .int l2), (3, .int l3_10), (4, .int l4_10)]) C e_x5_5 dL_feeds_17 (Nat.le_of_ble_eq_true rfl) rfl rfl ?_
      refine J_iload (i := 4) (p := 5) C dL_feeds_19 rfl rfl ?_
      obtain ⟨x7_6, e_x7_6, h⟩ := Ok.nm h
      refine J_istoreE (i := 7) (lv' := [(7, .int x7_6), (5, .long x5_5), (0, .ref (K.2.2 + 47)), (1, .ref (K.2.2 + a1)), (2, .int l2), (3, .int l3_10), (4, .int l4_10)]) C e_x7_6 dL_feeds_21 (Nat.le_of_ble_eq_true rfl) rfl rfl ?_
      refine J.sub [2, 3, 4, 6, 1, 0] rfl ?_
      exact hj_23 τ_10 l4_10 x5_5 x7_6 h
  unfold fL_feeds at h
  refine J_aload_n (i := 0) (p := 0) C dL_feeds_0 rfl rfl rfl ?_
  refine Jl_cV (rest := []) (st9 := fun p_13 => [.int p_13.1]) (wd := fun p_13 => p_13.2) C hR hX cv_RL_127 (k11_clearTape hl (Ok.ofbnd h)) rfl rfl (Nat.le_of_ble_eq_true rfl) (Nat.le_of_ble_eq_true rfl) (Nat.le_of_ble_eq_true rfl) ⟨(Nat.le_of_ble_eq_true rfl), (Nat.le_of_ble_eq_true rfl)⟩ dL_feeds_1 rfl (fun E n9 w9 hx => hx.elim) (fun _ => rfl) (fun p_13 h => ?_)
  have h : Ok _ _ := h
  change J X K 8 False QQ 0 0 2064 (jl K (τ.1, p_13.2)) 4 [(0, .ref (K.2.2 + 47)), (1, .ref (K.2.2 + a1)), (2, .int l2)] [.int p_13.1]
  obtain ⟨x3_7, e_x3_7, h⟩ := Ok.nm h
  refine J_istoreE_n (i := 3) (lv' := [(3, .int x3_7), (0, .ref (K.2.2 + 47)), (1, .ref (K.2.2 + a1)), (2, .int l2)]) C e_x3_7 dL_feeds_4 rfl (Nat.le_of_ble_eq_true rfl) rfl rfl ?_
  refine J_iconst (v := 0) C (by decide) dL_feeds_5 rfl ?_
  obtain ⟨x3_8, e_x3_8, h⟩ := Ok.nm h
  refine J_istoreE_n (i := 3) (lv' := [(3, .int x3_8), (0, .ref (K.2.2 + 47)), (1, .ref (K.2.2 + a1)), (2, .int l2)]) C e_x3_8 dL_feeds_6 rfl (Nat.le_of_ble_eq_true rfl) rfl rfl ?_
  refine J_iconst (v := 0) C (by decide) dL_feeds_7 rfl ?_
  obtain ⟨x4_9, e_x4_9, h⟩ := Ok.nm h
  refine J_istoreE (i := 4) (lv' := [(4, .int x4_9), (3, .int x3_8), (0, .ref (K.2.2 + 47)), (1, .ref (K.2.2 + a1)), (2, .int l2)]) C e_x4_9 dL_feeds_8 (Nat.le_of_ble_eq_true rfl) rfl rfl ?_
  refine J.sub [2, 3, 4, 1, 0] rfl ?_
  exact hj_10 (τ.1, p_13.2) x3_8 x4_9 h
def fL_draws_j115 (l2_28 : Int32) (τ_115 : LawS) (l3_115 : Int32) (s1_115 : Int32) (s2_115 : Int32) : Option ((LawS × Int32) ⊕ LawS) :=
  gd (inb s1_115 40) <|
  stp (uT τ_115 43 (Int32.toNatClampNeg s1_115) s2_115) fun τx_1 =>
  stp (l3_115 + (1 : Int32)) fun x3_2 =>
  some (.inl (τx_1, x3_2))
def fL_draws_b28 (τ_28 : LawS) (l2_28 : Int32) (l3_28 : Int32) : Option ((LawS × Int32) ⊕ LawS) :=
  if l2_28 ≤ l3_28 then
    some (.inr τ_28)
  else
    bnd (fL_next τ_28) fun p_3 =>
    stp (p_3.1 - p_3.1 / (11 : Int32) * (11 : Int32)) fun x4_3 =>
    if (4 : Int32) ≤ x4_3 then
      if (6 : Int32) ≤ x4_3 then
        if x4_3 = (6 : Int32) then
          fL_draws_j115 l2_28 p_3.2 l3_28 l3_28 (10 : Int32)
        else
          if x4_3 = (7 : Int32) then
            fL_draws_j115 l2_28 p_3.2 l3_28 l3_28 (9 : Int32)
          else
            if x4_3 = (8 : Int32) then
              fL_draws_j115 l2_28 p_3.2 l3_28 l3_28 (45 : Int32)
            else
              fL_draws_j115 l2_28 p_3.2 l3_28 l3_28 ((97 : Int32) + (x4_3 - x4_3 / (3 : Int32) * (3 : Int32)))
      else
        fL_draws_j115 l2_28 p_3.2 l3_28 l3_28 (32 : Int32)
    else
      fL_draws_j115 l2_28 p_3.2 l3_28 l3_28 ((97 : Int32) + (x4_3 - x4_3 / (2 : Int32) * (2 : Int32)))
def fL_draws_j28 (τ_28 : LawS) (l2_28 : Int32) (l3_28 : Int32) : Option (Int32 × LawS) :=
  bnd (loopF (fun s_28 => fL_draws_b28 s_28.1 l2_28 s_28.2) FU (τ_28, l3_28)) fun r_28 =>
    some (l2_28, r_28)
def fL_draws_j25 (τ_25 : LawS) (s0_25 : Int32) : Option (Int32 × LawS) :=
  stp s0_25 fun x2_4 =>
  stp (0 : Int32) fun x3_5 =>
  fL_draws_j28 τ_25 x2_4 x3_5
def fL_draws (τ : LawS) : Option (Int32 × LawS) :=
  bnd (fL_next τ) fun p_9 =>
  if (p_9.1 - p_9.1 / (4 : Int32) * (4 : Int32)) = 0 then
    bnd (fL_next p_9.2) fun p_12 =>
    fL_draws_j25 p_12.2 (p_12.1 - p_12.1 / (3 : Int32) * (3 : Int32))
  else
    bnd (fL_from p_9.2 (1 : Int32) (12 : Int32)) fun p_11 =>
    fL_draws_j25 p_11.2 p_11.1
set_option maxHeartbeats 4000000 in
set_option maxRecDepth 100000 in
theorem kL_draws {l : Launch} {K : JK} (hl : l.stackTraces = false) {τ : LawS}   {Qf : Int32 × LawS → Prop} (h : Ok (fL_draws τ) Qf) : Con l K yL_draws (.code yL_draws cL_draws 5 (some .int) :: TB) 2 0 0 False [.ref (K.2.2 + 0), .ref (K.2.2 + 43)] 2064 (jl K τ) (PL Qf (fun p => some (.int p.1)) (fun p => jl K p.2)) PN := by
  refine Con.enter (own := RL) hl (by decide) rfl (Nat.le_of_ble_eq_true rfl) ?_
  intro X hX hR C hret hnt
  generalize hQQ : jQ X K 0 0 (PL Qf (fun p => some (.int p.1)) (fun p => jl K p.2)) PN False = QQ
  change J X K 5 False QQ 0 0 2064 (jl K τ) 0 [(0, .ref (K.2.2 + 0)), (1, .ref (K.2.2 + 43))] []
  have hj_28 : (∀ (τ_28 : LawS) (l2_28 : Int32) (l3_28 : Int32), Ok (fL_draws_j28 τ_28 l2_28 l3_28) Qf → J X K 5 False QQ 0 0 2064 (jl K τ_28) 28 [(0, .ref (K.2.2 + 0)), (1, .ref (K.2.2 + 43)), (2, .int l2_28), (3, .int l3_28)] []) := by
    intro τ_28 l2_28 l3_28 h
    unfold fL_draws_j28 at h
    refine loop_gen (S := LawS × Int32) (P := fun s_28 => J X K 5 False QQ 0 0 2064 (jl K s_28.1) 28 [(0, .ref (K.2.2 + 0)), (1, .ref (K.2.2 + 43)), (2, .int l2_28), (3, .int s_28.2)] []) ?_ FU (τ_28, l3_28) (Ok.ofbnd h)
    intro B_28 hB_28 hE_28 s_28 h
    obtain ⟨τ_28, l3_28⟩ := s_28
    have h : Ok (fL_draws_b28 τ_28 l2_28 l3_28) B_28 := h
    change J X K 5 False QQ 0 0 2064 (jl K τ_28) 28 [(0, .ref (K.2.2 + 0)), (1, .ref (K.2.2 + 43)), (2, .int l2_28), (3, .int l3_28)] []
    have hj_115 : (∀ (τ_115 : LawS) (l3_115 : Int32) (s1_115 : Int32) (s2_115 : Int32), Ok (fL_draws_j115 l2_28 τ_115 l3_115 s1_115 s2_115) B_28 → J X K 5 False QQ 0 0 2064 (jl K τ_115) 115 [(0, .ref (K.2.2 + 0)), (1, .ref (K.2.2 + 43)), (2, .int l2_28), (3, .int l3_115)] [.int s2_115, .int s1_115, .ref (K.2.2 + 43)]) := by
      intro τ_115 l3_115 s1_115 s2_115 h
      unfold fL_draws_j115 at h
      obtain ⟨g_1, h⟩ := Ok.ofgd h
      obtain ⟨τx_1, e_τx_1, h⟩ := Ok.nm h
      refine Jl_iast C id rfl rfl g_1 e_τx_1 dL_draws_115 rfl ?_
      obtain ⟨x3_2, e_x3_2, h⟩ := Ok.nm h
      refine J_iincE (i := 3) (p := 3) (lv' := [(3, .int x3_2), (0, .ref (K.2.2 + 0)), (1, .ref (K.2.2 + 43)), (2, .int l2_28)]) C e_x3_2 dL_draws_116 rfl (by decide) (Nat.le_of_ble_eq_true rfl) rfl rfl ?_
      refine J_goto (t := 28) C dL_draws_119 (by decide) ?_
      refine J.sub [1, 2, 3, 0] rfl ?_
      exact hB_28 (τx_1, x3_2) h.osome
    unfold fL_draws_b28 at h
    refine J_iload_n (i := 3) (p := 3) C dL_draws_28 rfl rfl rfl ?_
    refine J_iload_n (i := 2) (p := 2) C dL_draws_29 rfl rfl rfl ?_
    refine J_icmp_ge (t := 122) C dL_draws_30 (by decide) rfl (fun c_2 => ?_) (fun c_2 => ?_)
    · have h := h.pos c_2
      have h := hE_28 τ_28 h.osome
      try dsimp only at h
      refine J_iload_n (i := 2) (p := 2) C dL_draws_122 rfl rfl rfl ?_
      rw [← hQQ]
      exact J_iret C hret (Nat.le_of_ble_eq_true rfl) (Nat.le_of_ble_eq_true rfl) ⟨_, h.osome, rfl, rfl, rfl⟩ dL_draws_123
    · have h := h.neg c_2
      refine J_aload_n (i := 0) (p := 0) C dL_draws_33 rfl rfl rfl ?_
      refine Jl_cS (rest := []) (st9 := fun p_3 => [.int p_3.1]) C hR hX cs_RL_8 (kL_next hl  (Ok.ofbnd h)) rfl rfl (Nat.le_of_ble_eq_true rfl) (Nat.le_of_ble_eq_true rfl) (Nat.le_of_ble_eq_true rfl) ⟨(Nat.le_of_ble_eq_true rfl), (Nat.le_of_ble_eq_true rfl)⟩ dL_draws_34 rfl (fun _ => rfl) (fun p_3 h => ?_)
      have h : Ok _ _ := h
      change J X K 5 False QQ 0 0 2064 (jl K p_3.2) 37 [(0, .ref (K.2.2 + 0)), (1, .ref (K.2.2 + 43)), (2, .int l2_28), (3, .int l3_28)] [.int p_3.1]
      refine J_bipush (v := 11) C (by decide) dL_draws_37 rfl ?_
      refine J_irem C (by decide) dL_draws_39 rfl ?_
      obtain ⟨x4_3, e_x4_3, h⟩ := Ok.nm h
      refine J_istoreE (i := 4) (lv' := [(4, .int x4_3), (0, .ref (K.2.2 + 0)), (1, .ref (K.2.2 + 43)), (2, .int l2_28), (3, .int l3_28)]) C e_x4_3 dL_draws_40 (Nat.le_of_ble_eq_true rfl) rfl rfl ?_
      refine J_aload_n (i := 1) (p := 2) C dL_draws_42 rfl rfl rfl ?_
      refine J_iload_n (i := 3) (p := 4) C dL_draws_43 rfl rfl rfl ?_
      refine J_iload (i := 4) (p := 0) C dL_draws_44 rfl rfl ?_
      refine J_iconst (v := 4) C (by decide) dL_draws_46 rfl ?_
      refine J_icmp_ge (t := 60) C dL_draws_47 (by decide) rfl (fun c_4 => ?_) (fun c_4 => ?_)
      · have h := h.pos c_4
        refine J_iload (i := 4) (p := 0) C dL_draws_60 rfl rfl ?_
        refine J_bipush (v := 6) C (by decide) dL_draws_62 rfl ?_
        refine J_icmp_ge (t := 72) C dL_draws_64 (by decide) rfl (fun c_5 => ?_) (fun c_5 => ?_)
        · have h := h.pos c_5
          refine J_iload (i := 4) (p := 0) C dL_draws_72 rfl rfl ?_
          refine J_bipush (v := 6) C (by decide) dL_draws_74 rfl ?_
          refine J_icmp_ne (t := 84) C dL_draws_76 (by decide) rfl (fun c_6 => ?_) (fun c_6 => ?_)
          · have h := h.neg c_6
            refine J_iload (i := 4) (p := 0) C dL_draws_84 rfl rfl ?_
            refine J_bipush (v := 7) C (by decide) dL_draws_86 rfl ?_
            refine J_icmp_ne (t := 96) C dL_draws_88 (by decide) rfl (fun c_7 => ?_) (fun c_7 => ?_)
            · have h := h.neg c_7
              refine J_iload (i := 4) (p := 0) C dL_draws_96 rfl rfl ?_
              refine J_bipush (v := 8) C (by decide) dL_draws_98 rfl ?_
              refine J_icmp_ne (t := 108) C dL_draws_100 (by decide) rfl (fun c_8 => ?_) (fun c_8 => ?_)
              · have h := h.neg c_8
                refine J_bipush (v := 97) C (by decide) dL_draws_108 rfl ?_
                refine J_iload (i := 4) (p := 0) C dL_draws_110 rfl rfl ?_
                refine J_iconst (v := 3) C (by decide) dL_draws_112 rfl ?_
                refine J_irem C (by decide) dL_draws_113 rfl ?_
                refine J_iadd C dL_draws_114 rfl ?_
                refine J.sub [1, 2, 3, 4] rfl ?_
                exact hj_115 p_3.2 l3_28 l3_28 ((97 : Int32) + (x4_3 - x4_3 / (3 : Int32) * (3 : Int32))) h
              · have h := h.pos (Decidable.not_not.mp c_8)
                refine J_bipush (v := 45) C (by decide) dL_draws_103 rfl ?_
                refine J_goto (t := 115) C dL_draws_105 (by decide) ?_
                refine J.sub [1, 2, 3, 4] rfl ?_
                exact hj_115 p_3.2 l3_28 l3_28 (45 : Int32) h
            · have h := h.pos (Decidable.not_not.mp c_7)
              refine J_bipush (v := 9) C (by decide) dL_draws_91 rfl ?_
              refine J_goto (t := 115) C dL_draws_93 (by decide) ?_
              refine J.sub [1, 2, 3, 4] rfl ?_
              exact hj_115 p_3.2 l3_28 l3_28 (9 : Int32) h
          · have h := h.pos (Decidable.not_not.mp c_6)
            refine J_bipush (v := 10) C (by decide) dL_draws_79 rfl ?_
            refine J_goto (t := 115) C dL_draws_81 (by decide) ?_
            refine J.sub [1, 2, 3, 4] rfl ?_
            exact hj_115 p_3.2 l3_28 l3_28 (10 : Int32) h
        · have h := h.neg c_5
          refine J_bipush (v := 32) C (by decide) dL_draws_67 rfl ?_
          refine J_goto (t := 115) C dL_draws_69 (by decide) ?_
          refine J.sub [1, 2, 3, 4] rfl ?_
          exact hj_115 p_3.2 l3_28 l3_28 (32 : Int32) h
      · have h := h.neg c_4
        refine J_bipush (v := 97) C (by decide) dL_draws_50 rfl ?_
        refine J_iload (i := 4) (p := 0) C dL_draws_52 rfl rfl ?_
        refine J_iconst (v := 2) C (by decide) dL_draws_54 rfl ?_
        refine J_irem C (by decide) dL_draws_55 rfl ?_
        refine J_iadd C dL_draws_56 rfl ?_
        refine J_goto (t := 115) C dL_draws_57 (by decide) ?_
        refine J.sub [1, 2, 3, 4] rfl ?_
        exact hj_115 p_3.2 l3_28 l3_28 ((97 : Int32) + (x4_3 - x4_3 / (2 : Int32) * (2 : Int32))) h
  have hj_25 : (∀ (τ_25 : LawS) (s0_25 : Int32), Ok (fL_draws_j25 τ_25 s0_25) Qf → J X K 5 False QQ 0 0 2064 (jl K τ_25) 25 [(0, .ref (K.2.2 + 0)), (1, .ref (K.2.2 + 43))] [.int s0_25]) := by
    intro τ_25 s0_25 h
    unfold fL_draws_j25 at h
    obtain ⟨x2_4, e_x2_4, h⟩ := Ok.nm h
    refine J_istoreE_n (i := 2) (lv' := [(2, .int x2_4), (0, .ref (K.2.2 + 0)), (1, .ref (K.2.2 + 43))]) C e_x2_4 dL_draws_25 rfl (Nat.le_of_ble_eq_true rfl) rfl rfl ?_
    refine J_iconst (v := 0) C (by decide) dL_draws_26 rfl ?_
    obtain ⟨x3_5, e_x3_5, h⟩ := Ok.nm h
    refine J_istoreE_n (i := 3) (lv' := [(3, .int x3_5), (2, .int x2_4), (0, .ref (K.2.2 + 0)), (1, .ref (K.2.2 + 43))]) C e_x3_5 dL_draws_27 rfl (Nat.le_of_ble_eq_true rfl) rfl rfl ?_
    refine J.sub [2, 3, 1, 0] rfl ?_
    exact hj_28 τ_25 x2_4 x3_5 h
  unfold fL_draws at h
  refine J_aload_n (i := 0) (p := 0) C dL_draws_0 rfl rfl rfl ?_
  refine Jl_cS (rest := []) (st9 := fun p_9 => [.int p_9.1]) C hR hX cs_RL_8 (kL_next hl  (Ok.ofbnd h)) rfl rfl (Nat.le_of_ble_eq_true rfl) (Nat.le_of_ble_eq_true rfl) (Nat.le_of_ble_eq_true rfl) ⟨(Nat.le_of_ble_eq_true rfl), (Nat.le_of_ble_eq_true rfl)⟩ dL_draws_1 rfl (fun _ => rfl) (fun p_9 h => ?_)
  have h : Ok _ _ := h
  change J X K 5 False QQ 0 0 2064 (jl K p_9.2) 4 [(0, .ref (K.2.2 + 0)), (1, .ref (K.2.2 + 43))] [.int p_9.1]
  refine J_iconst (v := 4) C (by decide) dL_draws_4 rfl ?_
  refine J_irem C (by decide) dL_draws_5 rfl ?_
  refine J_if_ne (t := 18) C dL_draws_6 (by decide) rfl (fun c_10 => ?_) (fun c_10 => ?_)
  · have h := h.neg c_10
    refine J_aload_n (i := 0) (p := 0) C dL_draws_18 rfl rfl rfl ?_
    refine J_iconst (v := 1) C (by decide) dL_draws_19 rfl ?_
    refine J_bipush (v := 12) C (by decide) dL_draws_20 rfl ?_
    refine Jl_cS (rest := []) (st9 := fun p_11 => [.int p_11.1]) C hR hX cs_RL_137 (kL_from hl  (Ok.ofbnd h)) rfl rfl (Nat.le_of_ble_eq_true rfl) (Nat.le_of_ble_eq_true rfl) (Nat.le_of_ble_eq_true rfl) ⟨(Nat.le_of_ble_eq_true rfl), (Nat.le_of_ble_eq_true rfl)⟩ dL_draws_22 rfl (fun _ => rfl) (fun p_11 h => ?_)
    have h : Ok _ _ := h
    change J X K 5 False QQ 0 0 2064 (jl K p_11.2) 25 [(0, .ref (K.2.2 + 0)), (1, .ref (K.2.2 + 43))] [.int p_11.1]
    exact hj_25 p_11.2 p_11.1 h
  · have h := h.pos (Decidable.not_not.mp c_10)
    refine J_aload_n (i := 0) (p := 0) C dL_draws_9 rfl rfl rfl ?_
    refine Jl_cS (rest := []) (st9 := fun p_12 => [.int p_12.1]) C hR hX cs_RL_8 (kL_next hl  (Ok.ofbnd h)) rfl rfl (Nat.le_of_ble_eq_true rfl) (Nat.le_of_ble_eq_true rfl) (Nat.le_of_ble_eq_true rfl) ⟨(Nat.le_of_ble_eq_true rfl), (Nat.le_of_ble_eq_true rfl)⟩ dL_draws_10 rfl (fun _ => rfl) (fun p_12 h => ?_)
    have h : Ok _ _ := h
    change J X K 5 False QQ 0 0 2064 (jl K p_12.2) 13 [(0, .ref (K.2.2 + 0)), (1, .ref (K.2.2 + 43))] [.int p_12.1]
    refine J_iconst (v := 3) C (by decide) dL_draws_13 rfl ?_
    refine J_irem C (by decide) dL_draws_14 rfl ?_
    refine J_goto (t := 25) C dL_draws_15 (by decide) ?_
    exact hj_25 p_12.2 (p_12.1 - p_12.1 / (3 : Int32) * (3 : Int32)) h
def fL_sees_b113 (a1 : Nat) (τ_113 : LawS) (l2_113 : Int32) (l4_113 : Int32) : Option ((LawS × Int32) ⊕ LawS) :=
  if l2_113 ≤ l4_113 then
    some (.inr τ_113)
  else
    bnd (nox (f11_letterAt τ_113.2 l4_113)) fun p_2 =>
    gd (inb ((400 : Int32) + l4_113) (lq a1)) <|
    stp (uT (τ_113.1, p_2.2) a1 (Int32.toNatClampNeg ((400 : Int32) + l4_113)) p_2.1) fun τx_1 =>
    stp (l4_113 + (1 : Int32)) fun x4_2 =>
    some (.inl (τx_1, x4_2))
def fL_sees_j113 (a1 : Nat) (τ_113 : LawS) (l2_113 : Int32) (l4_113 : Int32) : Option (LawS) :=
  bnd (loopF (fun s_113 => fL_sees_b113 a1 s_113.1 l2_113 s_113.2) FU (τ_113, l4_113)) fun r_113 =>
    some r_113
def fL_sees_b82 (a1 : Nat) (τ_82 : LawS) (l2_82 : Int32) (l3_82 : Int32) (l4_82 : Int32) : Option ((LawS × Int32) ⊕ LawS) :=
  if l3_82 ≤ l4_82 then
    some (.inr τ_82)
  else
    bnd (nox (f11_isHidden τ_82.2 l4_82)) fun p_5 =>
    bnd (fL_one p_5.1) fun p_6 =>
    gd (inb ((30 : Int32) + l4_82) (lq a1)) <|
    stp (uT (τ_82.1, p_5.2) a1 (Int32.toNatClampNeg ((30 : Int32) + l4_82)) p_6) fun τx_4 =>
    stp (l4_82 + (1 : Int32)) fun x4_5 =>
    some (.inl (τx_4, x4_5))
def fL_sees_j82 (a1 : Nat) (τ_82 : LawS) (l2_82 : Int32) (l3_82 : Int32) (l4_82 : Int32) : Option (LawS) :=
  bnd (loopF (fun s_82 => fL_sees_b82 a1 s_82.1 l2_82 l3_82 s_82.2) FU (τ_82, l4_82)) fun r_82 =>
    stp (0 : Int32) fun x4_6 =>
    fL_sees_j113 a1 r_82 l2_82 x4_6
def fL_sees_b45 (a1 : Nat) (τ_45 : LawS) (l2_45 : Int32) (l3_45 : Int32) : Option ((LawS × Int32) ⊕ LawS) :=
  if (16 : Int32) ≤ l3_45 then
    some (.inr τ_45)
  else
    bnd (nox (f11_markAt τ_45.2 l3_45)) fun p_11 =>
    gd (inb ((10 : Int32) + l3_45) (lq a1)) <|
    stp (uT (τ_45.1, p_11.2) a1 (Int32.toNatClampNeg ((10 : Int32) + l3_45)) p_11.1) fun τx_10 =>
    stp (l3_45 + (1 : Int32)) fun x3_11 =>
    some (.inl (τx_10, x3_11))
def fL_sees_j45 (a1 : Nat) (τ_45 : LawS) (l2_45 : Int32) (l3_45 : Int32) : Option (LawS) :=
  bnd (loopF (fun s_45 => fL_sees_b45 a1 s_45.1 l2_45 s_45.2) FU (τ_45, l3_45)) fun r_45 =>
    bnd (nox (f11_count r_45.2 (1 : Int32))) fun p_13 =>
    stp p_13.1 fun x3_12 =>
    gd (inb (26 : Int32) (lq a1)) <|
    stp (uT (r_45.1, p_13.2) a1 (Int32.toNatClampNeg (26 : Int32)) x3_12) fun τx_13 =>
    stp (0 : Int32) fun x4_14 =>
    fL_sees_j82 a1 τx_13 l2_45 x3_12 x4_14
def fL_sees_b20 (a1 : Nat) (τ_20 : LawS) (l2_20 : Int32) (l3_20 : Int32) : Option ((LawS × Int32) ⊕ LawS) :=
  gd (inb (1 : Int32) (lq a1)) <|
  if (τ_20.1 a1 (Int32.toNatClampNeg (1 : Int32))) ≤ l3_20 then
    some (.inr τ_20)
  else
    bnd (nox (f11_cursorAt τ_20.2 l3_20)) fun p_17 =>
    gd (inb ((2 : Int32) + l3_20) (lq a1)) <|
    stp (uT (τ_20.1, p_17.2) a1 (Int32.toNatClampNeg ((2 : Int32) + l3_20)) p_17.1) fun τx_16 =>
    stp (l3_20 + (1 : Int32)) fun x3_17 =>
    some (.inl (τx_16, x3_17))
def fL_sees_j20 (a1 : Nat) (τ_20 : LawS) (l2_20 : Int32) (l3_20 : Int32) : Option (LawS) :=
  bnd (loopF (fun s_20 => fL_sees_b20 a1 s_20.1 l2_20 s_20.2) FU (τ_20, l3_20)) fun r_20 =>
    stp (0 : Int32) fun x3_18 =>
    fL_sees_j45 a1 r_20 l2_20 x3_18
def fL_sees (τ : LawS) (a1 : Nat) : Option (LawS) :=
  bnd (nox (f11_count τ.2 (0 : Int32))) fun p_19 =>
  stp p_19.1 fun x2_19 =>
  gd (inb (0 : Int32) (lq a1)) <|
  stp (uT (τ.1, p_19.2) a1 (Int32.toNatClampNeg (0 : Int32)) x2_19) fun τx_20 =>
  bnd (nox (f11_count τx_20.2 (2 : Int32))) fun p_21 =>
  gd (inb (1 : Int32) (lq a1)) <|
  stp (uT (τx_20.1, p_21.2) a1 (Int32.toNatClampNeg (1 : Int32)) p_21.1) fun τx_21 =>
  stp (0 : Int32) fun x3_22 =>
  fL_sees_j20 a1 τx_21 x2_19 x3_22
set_option maxHeartbeats 4000000 in
set_option maxRecDepth 100000 in
theorem kL_sees {l : Launch} {K : JK} (hl : l.stackTraces = false) {τ : LawS} {a1 : Nat} (h_a1 : kl a1 = 12) {Qf : LawS → Prop} (h : Ok (fL_sees τ a1) Qf) : Con l K yL_sees (.code yL_sees cL_sees 5 none :: TB) 8 0 0 False [.ref (K.2.2 + 47), .ref (K.2.2 + a1)] 2064 (jl K τ) (PL Qf (fun p => none) (fun p => jl K p)) PN := by
  refine Con.enter (own := RL) hl (by decide) rfl (Nat.le_of_ble_eq_true rfl) ?_
  intro X hX hR C hret hnt
  generalize hQQ : jQ X K 0 0 (PL Qf (fun p => none) (fun p => jl K p)) PN False = QQ
  change J X K 5 False QQ 0 0 2064 (jl K τ) 0 [(0, .ref (K.2.2 + 47)), (1, .ref (K.2.2 + a1))] []
  have hj_113 : (∀ (τ_113 : LawS) (l2_113 : Int32) (l4_113 : Int32), Ok (fL_sees_j113 a1 τ_113 l2_113 l4_113) Qf → J X K 5 False QQ 0 0 2064 (jl K τ_113) 113 [(0, .ref (K.2.2 + 47)), (1, .ref (K.2.2 + a1)), (2, .int l2_113), (4, .int l4_113)] []) := by
    intro τ_113 l2_113 l4_113 h
    unfold fL_sees_j113 at h
    refine loop_gen (S := LawS × Int32) (P := fun s_113 => J X K 5 False QQ 0 0 2064 (jl K s_113.1) 113 [(0, .ref (K.2.2 + 47)), (1, .ref (K.2.2 + a1)), (2, .int l2_113), (4, .int s_113.2)] []) ?_ FU (τ_113, l4_113) (Ok.ofbnd h)
    intro B_113 hB_113 hE_113 s_113 h
    obtain ⟨τ_113, l4_113⟩ := s_113
    have h : Ok (fL_sees_b113 a1 τ_113 l2_113 l4_113) B_113 := h
    change J X K 5 False QQ 0 0 2064 (jl K τ_113) 113 [(0, .ref (K.2.2 + 47)), (1, .ref (K.2.2 + a1)), (2, .int l2_113), (4, .int l4_113)] []
    unfold fL_sees_b113 at h
    refine J_iload (i := 4) (p := 3) C dL_sees_113 rfl rfl ?_
    refine J_iload_n (i := 2) (p := 2) C dL_sees_115 rfl rfl rfl ?_
    refine J_icmp_ge (t := 139) C dL_sees_116 (by decide) rfl (fun c_1 => ?_) (fun c_1 => ?_)
    · have h := h.pos c_1
      have h := hE_113 τ_113 h.osome
      try dsimp only at h
      rw [← hQQ]
      exact J_vret C hret (Nat.le_of_ble_eq_true rfl) (Nat.le_of_ble_eq_true rfl) ⟨_, h.osome, rfl, rfl, rfl⟩ dL_sees_139
    · have h := h.neg c_1
      refine J_aload_n (i := 1) (p := 1) C dL_sees_119 rfl rfl rfl ?_
      refine J_sipush (v := 400) C (by decide) dL_sees_120 rfl ?_
      refine J_iload (i := 4) (p := 3) C dL_sees_123 rfl rfl ?_
      refine J_iadd C dL_sees_125 rfl ?_
      refine J_aload_n (i := 0) (p := 0) C dL_sees_126 rfl rfl rfl ?_
      refine J_iload (i := 4) (p := 3) C dL_sees_127 rfl rfl ?_
      refine Jl_cV (rest := [.int ((400 : Int32) + l4_113), .ref (K.2.2 + a1)]) (st9 := fun p_2 => [.int p_2.1, .int ((400 : Int32) + l4_113), .ref (K.2.2 + a1)]) (wd := fun p_2 => p_2.2) C hR hX cv_RL_106 (k11_letterAt_n hl (Ok.ofnox h) (fun c hc => hc)) rfl rfl (Nat.le_of_ble_eq_true rfl) (Nat.le_of_ble_eq_true rfl) (Nat.le_of_ble_eq_true rfl) ⟨(Nat.le_of_ble_eq_true rfl), (Nat.le_of_ble_eq_true rfl)⟩ dL_sees_129 rfl (fun E n9 w9 hx => hx.elim) (fun _ => rfl) (fun p_2 h => ?_)
      have h : Ok _ _ := h
      change J X K 5 False QQ 0 0 2064 (jl K (τ_113.1, p_2.2)) 132 [(0, .ref (K.2.2 + 47)), (1, .ref (K.2.2 + a1)), (2, .int l2_113), (4, .int l4_113)] [.int p_2.1, .int ((400 : Int32) + l4_113), .ref (K.2.2 + a1)]
      obtain ⟨g_3, h⟩ := Ok.ofgd h
      obtain ⟨τx_1, e_τx_1, h⟩ := Ok.nm h
      refine Jl_iast C id h_a1 rfl g_3 e_τx_1 dL_sees_132 rfl ?_
      obtain ⟨x4_2, e_x4_2, h⟩ := Ok.nm h
      refine J_iincE (i := 4) (p := 3) (lv' := [(4, .int x4_2), (0, .ref (K.2.2 + 47)), (1, .ref (K.2.2 + a1)), (2, .int l2_113)]) C e_x4_2 dL_sees_133 rfl (by decide) (Nat.le_of_ble_eq_true rfl) rfl rfl ?_
      refine J_goto (t := 113) C dL_sees_136 (by decide) ?_
      refine J.sub [1, 2, 3, 0] rfl ?_
      exact hB_113 (τx_1, x4_2) h.osome
  have hj_82 : (∀ (τ_82 : LawS) (l2_82 : Int32) (l3_82 : Int32) (l4_82 : Int32), Ok (fL_sees_j82 a1 τ_82 l2_82 l3_82 l4_82) Qf → J X K 5 False QQ 0 0 2064 (jl K τ_82) 82 [(0, .ref (K.2.2 + 47)), (1, .ref (K.2.2 + a1)), (2, .int l2_82), (3, .int l3_82), (4, .int l4_82)] []) := by
    intro τ_82 l2_82 l3_82 l4_82 h
    unfold fL_sees_j82 at h
    refine loop_gen (S := LawS × Int32) (P := fun s_82 => J X K 5 False QQ 0 0 2064 (jl K s_82.1) 82 [(0, .ref (K.2.2 + 47)), (1, .ref (K.2.2 + a1)), (2, .int l2_82), (3, .int l3_82), (4, .int s_82.2)] []) ?_ FU (τ_82, l4_82) (Ok.ofbnd h)
    intro B_82 hB_82 hE_82 s_82 h
    obtain ⟨τ_82, l4_82⟩ := s_82
    have h : Ok (fL_sees_b82 a1 τ_82 l2_82 l3_82 l4_82) B_82 := h
    change J X K 5 False QQ 0 0 2064 (jl K τ_82) 82 [(0, .ref (K.2.2 + 47)), (1, .ref (K.2.2 + a1)), (2, .int l2_82), (3, .int l3_82), (4, .int l4_82)] []
    unfold fL_sees_b82 at h
    refine J_iload (i := 4) (p := 4) C dL_sees_82 rfl rfl ?_
    refine J_iload_n (i := 3) (p := 3) C dL_sees_84 rfl rfl rfl ?_
    refine J_icmp_ge (t := 110) C dL_sees_85 (by decide) rfl (fun c_4 => ?_) (fun c_4 => ?_)
    · have h := h.pos c_4
      have h := hE_82 τ_82 h.osome
      try dsimp only at h
      refine J_iconst (v := 0) C (by decide) dL_sees_110 rfl ?_
      obtain ⟨x4_3, e_x4_3, h⟩ := Ok.nm h
      refine J_istoreE (i := 4) (lv' := [(4, .int x4_3), (0, .ref (K.2.2 + 47)), (1, .ref (K.2.2 + a1)), (2, .int l2_82), (3, .int l3_82)]) C e_x4_3 dL_sees_111 (Nat.le_of_ble_eq_true rfl) rfl rfl ?_
      refine J.sub [1, 2, 3, 0] rfl ?_
      exact hj_113 τ_82 l2_82 x4_3 h
    · have h := h.neg c_4
      refine J_aload_n (i := 1) (p := 1) C dL_sees_88 rfl rfl rfl ?_
      refine J_bipush (v := 30) C (by decide) dL_sees_89 rfl ?_
      refine J_iload (i := 4) (p := 4) C dL_sees_91 rfl rfl ?_
      refine J_iadd C dL_sees_93 rfl ?_
      refine J_aload_n (i := 0) (p := 0) C dL_sees_94 rfl rfl rfl ?_
      refine J_iload (i := 4) (p := 4) C dL_sees_95 rfl rfl ?_
      refine Jl_cV (rest := [.int ((30 : Int32) + l4_82), .ref (K.2.2 + a1)]) (st9 := fun p_5 => [.int p_5.1, .int ((30 : Int32) + l4_82), .ref (K.2.2 + a1)]) (wd := fun p_5 => p_5.2) C hR hX cv_RL_147 (k11_isHidden_n hl (Ok.ofnox h) (fun c hc => hc)) rfl rfl (Nat.le_of_ble_eq_true rfl) (Nat.le_of_ble_eq_true rfl) (Nat.le_of_ble_eq_true rfl) ⟨(Nat.le_of_ble_eq_true rfl), (Nat.le_of_ble_eq_true rfl)⟩ dL_sees_97 rfl (fun E n9 w9 hx => hx.elim) (fun _ => rfl) (fun p_5 h => ?_)
      have h : Ok _ _ := h
      change J X K 5 False QQ 0 0 2064 (jl K (τ_82.1, p_5.2)) 100 [(0, .ref (K.2.2 + 47)), (1, .ref (K.2.2 + a1)), (2, .int l2_82), (3, .int l3_82), (4, .int l4_82)] [.int p_5.1, .int ((30 : Int32) + l4_82), .ref (K.2.2 + a1)]
      refine Jl_cS (rest := [.int ((30 : Int32) + l4_82), .ref (K.2.2 + a1)]) (st9 := fun p_6 => [.int p_6, .int ((30 : Int32) + l4_82), .ref (K.2.2 + a1)]) C hR hX cs_RL_63 (kL_one hl  (Ok.ofbnd h)) rfl rfl (Nat.le_of_ble_eq_true rfl) (Nat.le_of_ble_eq_true rfl) (Nat.le_of_ble_eq_true rfl) ⟨(Nat.le_of_ble_eq_true rfl), (Nat.le_of_ble_eq_true rfl)⟩ dL_sees_100 rfl (fun _ => rfl) (fun p_6 h => ?_)
      have h : Ok _ _ := h
      change J X K 5 False QQ 0 0 2064 (jl K (τ_82.1, p_5.2)) 103 [(0, .ref (K.2.2 + 47)), (1, .ref (K.2.2 + a1)), (2, .int l2_82), (3, .int l3_82), (4, .int l4_82)] [.int p_6, .int ((30 : Int32) + l4_82), .ref (K.2.2 + a1)]
      obtain ⟨g_7, h⟩ := Ok.ofgd h
      obtain ⟨τx_4, e_τx_4, h⟩ := Ok.nm h
      refine Jl_iast C id h_a1 rfl g_7 e_τx_4 dL_sees_103 rfl ?_
      obtain ⟨x4_5, e_x4_5, h⟩ := Ok.nm h
      refine J_iincE (i := 4) (p := 4) (lv' := [(4, .int x4_5), (0, .ref (K.2.2 + 47)), (1, .ref (K.2.2 + a1)), (2, .int l2_82), (3, .int l3_82)]) C e_x4_5 dL_sees_104 rfl (by decide) (Nat.le_of_ble_eq_true rfl) rfl rfl ?_
      refine J_goto (t := 82) C dL_sees_107 (by decide) ?_
      refine J.sub [1, 2, 3, 4, 0] rfl ?_
      exact hB_82 (τx_4, x4_5) h.osome
  have hj_45 : (∀ (τ_45 : LawS) (l2_45 : Int32) (l3_45 : Int32), Ok (fL_sees_j45 a1 τ_45 l2_45 l3_45) Qf → J X K 5 False QQ 0 0 2064 (jl K τ_45) 45 [(0, .ref (K.2.2 + 47)), (1, .ref (K.2.2 + a1)), (2, .int l2_45), (3, .int l3_45)] []) := by
    intro τ_45 l2_45 l3_45 h
    unfold fL_sees_j45 at h
    refine loop_gen (S := LawS × Int32) (P := fun s_45 => J X K 5 False QQ 0 0 2064 (jl K s_45.1) 45 [(0, .ref (K.2.2 + 47)), (1, .ref (K.2.2 + a1)), (2, .int l2_45), (3, .int s_45.2)] []) ?_ FU (τ_45, l3_45) (Ok.ofbnd h)
    intro B_45 hB_45 hE_45 s_45 h
    obtain ⟨τ_45, l3_45⟩ := s_45
    have h : Ok (fL_sees_b45 a1 τ_45 l2_45 l3_45) B_45 := h
    change J X K 5 False QQ 0 0 2064 (jl K τ_45) 45 [(0, .ref (K.2.2 + 47)), (1, .ref (K.2.2 + a1)), (2, .int l2_45), (3, .int l3_45)] []
    unfold fL_sees_b45 at h
    refine J_iload_n (i := 3) (p := 3) C dL_sees_45 rfl rfl rfl ?_
    refine J_bipush (v := 16) C (by decide) dL_sees_46 rfl ?_
    refine J_icmp_ge (t := 68) C dL_sees_48 (by decide) rfl (fun c_8 => ?_) (fun c_8 => ?_)
    · have h := h.pos c_8
      have h := hE_45 τ_45 h.osome
      try dsimp only at h
      refine J_aload_n (i := 0) (p := 0) C dL_sees_68 rfl rfl rfl ?_
      refine J_iconst (v := 1) C (by decide) dL_sees_69 rfl ?_
      refine Jl_cV (rest := []) (st9 := fun p_9 => [.int p_9.1]) (wd := fun p_9 => p_9.2) C hR hX cv_RL_134 (k11_count_n hl (Ok.ofnox h) (fun c hc => hc)) rfl rfl (Nat.le_of_ble_eq_true rfl) (Nat.le_of_ble_eq_true rfl) (Nat.le_of_ble_eq_true rfl) ⟨(Nat.le_of_ble_eq_true rfl), (Nat.le_of_ble_eq_true rfl)⟩ dL_sees_70 rfl (fun E n9 w9 hx => hx.elim) (fun _ => rfl) (fun p_9 h => ?_)
      have h : Ok _ _ := h
      change J X K 5 False QQ 0 0 2064 (jl K (τ_45.1, p_9.2)) 73 [(0, .ref (K.2.2 + 47)), (1, .ref (K.2.2 + a1)), (2, .int l2_45), (3, .int l3_45)] [.int p_9.1]
      obtain ⟨x3_7, e_x3_7, h⟩ := Ok.nm h
      refine J_istoreE_n (i := 3) (lv' := [(3, .int x3_7), (0, .ref (K.2.2 + 47)), (1, .ref (K.2.2 + a1)), (2, .int l2_45)]) C e_x3_7 dL_sees_73 rfl (Nat.le_of_ble_eq_true rfl) rfl rfl ?_
      refine J_aload_n (i := 1) (p := 2) C dL_sees_74 rfl rfl rfl ?_
      refine J_bipush (v := 26) C (by decide) dL_sees_75 rfl ?_
      refine J_iload_n (i := 3) (p := 0) C dL_sees_77 rfl rfl rfl ?_
      obtain ⟨g_10, h⟩ := Ok.ofgd h
      obtain ⟨τx_8, e_τx_8, h⟩ := Ok.nm h
      refine Jl_iast C id h_a1 rfl g_10 e_τx_8 dL_sees_78 rfl ?_
      refine J_iconst (v := 0) C (by decide) dL_sees_79 rfl ?_
      obtain ⟨x4_9, e_x4_9, h⟩ := Ok.nm h
      refine J_istoreE (i := 4) (lv' := [(4, .int x4_9), (3, .int x3_7), (0, .ref (K.2.2 + 47)), (1, .ref (K.2.2 + a1)), (2, .int l2_45)]) C e_x4_9 dL_sees_80 (Nat.le_of_ble_eq_true rfl) rfl rfl ?_
      refine J.sub [2, 3, 4, 1, 0] rfl ?_
      exact hj_82 τx_8 l2_45 x3_7 x4_9 h
    · have h := h.neg c_8
      refine J_aload_n (i := 1) (p := 1) C dL_sees_51 rfl rfl rfl ?_
      refine J_bipush (v := 10) C (by decide) dL_sees_52 rfl ?_
      refine J_iload_n (i := 3) (p := 3) C dL_sees_54 rfl rfl rfl ?_
      refine J_iadd C dL_sees_55 rfl ?_
      refine J_aload_n (i := 0) (p := 0) C dL_sees_56 rfl rfl rfl ?_
      refine J_iload_n (i := 3) (p := 3) C dL_sees_57 rfl rfl rfl ?_
      refine Jl_cV (rest := [.int ((10 : Int32) + l3_45), .ref (K.2.2 + a1)]) (st9 := fun p_11 => [.int p_11.1, .int ((10 : Int32) + l3_45), .ref (K.2.2 + a1)]) (wd := fun p_11 => p_11.2) C hR hX cv_RL_144 (k11_markAt_n hl (Ok.ofnox h) (fun c hc => hc)) rfl rfl (Nat.le_of_ble_eq_true rfl) (Nat.le_of_ble_eq_true rfl) (Nat.le_of_ble_eq_true rfl) ⟨(Nat.le_of_ble_eq_true rfl), (Nat.le_of_ble_eq_true rfl)⟩ dL_sees_58 rfl (fun E n9 w9 hx => hx.elim) (fun _ => rfl) (fun p_11 h => ?_)
      have h : Ok _ _ := h
      change J X K 5 False QQ 0 0 2064 (jl K (τ_45.1, p_11.2)) 61 [(0, .ref (K.2.2 + 47)), (1, .ref (K.2.2 + a1)), (2, .int l2_45), (3, .int l3_45)] [.int p_11.1, .int ((10 : Int32) + l3_45), .ref (K.2.2 + a1)]
      obtain ⟨g_12, h⟩ := Ok.ofgd h
      obtain ⟨τx_10, e_τx_10, h⟩ := Ok.nm h
      refine Jl_iast C id h_a1 rfl g_12 e_τx_10 dL_sees_61 rfl ?_
      obtain ⟨x3_11, e_x3_11, h⟩ := Ok.nm h
      refine J_iincE (i := 3) (p := 3) (lv' := [(3, .int x3_11), (0, .ref (K.2.2 + 47)), (1, .ref (K.2.2 + a1)), (2, .int l2_45)]) C e_x3_11 dL_sees_62 rfl (by decide) (Nat.le_of_ble_eq_true rfl) rfl rfl ?_
      refine J_goto (t := 45) C dL_sees_65 (by decide) ?_
      refine J.sub [1, 2, 3, 0] rfl ?_
      exact hB_45 (τx_10, x3_11) h.osome
  have hj_20 : (∀ (τ_20 : LawS) (l2_20 : Int32) (l3_20 : Int32), Ok (fL_sees_j20 a1 τ_20 l2_20 l3_20) Qf → J X K 5 False QQ 0 0 2064 (jl K τ_20) 20 [(0, .ref (K.2.2 + 47)), (1, .ref (K.2.2 + a1)), (2, .int l2_20), (3, .int l3_20)] []) := by
    intro τ_20 l2_20 l3_20 h
    unfold fL_sees_j20 at h
    refine loop_gen (S := LawS × Int32) (P := fun s_20 => J X K 5 False QQ 0 0 2064 (jl K s_20.1) 20 [(0, .ref (K.2.2 + 47)), (1, .ref (K.2.2 + a1)), (2, .int l2_20), (3, .int s_20.2)] []) ?_ FU (τ_20, l3_20) (Ok.ofbnd h)
    intro B_20 hB_20 hE_20 s_20 h
    obtain ⟨τ_20, l3_20⟩ := s_20
    have h : Ok (fL_sees_b20 a1 τ_20 l2_20 l3_20) B_20 := h
    change J X K 5 False QQ 0 0 2064 (jl K τ_20) 20 [(0, .ref (K.2.2 + 47)), (1, .ref (K.2.2 + a1)), (2, .int l2_20), (3, .int l3_20)] []
    unfold fL_sees_b20 at h
    refine J_iload_n (i := 3) (p := 3) C dL_sees_20 rfl rfl rfl ?_
    refine J_aload_n (i := 1) (p := 1) C dL_sees_21 rfl rfl rfl ?_
    refine J_iconst (v := 1) C (by decide) dL_sees_22 rfl ?_
    obtain ⟨g_15, h⟩ := Ok.ofgd h
    refine Jl_iald C h_a1 rfl g_15 dL_sees_23 rfl ?_
    refine J_icmp_ge (t := 43) C dL_sees_24 (by decide) rfl (fun c_16 => ?_) (fun c_16 => ?_)
    · have h := h.pos c_16
      have h := hE_20 τ_20 h.osome
      try dsimp only at h
      refine J_iconst (v := 0) C (by decide) dL_sees_43 rfl ?_
      obtain ⟨x3_15, e_x3_15, h⟩ := Ok.nm h
      refine J_istoreE_n (i := 3) (lv' := [(3, .int x3_15), (0, .ref (K.2.2 + 47)), (1, .ref (K.2.2 + a1)), (2, .int l2_20)]) C e_x3_15 dL_sees_44 rfl (Nat.le_of_ble_eq_true rfl) rfl rfl ?_
      refine J.sub [1, 2, 3, 0] rfl ?_
      exact hj_45 τ_20 l2_20 x3_15 h
    · have h := h.neg c_16
      refine J_aload_n (i := 1) (p := 1) C dL_sees_27 rfl rfl rfl ?_
      refine J_iconst (v := 2) C (by decide) dL_sees_28 rfl ?_
      refine J_iload_n (i := 3) (p := 3) C dL_sees_29 rfl rfl rfl ?_
      refine J_iadd C dL_sees_30 rfl ?_
      refine J_aload_n (i := 0) (p := 0) C dL_sees_31 rfl rfl rfl ?_
      refine J_iload_n (i := 3) (p := 3) C dL_sees_32 rfl rfl rfl ?_
      refine Jl_cV (rest := [.int ((2 : Int32) + l3_20), .ref (K.2.2 + a1)]) (st9 := fun p_17 => [.int p_17.1, .int ((2 : Int32) + l3_20), .ref (K.2.2 + a1)]) (wd := fun p_17 => p_17.2) C hR hX cv_RL_141 (k11_cursorAt_n hl (Ok.ofnox h) (fun c hc => hc)) rfl rfl (Nat.le_of_ble_eq_true rfl) (Nat.le_of_ble_eq_true rfl) (Nat.le_of_ble_eq_true rfl) ⟨(Nat.le_of_ble_eq_true rfl), (Nat.le_of_ble_eq_true rfl)⟩ dL_sees_33 rfl (fun E n9 w9 hx => hx.elim) (fun _ => rfl) (fun p_17 h => ?_)
      have h : Ok _ _ := h
      change J X K 5 False QQ 0 0 2064 (jl K (τ_20.1, p_17.2)) 36 [(0, .ref (K.2.2 + 47)), (1, .ref (K.2.2 + a1)), (2, .int l2_20), (3, .int l3_20)] [.int p_17.1, .int ((2 : Int32) + l3_20), .ref (K.2.2 + a1)]
      obtain ⟨g_18, h⟩ := Ok.ofgd h
      obtain ⟨τx_16, e_τx_16, h⟩ := Ok.nm h
      refine Jl_iast C id h_a1 rfl g_18 e_τx_16 dL_sees_36 rfl ?_
      obtain ⟨x3_17, e_x3_17, h⟩ := Ok.nm h
      refine J_iincE (i := 3) (p := 3) (lv' := [(3, .int x3_17), (0, .ref (K.2.2 + 47)), (1, .ref (K.2.2 + a1)), (2, .int l2_20)]) C e_x3_17 dL_sees_37 rfl (by decide) (Nat.le_of_ble_eq_true rfl) rfl rfl ?_
      refine J_goto (t := 20) C dL_sees_40 (by decide) ?_
      refine J.sub [1, 2, 3, 0] rfl ?_
      exact hB_20 (τx_16, x3_17) h.osome
  unfold fL_sees at h
  refine J_aload_n (i := 0) (p := 0) C dL_sees_0 rfl rfl rfl ?_
  refine J_iconst (v := 0) C (by decide) dL_sees_1 rfl ?_
  refine Jl_cV (rest := []) (st9 := fun p_19 => [.int p_19.1]) (wd := fun p_19 => p_19.2) C hR hX cv_RL_134 (k11_count_n hl (Ok.ofnox h) (fun c hc => hc)) rfl rfl (Nat.le_of_ble_eq_true rfl) (Nat.le_of_ble_eq_true rfl) (Nat.le_of_ble_eq_true rfl) ⟨(Nat.le_of_ble_eq_true rfl), (Nat.le_of_ble_eq_true rfl)⟩ dL_sees_2 rfl (fun E n9 w9 hx => hx.elim) (fun _ => rfl) (fun p_19 h => ?_)
  have h : Ok _ _ := h
  change J X K 5 False QQ 0 0 2064 (jl K (τ.1, p_19.2)) 5 [(0, .ref (K.2.2 + 47)), (1, .ref (K.2.2 + a1))] [.int p_19.1]
  obtain ⟨x2_19, e_x2_19, h⟩ := Ok.nm h
  refine J_istoreE_n (i := 2) (lv' := [(2, .int x2_19), (0, .ref (K.2.2 + 47)), (1, .ref (K.2.2 + a1))]) C e_x2_19 dL_sees_5 rfl (Nat.le_of_ble_eq_true rfl) rfl rfl ?_
  refine J_aload_n (i := 1) (p := 2) C dL_sees_6 rfl rfl rfl ?_
  refine J_iconst (v := 0) C (by decide) dL_sees_7 rfl ?_
  refine J_iload_n (i := 2) (p := 0) C dL_sees_8 rfl rfl rfl ?_
  obtain ⟨g_20, h⟩ := Ok.ofgd h
  obtain ⟨τx_20, e_τx_20, h⟩ := Ok.nm h
  refine Jl_iast C id h_a1 rfl g_20 e_τx_20 dL_sees_9 rfl ?_
  refine J_aload_n (i := 1) (p := 2) C dL_sees_10 rfl rfl rfl ?_
  refine J_iconst (v := 1) C (by decide) dL_sees_11 rfl ?_
  refine J_aload_n (i := 0) (p := 1) C dL_sees_12 rfl rfl rfl ?_
  refine J_iconst (v := 2) C (by decide) dL_sees_13 rfl ?_
  refine Jl_cV (rest := [.int (1 : Int32), .ref (K.2.2 + a1)]) (st9 := fun p_21 => [.int p_21.1, .int (1 : Int32), .ref (K.2.2 + a1)]) (wd := fun p_21 => p_21.2) C hR hX cv_RL_134 (k11_count_n hl (Ok.ofnox h) (fun c hc => hc)) rfl rfl (Nat.le_of_ble_eq_true rfl) (Nat.le_of_ble_eq_true rfl) (Nat.le_of_ble_eq_true rfl) ⟨(Nat.le_of_ble_eq_true rfl), (Nat.le_of_ble_eq_true rfl)⟩ dL_sees_14 rfl (fun E n9 w9 hx => hx.elim) (fun _ => rfl) (fun p_21 h => ?_)
  have h : Ok _ _ := h
  change J X K 5 False QQ 0 0 2064 (jl K (τx_20.1, p_21.2)) 17 [(2, .int x2_19), (0, .ref (K.2.2 + 47)), (1, .ref (K.2.2 + a1))] [.int p_21.1, .int (1 : Int32), .ref (K.2.2 + a1)]
  obtain ⟨g_22, h⟩ := Ok.ofgd h
  obtain ⟨τx_21, e_τx_21, h⟩ := Ok.nm h
  refine Jl_iast C id h_a1 rfl g_22 e_τx_21 dL_sees_17 rfl ?_
  refine J_iconst (v := 0) C (by decide) dL_sees_18 rfl ?_
  obtain ⟨x3_22, e_x3_22, h⟩ := Ok.nm h
  refine J_istoreE_n (i := 3) (lv' := [(3, .int x3_22), (2, .int x2_19), (0, .ref (K.2.2 + 47)), (1, .ref (K.2.2 + a1))]) C e_x3_22 dL_sees_19 rfl (Nat.le_of_ble_eq_true rfl) rfl rfl ?_
  refine J.sub [2, 3, 1, 0] rfl ?_
  exact hj_20 τx_21 x2_19 x3_22 h
def fL_isLike_b115 (a1 : Nat) (τ_115 : LawS) (l3_115 : Int32) : Option (Int32 ⊕ (Unit ⊕ Unit)) :=
  gd (inb (0 : Int32) (lq a1)) <|
  if (τ_115.1 a1 (Int32.toNatClampNeg (0 : Int32))) ≤ l3_115 then
    some (.inr (Sum.inl ()))
  else
    gd (inb ((400 : Int32) + l3_115) 3500) <|
    gd (inb ((400 : Int32) + l3_115) (lq a1)) <|
    if (τ_115.1 42 (Int32.toNatClampNeg ((400 : Int32) + l3_115))) = (τ_115.1 a1 (Int32.toNatClampNeg ((400 : Int32) + l3_115))) then
      stp (l3_115 + (1 : Int32)) fun x3_1 =>
      some (.inl x3_1)
    else
      some (.inr (Sum.inr ()))
def fL_isLike_j115 (a1 : Nat) (τ_115 : LawS) (l3_115 : Int32) : Option (Int32 × LawS) :=
  bnd (loopF (fun s_115 => fL_isLike_b115 a1 τ_115 s_115) FU l3_115) fun r_115 =>
    match r_115 with
    | .inl r_115x =>
      some ((1 : Int32), τ_115)
    | .inr r_115y =>
      some ((0 : Int32), τ_115)
def fL_isLike_j107 (a1 : Nat) (τ_67 : LawS) (l3_107 : Int32) : Option (Int32 ⊕ (Unit ⊕ Unit)) :=
  stp (l3_107 + (1 : Int32)) fun x3_2 =>
  some (.inl x3_2)
def fL_isLike_b67 (a1 : Nat) (τ_67 : LawS) (l3_67 : Int32) : Option (Int32 ⊕ (Unit ⊕ Unit)) :=
  gd (inb (26 : Int32) (lq a1)) <|
  if ((30 : Int32) + (τ_67.1 a1 (Int32.toNatClampNeg (26 : Int32)))) ≤ l3_67 then
    some (.inr (Sum.inl ()))
  else
    if l3_67 = (27 : Int32) then
      fL_isLike_j107 a1 τ_67 l3_67
    else
      if l3_67 = (28 : Int32) then
        fL_isLike_j107 a1 τ_67 l3_67
      else
        if l3_67 = (29 : Int32) then
          fL_isLike_j107 a1 τ_67 l3_67
        else
          gd (inb l3_67 3500) <|
          gd (inb l3_67 (lq a1)) <|
          if (τ_67.1 42 (Int32.toNatClampNeg l3_67)) = (τ_67.1 a1 (Int32.toNatClampNeg l3_67)) then
            fL_isLike_j107 a1 τ_67 l3_67
          else
            some (.inr (Sum.inr ()))
def fL_isLike_j67 (a1 : Nat) (τ_67 : LawS) (l3_67 : Int32) : Option (Int32 × LawS) :=
  bnd (loopF (fun s_67 => fL_isLike_b67 a1 τ_67 s_67) FU l3_67) fun r_67 =>
    match r_67 with
    | .inl r_67x =>
      stp (0 : Int32) fun x3_4 =>
      fL_isLike_j115 a1 τ_67 x3_4
    | .inr r_67y =>
      some ((0 : Int32), τ_67)
def fL_isLike_b38 (a1 : Nat) (τ_38 : LawS) (l3_38 : Int32) : Option (Int32 ⊕ (Unit ⊕ Unit)) :=
  gd (inb (1 : Int32) (lq a1)) <|
  if ((2 : Int32) + (τ_38.1 a1 (Int32.toNatClampNeg (1 : Int32)))) ≤ l3_38 then
    some (.inr (Sum.inl ()))
  else
    gd (inb l3_38 3500) <|
    gd (inb l3_38 (lq a1)) <|
    if (τ_38.1 42 (Int32.toNatClampNeg l3_38)) = (τ_38.1 a1 (Int32.toNatClampNeg l3_38)) then
      stp (l3_38 + (1 : Int32)) fun x3_6 =>
      some (.inl x3_6)
    else
      some (.inr (Sum.inr ()))
def fL_isLike_j38 (a1 : Nat) (τ_38 : LawS) (l3_38 : Int32) : Option (Int32 × LawS) :=
  bnd (loopF (fun s_38 => fL_isLike_b38 a1 τ_38 s_38) FU l3_38) fun r_38 =>
    match r_38 with
    | .inl r_38x =>
      stp (10 : Int32) fun x3_7 =>
      fL_isLike_j67 a1 τ_38 x3_7
    | .inr r_38y =>
      some ((0 : Int32), τ_38)
def fL_isLike_j34 (a1 : Nat) (τ_34 : LawS) : Option (Int32 × LawS) :=
  some ((0 : Int32), τ_34)
def fL_isLike (τ : LawS) (a1 : Nat) : Option (Int32 × LawS) :=
  bnd (fL_sees τ 42) fun p_19 =>
  gd (inb (0 : Int32) 3500) <|
  gd (inb (0 : Int32) (lq a1)) <|
  if (p_19.1 42 (Int32.toNatClampNeg (0 : Int32))) = (p_19.1 a1 (Int32.toNatClampNeg (0 : Int32))) then
    gd (inb (1 : Int32) 3500) <|
    gd (inb (1 : Int32) (lq a1)) <|
    if (p_19.1 42 (Int32.toNatClampNeg (1 : Int32))) = (p_19.1 a1 (Int32.toNatClampNeg (1 : Int32))) then
      gd (inb (26 : Int32) 3500) <|
      gd (inb (26 : Int32) (lq a1)) <|
      if (p_19.1 42 (Int32.toNatClampNeg (26 : Int32))) = (p_19.1 a1 (Int32.toNatClampNeg (26 : Int32))) then
        stp (0 : Int32) fun x3_8 =>
        fL_isLike_j38 a1 p_19 x3_8
      else
        fL_isLike_j34 a1 p_19
    else
      fL_isLike_j34 a1 p_19
  else
    fL_isLike_j34 a1 p_19
set_option maxHeartbeats 4000000 in
set_option maxRecDepth 100000 in
theorem kL_isLike {l : Launch} {K : JK} (hl : l.stackTraces = false) {τ : LawS} {a1 : Nat} (h_a1 : kl a1 = 12) {Qf : Int32 × LawS → Prop} (h : Ok (fL_isLike τ a1) Qf) : Con l K yL_isLike (.code yL_isLike cL_isLike 4 (some .boolean) :: TB) 9 0 0 False [.ref (K.2.2 + 47), .ref (K.2.2 + a1), .ref (K.2.2 + 42)] 2064 (jl K τ) (PL Qf (fun p => some (.int p.1)) (fun p => jl K p.2)) PN := by
  refine Con.enter (own := RL) hl (by decide) rfl (Nat.le_of_ble_eq_true rfl) ?_
  intro X hX hR C hret hnt
  generalize hQQ : jQ X K 0 0 (PL Qf (fun p => some (.int p.1)) (fun p => jl K p.2)) PN False = QQ
  change J X K 4 False QQ 0 0 2064 (jl K τ) 0 [(0, .ref (K.2.2 + 47)), (1, .ref (K.2.2 + a1)), (2, .ref (K.2.2 + 42))] []
  have hj_115 : (∀ (τ_115 : LawS) (l3_115 : Int32), Ok (fL_isLike_j115 a1 τ_115 l3_115) Qf → J X K 4 False QQ 0 0 2064 (jl K τ_115) 115 [(1, .ref (K.2.2 + a1)), (2, .ref (K.2.2 + 42)), (3, .int l3_115)] []) := by
    intro τ_115 l3_115 h
    unfold fL_isLike_j115 at h
    refine loop_gen (S := Int32) (P := fun s_115 => J X K 4 False QQ 0 0 2064 (jl K τ_115) 115 [(1, .ref (K.2.2 + a1)), (2, .ref (K.2.2 + 42)), (3, .int s_115)] []) ?_ FU l3_115 (Ok.ofbnd h)
    intro B_115 hB_115 hE_115 s_115 h
    generalize s_115 = l3_115 at h ⊢
    have h : Ok (fL_isLike_b115 a1 τ_115 l3_115) B_115 := h
    change J X K 4 False QQ 0 0 2064 (jl K τ_115) 115 [(1, .ref (K.2.2 + a1)), (2, .ref (K.2.2 + 42)), (3, .int l3_115)] []
    unfold fL_isLike_b115 at h
    refine J_iload_n (i := 3) (p := 2) C dL_isLike_115 rfl rfl rfl ?_
    refine J_aload_n (i := 1) (p := 0) C dL_isLike_116 rfl rfl rfl ?_
    refine J_iconst (v := 0) C (by decide) dL_isLike_117 rfl ?_
    obtain ⟨g_1, h⟩ := Ok.ofgd h
    refine Jl_iald C h_a1 rfl g_1 dL_isLike_118 rfl ?_
    refine J_icmp_ge (t := 147) C dL_isLike_119 (by decide) rfl (fun c_2 => ?_) (fun c_2 => ?_)
    · have h := h.pos c_2
      have h := hE_115 (Sum.inl ()) h.osome
      try dsimp only at h
      refine J_iconst (v := 1) C (by decide) dL_isLike_147 rfl ?_
      rw [← hQQ]
      exact J_zret C hret rfl (Nat.le_of_ble_eq_true rfl) (Nat.le_of_ble_eq_true rfl) ⟨_, h.osome, rfl, rfl, rfl⟩ dL_isLike_148
    · have h := h.neg c_2
      refine J_aload_n (i := 2) (p := 1) C dL_isLike_122 rfl rfl rfl ?_
      refine J_sipush (v := 400) C (by decide) dL_isLike_123 rfl ?_
      refine J_iload_n (i := 3) (p := 2) C dL_isLike_126 rfl rfl rfl ?_
      refine J_iadd C dL_isLike_127 rfl ?_
      obtain ⟨g_3, h⟩ := Ok.ofgd h
      refine Jl_iald C rfl rfl g_3 dL_isLike_128 rfl ?_
      refine J_aload_n (i := 1) (p := 0) C dL_isLike_129 rfl rfl rfl ?_
      refine J_sipush (v := 400) C (by decide) dL_isLike_130 rfl ?_
      refine J_iload_n (i := 3) (p := 2) C dL_isLike_133 rfl rfl rfl ?_
      refine J_iadd C dL_isLike_134 rfl ?_
      obtain ⟨g_4, h⟩ := Ok.ofgd h
      refine Jl_iald C h_a1 rfl g_4 dL_isLike_135 rfl ?_
      refine J_icmp_eq (t := 141) C dL_isLike_136 (by decide) rfl (fun c_5 => ?_) (fun c_5 => ?_)
      · have h := h.pos c_5
        obtain ⟨x3_1, e_x3_1, h⟩ := Ok.nm h
        refine J_iincE (i := 3) (p := 2) (lv' := [(3, .int x3_1), (1, .ref (K.2.2 + a1)), (2, .ref (K.2.2 + 42))]) C e_x3_1 dL_isLike_141 rfl (by decide) (Nat.le_of_ble_eq_true rfl) rfl rfl ?_
        refine J_goto (t := 115) C dL_isLike_144 (by decide) ?_
        refine J.sub [1, 2, 0] rfl ?_
        exact hB_115 x3_1 h.osome
      · have h := h.neg c_5
        have h := hE_115 (Sum.inr ()) h.osome
        try dsimp only at h
        refine J_iconst (v := 0) C (by decide) dL_isLike_139 rfl ?_
        rw [← hQQ]
        exact J_zret C hret rfl (Nat.le_of_ble_eq_true rfl) (Nat.le_of_ble_eq_true rfl) ⟨_, h.osome, rfl, rfl, rfl⟩ dL_isLike_140
  have hj_67 : (∀ (τ_67 : LawS) (l3_67 : Int32), Ok (fL_isLike_j67 a1 τ_67 l3_67) Qf → J X K 4 False QQ 0 0 2064 (jl K τ_67) 67 [(1, .ref (K.2.2 + a1)), (2, .ref (K.2.2 + 42)), (3, .int l3_67)] []) := by
    intro τ_67 l3_67 h
    unfold fL_isLike_j67 at h
    refine loop_gen (S := Int32) (P := fun s_67 => J X K 4 False QQ 0 0 2064 (jl K τ_67) 67 [(1, .ref (K.2.2 + a1)), (2, .ref (K.2.2 + 42)), (3, .int s_67)] []) ?_ FU l3_67 (Ok.ofbnd h)
    intro B_67 hB_67 hE_67 s_67 h
    generalize s_67 = l3_67 at h ⊢
    have h : Ok (fL_isLike_b67 a1 τ_67 l3_67) B_67 := h
    change J X K 4 False QQ 0 0 2064 (jl K τ_67) 67 [(1, .ref (K.2.2 + a1)), (2, .ref (K.2.2 + 42)), (3, .int l3_67)] []
    have hj_107 : (∀ (l3_107 : Int32), Ok (fL_isLike_j107 a1 τ_67 l3_107) B_67 → J X K 4 False QQ 0 0 2064 (jl K τ_67) 107 [(1, .ref (K.2.2 + a1)), (2, .ref (K.2.2 + 42)), (3, .int l3_107)] []) := by
      intro l3_107 h
      unfold fL_isLike_j107 at h
      obtain ⟨x3_2, e_x3_2, h⟩ := Ok.nm h
      refine J_iincE (i := 3) (p := 2) (lv' := [(3, .int x3_2), (1, .ref (K.2.2 + a1)), (2, .ref (K.2.2 + 42))]) C e_x3_2 dL_isLike_107 rfl (by decide) (Nat.le_of_ble_eq_true rfl) rfl rfl ?_
      refine J_goto (t := 67) C dL_isLike_110 (by decide) ?_
      refine J.sub [1, 2, 0] rfl ?_
      exact hB_67 x3_2 h.osome
    unfold fL_isLike_b67 at h
    refine J_iload_n (i := 3) (p := 2) C dL_isLike_67 rfl rfl rfl ?_
    refine J_bipush (v := 30) C (by decide) dL_isLike_68 rfl ?_
    refine J_aload_n (i := 1) (p := 0) C dL_isLike_70 rfl rfl rfl ?_
    refine J_bipush (v := 26) C (by decide) dL_isLike_71 rfl ?_
    obtain ⟨g_6, h⟩ := Ok.ofgd h
    refine Jl_iald C h_a1 rfl g_6 dL_isLike_73 rfl ?_
    refine J_iadd C dL_isLike_74 rfl ?_
    refine J_icmp_ge (t := 113) C dL_isLike_75 (by decide) rfl (fun c_7 => ?_) (fun c_7 => ?_)
    · have h := h.pos c_7
      have h := hE_67 (Sum.inl ()) h.osome
      try dsimp only at h
      refine J_iconst (v := 0) C (by decide) dL_isLike_113 rfl ?_
      obtain ⟨x3_3, e_x3_3, h⟩ := Ok.nm h
      refine J_istoreE_n (i := 3) (lv' := [(3, .int x3_3), (1, .ref (K.2.2 + a1)), (2, .ref (K.2.2 + 42))]) C e_x3_3 dL_isLike_114 rfl (Nat.le_of_ble_eq_true rfl) rfl rfl ?_
      refine J.sub [1, 2, 0] rfl ?_
      exact hj_115 τ_67 x3_3 h
    · have h := h.neg c_7
      refine J_iload_n (i := 3) (p := 2) C dL_isLike_78 rfl rfl rfl ?_
      refine J_bipush (v := 27) C (by decide) dL_isLike_79 rfl ?_
      refine J_icmp_eq (t := 107) C dL_isLike_81 (by decide) rfl (fun c_8 => ?_) (fun c_8 => ?_)
      · have h := h.pos c_8
        exact hj_107 l3_67 h
      · have h := h.neg c_8
        refine J_iload_n (i := 3) (p := 2) C dL_isLike_84 rfl rfl rfl ?_
        refine J_bipush (v := 28) C (by decide) dL_isLike_85 rfl ?_
        refine J_icmp_eq (t := 107) C dL_isLike_87 (by decide) rfl (fun c_9 => ?_) (fun c_9 => ?_)
        · have h := h.pos c_9
          exact hj_107 l3_67 h
        · have h := h.neg c_9
          refine J_iload_n (i := 3) (p := 2) C dL_isLike_90 rfl rfl rfl ?_
          refine J_bipush (v := 29) C (by decide) dL_isLike_91 rfl ?_
          refine J_icmp_eq (t := 107) C dL_isLike_93 (by decide) rfl (fun c_10 => ?_) (fun c_10 => ?_)
          · have h := h.pos c_10
            exact hj_107 l3_67 h
          · have h := h.neg c_10
            refine J_aload_n (i := 2) (p := 1) C dL_isLike_96 rfl rfl rfl ?_
            refine J_iload_n (i := 3) (p := 2) C dL_isLike_97 rfl rfl rfl ?_
            obtain ⟨g_11, h⟩ := Ok.ofgd h
            refine Jl_iald C rfl rfl g_11 dL_isLike_98 rfl ?_
            refine J_aload_n (i := 1) (p := 0) C dL_isLike_99 rfl rfl rfl ?_
            refine J_iload_n (i := 3) (p := 2) C dL_isLike_100 rfl rfl rfl ?_
            obtain ⟨g_12, h⟩ := Ok.ofgd h
            refine Jl_iald C h_a1 rfl g_12 dL_isLike_101 rfl ?_
            refine J_icmp_eq (t := 107) C dL_isLike_102 (by decide) rfl (fun c_13 => ?_) (fun c_13 => ?_)
            · have h := h.pos c_13
              exact hj_107 l3_67 h
            · have h := h.neg c_13
              have h := hE_67 (Sum.inr ()) h.osome
              try dsimp only at h
              refine J_iconst (v := 0) C (by decide) dL_isLike_105 rfl ?_
              rw [← hQQ]
              exact J_zret C hret rfl (Nat.le_of_ble_eq_true rfl) (Nat.le_of_ble_eq_true rfl) ⟨_, h.osome, rfl, rfl, rfl⟩ dL_isLike_106
  have hj_38 : (∀ (τ_38 : LawS) (l3_38 : Int32), Ok (fL_isLike_j38 a1 τ_38 l3_38) Qf → J X K 4 False QQ 0 0 2064 (jl K τ_38) 38 [(1, .ref (K.2.2 + a1)), (2, .ref (K.2.2 + 42)), (3, .int l3_38)] []) := by
    intro τ_38 l3_38 h
    unfold fL_isLike_j38 at h
    refine loop_gen (S := Int32) (P := fun s_38 => J X K 4 False QQ 0 0 2064 (jl K τ_38) 38 [(1, .ref (K.2.2 + a1)), (2, .ref (K.2.2 + 42)), (3, .int s_38)] []) ?_ FU l3_38 (Ok.ofbnd h)
    intro B_38 hB_38 hE_38 s_38 h
    generalize s_38 = l3_38 at h ⊢
    have h : Ok (fL_isLike_b38 a1 τ_38 l3_38) B_38 := h
    change J X K 4 False QQ 0 0 2064 (jl K τ_38) 38 [(1, .ref (K.2.2 + a1)), (2, .ref (K.2.2 + 42)), (3, .int l3_38)] []
    unfold fL_isLike_b38 at h
    refine J_iload_n (i := 3) (p := 2) C dL_isLike_38 rfl rfl rfl ?_
    refine J_iconst (v := 2) C (by decide) dL_isLike_39 rfl ?_
    refine J_aload_n (i := 1) (p := 0) C dL_isLike_40 rfl rfl rfl ?_
    refine J_iconst (v := 1) C (by decide) dL_isLike_41 rfl ?_
    obtain ⟨g_14, h⟩ := Ok.ofgd h
    refine Jl_iald C h_a1 rfl g_14 dL_isLike_42 rfl ?_
    refine J_iadd C dL_isLike_43 rfl ?_
    refine J_icmp_ge (t := 64) C dL_isLike_44 (by decide) rfl (fun c_15 => ?_) (fun c_15 => ?_)
    · have h := h.pos c_15
      have h := hE_38 (Sum.inl ()) h.osome
      try dsimp only at h
      refine J_bipush (v := 10) C (by decide) dL_isLike_64 rfl ?_
      obtain ⟨x3_5, e_x3_5, h⟩ := Ok.nm h
      refine J_istoreE_n (i := 3) (lv' := [(3, .int x3_5), (1, .ref (K.2.2 + a1)), (2, .ref (K.2.2 + 42))]) C e_x3_5 dL_isLike_66 rfl (Nat.le_of_ble_eq_true rfl) rfl rfl ?_
      refine J.sub [1, 2, 0] rfl ?_
      exact hj_67 τ_38 x3_5 h
    · have h := h.neg c_15
      refine J_aload_n (i := 2) (p := 1) C dL_isLike_47 rfl rfl rfl ?_
      refine J_iload_n (i := 3) (p := 2) C dL_isLike_48 rfl rfl rfl ?_
      obtain ⟨g_16, h⟩ := Ok.ofgd h
      refine Jl_iald C rfl rfl g_16 dL_isLike_49 rfl ?_
      refine J_aload_n (i := 1) (p := 0) C dL_isLike_50 rfl rfl rfl ?_
      refine J_iload_n (i := 3) (p := 2) C dL_isLike_51 rfl rfl rfl ?_
      obtain ⟨g_17, h⟩ := Ok.ofgd h
      refine Jl_iald C h_a1 rfl g_17 dL_isLike_52 rfl ?_
      refine J_icmp_eq (t := 58) C dL_isLike_53 (by decide) rfl (fun c_18 => ?_) (fun c_18 => ?_)
      · have h := h.pos c_18
        obtain ⟨x3_6, e_x3_6, h⟩ := Ok.nm h
        refine J_iincE (i := 3) (p := 2) (lv' := [(3, .int x3_6), (1, .ref (K.2.2 + a1)), (2, .ref (K.2.2 + 42))]) C e_x3_6 dL_isLike_58 rfl (by decide) (Nat.le_of_ble_eq_true rfl) rfl rfl ?_
        refine J_goto (t := 38) C dL_isLike_61 (by decide) ?_
        refine J.sub [1, 2, 0] rfl ?_
        exact hB_38 x3_6 h.osome
      · have h := h.neg c_18
        have h := hE_38 (Sum.inr ()) h.osome
        try dsimp only at h
        refine J_iconst (v := 0) C (by decide) dL_isLike_56 rfl ?_
        rw [← hQQ]
        exact J_zret C hret rfl (Nat.le_of_ble_eq_true rfl) (Nat.le_of_ble_eq_true rfl) ⟨_, h.osome, rfl, rfl, rfl⟩ dL_isLike_57
  have hj_34 : (∀ (τ_34 : LawS), Ok (fL_isLike_j34 a1 τ_34) Qf → J X K 4 False QQ 0 0 2064 (jl K τ_34) 34 [] []) := by
    intro τ_34 h
    unfold fL_isLike_j34 at h
    refine J_iconst (v := 0) C (by decide) dL_isLike_34 rfl ?_
    rw [← hQQ]
    exact J_zret C hret rfl (Nat.le_of_ble_eq_true rfl) (Nat.le_of_ble_eq_true rfl) ⟨_, h.osome, rfl, rfl, rfl⟩ dL_isLike_35
  unfold fL_isLike at h
  refine J_aload_n (i := 0) (p := 0) C dL_isLike_0 rfl rfl rfl ?_
  refine J_aload_n (i := 2) (p := 2) C dL_isLike_1 rfl rfl rfl ?_
  refine Jl_cS (rest := []) (st9 := fun p_19 => []) C hR hX cs_RL_151 (kL_sees hl rfl (Ok.ofbnd h)) rfl rfl (Nat.le_of_ble_eq_true rfl) (Nat.le_of_ble_eq_true rfl) (Nat.le_of_ble_eq_true rfl) ⟨(Nat.le_of_ble_eq_true rfl), (Nat.le_of_ble_eq_true rfl)⟩ dL_isLike_2 rfl (fun _ => rfl) (fun p_19 h => ?_)
  have h : Ok _ _ := h
  change J X K 4 False QQ 0 0 2064 (jl K p_19) 5 [(0, .ref (K.2.2 + 47)), (1, .ref (K.2.2 + a1)), (2, .ref (K.2.2 + 42))] []
  refine J_aload_n (i := 2) (p := 2) C dL_isLike_5 rfl rfl rfl ?_
  refine J_iconst (v := 0) C (by decide) dL_isLike_6 rfl ?_
  obtain ⟨g_20, h⟩ := Ok.ofgd h
  refine Jl_iald C rfl rfl g_20 dL_isLike_7 rfl ?_
  refine J_aload_n (i := 1) (p := 1) C dL_isLike_8 rfl rfl rfl ?_
  refine J_iconst (v := 0) C (by decide) dL_isLike_9 rfl ?_
  obtain ⟨g_21, h⟩ := Ok.ofgd h
  refine Jl_iald C h_a1 rfl g_21 dL_isLike_10 rfl ?_
  refine J_icmp_ne (t := 34) C dL_isLike_11 (by decide) rfl (fun c_22 => ?_) (fun c_22 => ?_)
  · have h := h.neg c_22
    refine J.sub [] rfl ?_
    exact hj_34 p_19 h
  · have h := h.pos (Decidable.not_not.mp c_22)
    refine J_aload_n (i := 2) (p := 2) C dL_isLike_14 rfl rfl rfl ?_
    refine J_iconst (v := 1) C (by decide) dL_isLike_15 rfl ?_
    obtain ⟨g_23, h⟩ := Ok.ofgd h
    refine Jl_iald C rfl rfl g_23 dL_isLike_16 rfl ?_
    refine J_aload_n (i := 1) (p := 1) C dL_isLike_17 rfl rfl rfl ?_
    refine J_iconst (v := 1) C (by decide) dL_isLike_18 rfl ?_
    obtain ⟨g_24, h⟩ := Ok.ofgd h
    refine Jl_iald C h_a1 rfl g_24 dL_isLike_19 rfl ?_
    refine J_icmp_ne (t := 34) C dL_isLike_20 (by decide) rfl (fun c_25 => ?_) (fun c_25 => ?_)
    · have h := h.neg c_25
      refine J.sub [] rfl ?_
      exact hj_34 p_19 h
    · have h := h.pos (Decidable.not_not.mp c_25)
      refine J_aload_n (i := 2) (p := 2) C dL_isLike_23 rfl rfl rfl ?_
      refine J_bipush (v := 26) C (by decide) dL_isLike_24 rfl ?_
      obtain ⟨g_26, h⟩ := Ok.ofgd h
      refine Jl_iald C rfl rfl g_26 dL_isLike_26 rfl ?_
      refine J_aload_n (i := 1) (p := 1) C dL_isLike_27 rfl rfl rfl ?_
      refine J_bipush (v := 26) C (by decide) dL_isLike_28 rfl ?_
      obtain ⟨g_27, h⟩ := Ok.ofgd h
      refine Jl_iald C h_a1 rfl g_27 dL_isLike_30 rfl ?_
      refine J_icmp_eq (t := 36) C dL_isLike_31 (by decide) rfl (fun c_28 => ?_) (fun c_28 => ?_)
      · have h := h.pos c_28
        refine J_iconst (v := 0) C (by decide) dL_isLike_36 rfl ?_
        obtain ⟨x3_8, e_x3_8, h⟩ := Ok.nm h
        refine J_istoreE_n (i := 3) (lv' := [(3, .int x3_8), (0, .ref (K.2.2 + 47)), (1, .ref (K.2.2 + a1)), (2, .ref (K.2.2 + 42))]) C e_x3_8 dL_isLike_37 rfl (Nat.le_of_ble_eq_true rfl) rfl rfl ?_
        refine J.sub [2, 3, 0] rfl ?_
        exact hj_38 p_19 x3_8 h
      · have h := h.neg c_28
        refine J.sub [] rfl ?_
        exact hj_34 p_19 h
