def f1_putPart_j72 (l1 : Int32) (l2_9 : Int32) (σ_72 : Sto) (l3_72 : Int32) : Option ((Sto × Int32) ⊕ Sto) :=
  stp (l3_72 + (1 : Int32)) fun x3_1 =>
  some (.inl (σ_72, x3_1))
def f1_putPart_b9 (l1 : Int32) (σ_9 : Sto) (l2_9 : Int32) (l3_9 : Int32) : Option ((Sto × Int32) ⊕ Sto) :=
  gd (inb l1 3000) <|
  if (l2_9 + (aI σ_9 17 (Int32.toNatClampNeg l1))) ≤ l3_9 then
    some (.inr σ_9)
  else
    gd (inb l3_9 3000) <|
    gd (okr (fR σ_9 13 7) 13) <|
    gd (inb (fI σ_9 13 8) (ln ((fR σ_9 13 7) - 1))) <|
    stp (uA σ_9 ((fR σ_9 13 7) - 1) (Int32.toNatClampNeg (fI σ_9 13 8)) (vp_nar .byte (aI σ_9 19 (Int32.toNatClampNeg l3_9)))) fun σx_2 =>
    stp (uI σx_2 13 8 ((fI σx_2 13 8) + (1 : Int32))) fun σx_3 =>
    gd (inb l3_9 3000) <|
    if (aI σx_3 19 (Int32.toNatClampNeg l3_9)) = (10 : Int32) then
      bnd (f1_addLine σx_3 (fI σx_3 13 8) (0 : Int32)) fun p_8 =>
      f1_putPart_j72 l1 l2_9 p_8 l3_9
    else
      f1_putPart_j72 l1 l2_9 σx_3 l3_9
def f1_putPart_j9 (l1 : Int32) (σ_9 : Sto) (l2_9 : Int32) (l3_9 : Int32) : Option (Sto) :=
  bnd (loopF (fun s_9 => f1_putPart_b9 l1 s_9.1 l2_9 s_9.2) FU (σ_9, l3_9)) fun r_9 =>
    some r_9
def f1_putPart (σ : Sto) (l1 : Int32) : Option (Sto) :=
  gd (inb l1 3000) <|
  stp (aI σ 16 (Int32.toNatClampNeg l1)) fun x2_4 =>
  stp x2_4 fun x3_5 =>
  f1_putPart_j9 l1 σ x2_4 x3_5
set_option maxHeartbeats 4000000 in
set_option maxRecDepth 100000 in
theorem k1_putPart {l : Launch} {K : JK} (hl : l.stackTraces = false) {σ : Sto} {l1 : Int32}  {Qf : Sto → Prop} (h : Ok (f1_putPart σ l1) Qf) : Con l K yX1_putPart (.code yX1_putPart cX1_putPart 4 none :: TB) 1 0 0 False [.ref (K.2.2 + 13), .int l1] 2017 (jw K σ) (PR Qf (fun p => none) (fun p => jw K p)) PN := by
  refine Con.enter (own := RX1) hl (by decide) rfl (Nat.le_of_ble_eq_true rfl) ?_
  intro X hX hR C hret hnt
  generalize hQQ : jQ X K 0 0 (PR Qf (fun p => none) (fun p => jw K p)) PN False = QQ
  change J X K 4 False QQ 0 0 2017 (jw K σ) 0 [(0, .ref (K.2.2 + 13)), (1, .int l1)] []
  have hj_9 : (∀ (σ_9 : Sto) (l2_9 : Int32) (l3_9 : Int32), Ok (f1_putPart_j9 l1 σ_9 l2_9 l3_9) Qf → J X K 4 False QQ 0 0 2017 (jw K σ_9) 9 [(0, .ref (K.2.2 + 13)), (1, .int l1), (2, .int l2_9), (3, .int l3_9)] []) := by
    intro σ_9 l2_9 l3_9 h
    unfold f1_putPart_j9 at h
    refine loop_gen (S := Sto × Int32) (P := fun s_9 => J X K 4 False QQ 0 0 2017 (jw K s_9.1) 9 [(0, .ref (K.2.2 + 13)), (1, .int l1), (2, .int l2_9), (3, .int s_9.2)] []) ?_ FU (σ_9, l3_9) (Ok.ofbnd h)
    intro B_9 hB_9 hE_9 s_9 h
    obtain ⟨σ_9, l3_9⟩ := s_9
    have h : Ok (f1_putPart_b9 l1 σ_9 l2_9 l3_9) B_9 := h
    change J X K 4 False QQ 0 0 2017 (jw K σ_9) 9 [(0, .ref (K.2.2 + 13)), (1, .int l1), (2, .int l2_9), (3, .int l3_9)] []
    have hj_72 : (∀ (σ_72 : Sto) (l3_72 : Int32), Ok (f1_putPart_j72 l1 l2_9 σ_72 l3_72) B_9 → J X K 4 False QQ 0 0 2017 (jw K σ_72) 72 [(0, .ref (K.2.2 + 13)), (1, .int l1), (2, .int l2_9), (3, .int l3_72)] []) := by
      intro σ_72 l3_72 h
      unfold f1_putPart_j72 at h
      obtain ⟨x3_1, e_x3_1, h⟩ := Ok.nm h
      refine J_iincE (i := 3) (p := 3) (lv' := [(3, .int x3_1), (0, .ref (K.2.2 + 13)), (1, .int l1), (2, .int l2_9)]) C e_x3_1 dX1_putPart_72 rfl (by decide) (Nat.le_of_ble_eq_true rfl) rfl rfl ?_
      refine J_goto (t := 9) C dX1_putPart_75 (by decide) ?_
      refine J.sub [1, 2, 3, 0] rfl ?_
      exact hB_9 (σ_72, x3_1) h.osome
    unfold f1_putPart_b9 at h
    refine J_iload_n (i := 3) (p := 3) C dX1_putPart_9 rfl rfl rfl ?_
    refine J_iload_n (i := 2) (p := 2) C dX1_putPart_10 rfl rfl rfl ?_
    refine J_aload_n (i := 0) (p := 0) C dX1_putPart_11 rfl rfl rfl ?_
    refine Jc_getS (o2 := 4) (r2 := 17) C fp_RX1_21 rfl rfl rfl dX1_putPart_12 rfl ?_
    refine J_iload_n (i := 1) (p := 1) C dX1_putPart_15 rfl rfl rfl ?_
    obtain ⟨g_1, h⟩ := Ok.ofgd h
    refine Jc_iald C rfl rfl g_1 dX1_putPart_16 rfl ?_
    refine J_iadd C dX1_putPart_17 rfl ?_
    refine J_icmp_ge (t := 78) C dX1_putPart_18 (by decide) rfl (fun c_2 => ?_) (fun c_2 => ?_)
    · have h := h.pos c_2
      have h := hE_9 σ_9 h.osome
      try dsimp only at h
      rw [← hQQ]
      exact J_vret C hret (Nat.le_of_ble_eq_true rfl) (Nat.le_of_ble_eq_true rfl) ⟨_, h.osome, rfl, rfl, rfl⟩ dX1_putPart_78
    · have h := h.neg c_2
      refine J_aload_n (i := 0) (p := 0) C dX1_putPart_21 rfl rfl rfl ?_
      refine Jc_getD C fp_RX1_41 rfl rfl dX1_putPart_22 rfl ?_
      refine J_aload_n (i := 0) (p := 0) C dX1_putPart_25 rfl rfl rfl ?_
      refine Jc_getI C fp_RX1_45 rfl rfl dX1_putPart_26 rfl ?_
      refine J_aload_n (i := 0) (p := 0) C dX1_putPart_29 rfl rfl rfl ?_
      refine Jc_getS (o2 := 5) (r2 := 18) C fp_RX1_33 rfl rfl rfl dX1_putPart_30 rfl ?_
      refine Jc_getS (o2 := 1) (r2 := 19) C fp_RX1_125 rfl rfl rfl dX1_putPart_33 rfl ?_
      refine J_iload_n (i := 3) (p := 3) C dX1_putPart_36 rfl rfl rfl ?_
      obtain ⟨g_3, h⟩ := Ok.ofgd h
      refine Jc_bald C rfl rfl g_3 dX1_putPart_37 rfl ?_
      obtain ⟨g_4, h⟩ := Ok.ofgd h
      rw [jv_pos (r := fR σ_9 13 7) (okr_spec g_4).1]
      obtain ⟨g_5, h⟩ := Ok.ofgd h
      obtain ⟨σx_2, e_σx_2, h⟩ := Ok.nm h
      refine Jc_bast C id (okr_spec g_4).2 rfl g_5 e_σx_2 dX1_putPart_38 rfl ?_
      refine J_aload_n (i := 0) (p := 0) C dX1_putPart_39 rfl rfl rfl ?_
      refine J_dup C rfl dX1_putPart_40 rfl ?_
      refine Jc_getI C fp_RX1_45 rfl rfl dX1_putPart_41 rfl ?_
      refine J_iconst (v := 1) C (by decide) dX1_putPart_44 rfl ?_
      refine J_iadd C dX1_putPart_45 rfl ?_
      obtain ⟨σx_3, e_σx_3, h⟩ := Ok.nm h
      refine Jc_putI C id fp_RX1_45 fw_1_8 rfl rfl rfl e_σx_3 dX1_putPart_46 rfl ?_
      refine J_aload_n (i := 0) (p := 0) C dX1_putPart_49 rfl rfl rfl ?_
      refine Jc_getS (o2 := 5) (r2 := 18) C fp_RX1_33 rfl rfl rfl dX1_putPart_50 rfl ?_
      refine Jc_getS (o2 := 1) (r2 := 19) C fp_RX1_125 rfl rfl rfl dX1_putPart_53 rfl ?_
      refine J_iload_n (i := 3) (p := 3) C dX1_putPart_56 rfl rfl rfl ?_
      obtain ⟨g_6, h⟩ := Ok.ofgd h
      refine Jc_bald C rfl rfl g_6 dX1_putPart_57 rfl ?_
      refine J_bipush (v := 10) C (by decide) dX1_putPart_58 rfl ?_
      refine J_icmp_ne (t := 72) C dX1_putPart_60 (by decide) rfl (fun c_7 => ?_) (fun c_7 => ?_)
      · have h := h.neg c_7
        exact hj_72 σx_3 l3_9 h
      · have h := h.pos (Decidable.not_not.mp c_7)
        refine J_aload_n (i := 0) (p := 0) C dX1_putPart_63 rfl rfl rfl ?_
        refine J_aload_n (i := 0) (p := 0) C dX1_putPart_64 rfl rfl rfl ?_
        refine Jc_getI C fp_RX1_45 rfl rfl dX1_putPart_65 rfl ?_
        refine J_iconst (v := 0) C (by decide) dX1_putPart_68 rfl ?_
        refine Jc_cV (rest := []) (st9 := fun p_8 => []) C hR hX cv_RX1_87 rfl (Nat.le_of_ble_eq_true rfl) (k1_addLine hl  (Ok.ofbnd h)) rfl rfl (Nat.le_of_ble_eq_true rfl) (Nat.le_of_ble_eq_true rfl) (Nat.le_of_ble_eq_true rfl) ⟨(Nat.le_of_ble_eq_true rfl), (Nat.le_of_ble_eq_true rfl)⟩ dX1_putPart_69 rfl (fun E n9 w9 hx => JT_n hx) (fun _ => rfl) (fun p_8 h => ?_)
        have h : Ok _ _ := h
        change J X K 4 False QQ 0 0 2017 (jw K p_8) 72 [(0, .ref (K.2.2 + 13)), (1, .int l1), (2, .int l2_9), (3, .int l3_9)] []
        exact hj_72 p_8 l3_9 h
  unfold f1_putPart at h
  refine J_aload_n (i := 0) (p := 0) C dX1_putPart_0 rfl rfl rfl ?_
  refine Jc_getS (o2 := 3) (r2 := 16) C fp_RX1_18 rfl rfl rfl dX1_putPart_1 rfl ?_
  refine J_iload_n (i := 1) (p := 1) C dX1_putPart_4 rfl rfl rfl ?_
  obtain ⟨g_9, h⟩ := Ok.ofgd h
  refine Jc_iald C rfl rfl g_9 dX1_putPart_5 rfl ?_
  obtain ⟨x2_4, e_x2_4, h⟩ := Ok.nm h
  refine J_istoreE_n (i := 2) (lv' := [(2, .int x2_4), (0, .ref (K.2.2 + 13)), (1, .int l1)]) C e_x2_4 dX1_putPart_6 rfl (Nat.le_of_ble_eq_true rfl) rfl rfl ?_
  refine J_iload_n (i := 2) (p := 0) C dX1_putPart_7 rfl rfl rfl ?_
  obtain ⟨x3_5, e_x3_5, h⟩ := Ok.nm h
  refine J_istoreE_n (i := 3) (lv' := [(3, .int x3_5), (2, .int x2_4), (0, .ref (K.2.2 + 13)), (1, .int l1)]) C e_x3_5 dX1_putPart_8 rfl (Nat.le_of_ble_eq_true rfl) rfl rfl ?_
  refine J.sub [2, 3, 1, 0] rfl ?_
  exact hj_9 σ x2_4 x3_5 h
def f1_build_j112 (a1 : Nat) (σ_112 : Sto) (s0_112 : Int32) : Option (Int32 × Sto) :=
  gd (isB s0_112) <|
  some (s0_112, σ_112)
def f1_build_b49 (a1 : Nat) (σ_49 : Sto) (l2_49 : Int32) (l3_49 : Int32) : Option ((Sto × Int32 × Int32) ⊕ (Sto × Int32)) :=
  if (fI σ_49 13 4) ≤ l3_49 then
    some (.inr (σ_49, l2_49))
  else
    gd (inb l3_49 3000) <|
    bnd (f1_takeOver σ_49 a1 l2_49 (aI σ_49 14 (Int32.toNatClampNeg l3_49))) fun p_6 =>
    bnd (f1_putPart p_6 l3_49) fun p_7 =>
    gd (inb l3_49 3000) <|
    stp (aI p_7 15 (Int32.toNatClampNeg l3_49)) fun x2_1 =>
    stp (l3_49 + (1 : Int32)) fun x3_2 =>
    some (.inl (p_7, x2_1, x3_2))
def f1_build_j49 (a1 : Nat) (σ_49 : Sto) (l2_49 : Int32) (l3_49 : Int32) : Option (Int32 × Sto) :=
  bnd (loopF (fun s_49 => f1_build_b49 a1 s_49.1 s_49.2.1 s_49.2.2) FU (σ_49, l2_49, l3_49)) fun r_49 =>
    bnd (f1_takeOver r_49.1 a1 r_49.2 (fI r_49.1 a1 1)) fun p_9 =>
    if (300 : Int32) < (fI p_9 13 11) then
      f1_build_j112 a1 p_9 (0 : Int32)
    else
      f1_build_j112 a1 p_9 (1 : Int32)
def f1_build_j22 (a1 : Nat) (σ_22 : Sto) : Option (Int32 × Sto) :=
  some ((0 : Int32), σ_22)
def f1_build (σ : Sto) (a1 : Nat) : Option (Int32 × Sto) :=
  if (fI σ 13 6) = 0 then
    bnd (f1_growth σ) fun p_12 =>
    if ((fI σ a1 1) + p_12) ≤ (3000 : Int32) then
      bnd (f1_findStillHidden σ a1) fun p_14 =>
      stp (uI p_14 13 8 (0 : Int32)) fun σx_3 =>
      stp (uI σx_3 13 11 (0 : Int32)) fun σx_4 =>
      bnd (f1_addLine σx_4 (0 : Int32) (0 : Int32)) fun p_15 =>
      stp (0 : Int32) fun x2_5 =>
      stp (0 : Int32) fun x3_6 =>
      f1_build_j49 a1 p_15 x2_5 x3_6
    else
      f1_build_j22 a1 σ
  else
    f1_build_j22 a1 σ
set_option maxHeartbeats 4000000 in
set_option maxRecDepth 100000 in
theorem k1_build {l : Launch} {K : JK} (hl : l.stackTraces = false) {σ : Sto} {a1 : Nat} (h_a1 : kc a1 = 8) {Qf : Int32 × Sto → Prop} (h : Ok (f1_build σ a1) Qf) : Con l K yX1_build (.code yX1_build cX1_build 4 (some .boolean) :: TB) 2 0 0 False [.ref (K.2.2 + 13), .ref (K.2.2 + a1)] 2017 (jw K σ) (PR Qf (fun p => some (.int p.1)) (fun p => jw K p.2)) PN := by
  refine Con.enter (own := RX1) hl (by decide) rfl (Nat.le_of_ble_eq_true rfl) ?_
  intro X hX hR C hret hnt
  generalize hQQ : jQ X K 0 0 (PR Qf (fun p => some (.int p.1)) (fun p => jw K p.2)) PN False = QQ
  change J X K 4 False QQ 0 0 2017 (jw K σ) 0 [(0, .ref (K.2.2 + 13)), (1, .ref (K.2.2 + a1))] []
  have hj_112 : (∀ (σ_112 : Sto) (s0_112 : Int32), Ok (f1_build_j112 a1 σ_112 s0_112) Qf → J X K 4 False QQ 0 0 2017 (jw K σ_112) 112 [] [.int s0_112]) := by
    intro σ_112 s0_112 h
    unfold f1_build_j112 at h
    obtain ⟨g_1, h⟩ := Ok.ofgd h
    rw [← hQQ]
    exact J_zret C hret (narB g_1).1 (Nat.le_of_ble_eq_true rfl) (Nat.le_of_ble_eq_true rfl) ⟨_, h.osome, rfl, rfl, rfl⟩ dX1_build_112
  have hj_49 : (∀ (σ_49 : Sto) (l2_49 : Int32) (l3_49 : Int32), Ok (f1_build_j49 a1 σ_49 l2_49 l3_49) Qf → J X K 4 False QQ 0 0 2017 (jw K σ_49) 49 [(0, .ref (K.2.2 + 13)), (1, .ref (K.2.2 + a1)), (2, .int l2_49), (3, .int l3_49)] []) := by
    intro σ_49 l2_49 l3_49 h
    unfold f1_build_j49 at h
    refine loop_gen (S := Sto × Int32 × Int32) (P := fun s_49 => J X K 4 False QQ 0 0 2017 (jw K s_49.1) 49 [(0, .ref (K.2.2 + 13)), (1, .ref (K.2.2 + a1)), (2, .int s_49.2.1), (3, .int s_49.2.2)] []) ?_ FU (σ_49, l2_49, l3_49) (Ok.ofbnd h)
    intro B_49 hB_49 hE_49 s_49 h
    obtain ⟨σ_49, l2_49, l3_49⟩ := s_49
    have h : Ok (f1_build_b49 a1 σ_49 l2_49 l3_49) B_49 := h
    change J X K 4 False QQ 0 0 2017 (jw K σ_49) 49 [(0, .ref (K.2.2 + 13)), (1, .ref (K.2.2 + a1)), (2, .int l2_49), (3, .int l3_49)] []
    unfold f1_build_b49 at h
    refine J_iload_n (i := 3) (p := 3) C dX1_build_49 rfl rfl rfl ?_
    refine J_aload_n (i := 0) (p := 0) C dX1_build_50 rfl rfl rfl ?_
    refine Jc_getI C fp_RX1_24 rfl rfl dX1_build_51 rfl ?_
    refine J_icmp_ge (t := 87) C dX1_build_54 (by decide) rfl (fun c_2 => ?_) (fun c_2 => ?_)
    · have h := h.pos c_2
      have h := hE_49 (σ_49, l2_49) h.osome
      try dsimp only at h
      refine J_aload_n (i := 0) (p := 0) C dX1_build_87 rfl rfl rfl ?_
      refine J_aload_n (i := 1) (p := 1) C dX1_build_88 rfl rfl rfl ?_
      refine J_iload_n (i := 2) (p := 2) C dX1_build_89 rfl rfl rfl ?_
      refine J_aload_n (i := 1) (p := 1) C dX1_build_90 rfl rfl rfl ?_
      refine Jc_getI C fp_RX1_76 h_a1 rfl dX1_build_91 rfl ?_
      refine Jc_cV (rest := []) (st9 := fun p_3 => []) C hR hX cv_RX1_91 rfl (Nat.le_of_ble_eq_true rfl) (k1_takeOver hl h_a1 (Ok.ofbnd h)) rfl rfl (Nat.le_of_ble_eq_true rfl) (Nat.le_of_ble_eq_true rfl) (Nat.le_of_ble_eq_true rfl) ⟨(Nat.le_of_ble_eq_true rfl), (Nat.le_of_ble_eq_true rfl)⟩ dX1_build_94 rfl (fun E n9 w9 hx => JT_n hx) (fun _ => rfl) (fun p_3 h => ?_)
      have h : Ok _ _ := h
      change J X K 4 False QQ 0 0 2017 (jw K p_3) 97 [(0, .ref (K.2.2 + 13)), (1, .ref (K.2.2 + a1)), (2, .int l2_49), (3, .int l3_49)] []
      refine J_aload_n (i := 0) (p := 0) C dX1_build_97 rfl rfl rfl ?_
      refine Jc_getI C fp_RX1_55 rfl rfl dX1_build_98 rfl ?_
      refine J_sipush (v := 300) C (by decide) dX1_build_101 rfl ?_
      refine J_icmp_gt (t := 111) C dX1_build_104 (by decide) rfl (fun c_4 => ?_) (fun c_4 => ?_)
      · have h := h.pos c_4
        refine J_iconst (v := 0) C (by decide) dX1_build_111 rfl ?_
        refine J.sub [] rfl ?_
        exact hj_112 p_3 (0 : Int32) h
      · have h := h.neg c_4
        refine J_iconst (v := 1) C (by decide) dX1_build_107 rfl ?_
        refine J_goto (t := 112) C dX1_build_108 (by decide) ?_
        refine J.sub [] rfl ?_
        exact hj_112 p_3 (1 : Int32) h
    · have h := h.neg c_2
      refine J_aload_n (i := 0) (p := 0) C dX1_build_57 rfl rfl rfl ?_
      refine J_aload_n (i := 1) (p := 1) C dX1_build_58 rfl rfl rfl ?_
      refine J_iload_n (i := 2) (p := 2) C dX1_build_59 rfl rfl rfl ?_
      refine J_aload_n (i := 0) (p := 0) C dX1_build_60 rfl rfl rfl ?_
      refine Jc_getS (o2 := 1) (r2 := 14) C fp_RX1_9 rfl rfl rfl dX1_build_61 rfl ?_
      refine J_iload_n (i := 3) (p := 3) C dX1_build_64 rfl rfl rfl ?_
      obtain ⟨g_5, h⟩ := Ok.ofgd h
      refine Jc_iald C rfl rfl g_5 dX1_build_65 rfl ?_
      refine Jc_cV (rest := []) (st9 := fun p_6 => []) C hR hX cv_RX1_91 rfl (Nat.le_of_ble_eq_true rfl) (k1_takeOver hl h_a1 (Ok.ofbnd h)) rfl rfl (Nat.le_of_ble_eq_true rfl) (Nat.le_of_ble_eq_true rfl) (Nat.le_of_ble_eq_true rfl) ⟨(Nat.le_of_ble_eq_true rfl), (Nat.le_of_ble_eq_true rfl)⟩ dX1_build_66 rfl (fun E n9 w9 hx => JT_n hx) (fun _ => rfl) (fun p_6 h => ?_)
      have h : Ok _ _ := h
      change J X K 4 False QQ 0 0 2017 (jw K p_6) 69 [(0, .ref (K.2.2 + 13)), (1, .ref (K.2.2 + a1)), (2, .int l2_49), (3, .int l3_49)] []
      refine J_aload_n (i := 0) (p := 0) C dX1_build_69 rfl rfl rfl ?_
      refine J_iload_n (i := 3) (p := 3) C dX1_build_70 rfl rfl rfl ?_
      refine Jc_cV (rest := []) (st9 := fun p_7 => []) C hR hX cv_RX1_95 rfl (Nat.le_of_ble_eq_true rfl) (k1_putPart hl  (Ok.ofbnd h)) rfl rfl (Nat.le_of_ble_eq_true rfl) (Nat.le_of_ble_eq_true rfl) (Nat.le_of_ble_eq_true rfl) ⟨(Nat.le_of_ble_eq_true rfl), (Nat.le_of_ble_eq_true rfl)⟩ dX1_build_71 rfl (fun E n9 w9 hx => JT_n hx) (fun _ => rfl) (fun p_7 h => ?_)
      have h : Ok _ _ := h
      change J X K 4 False QQ 0 0 2017 (jw K p_7) 74 [(0, .ref (K.2.2 + 13)), (1, .ref (K.2.2 + a1)), (2, .int l2_49), (3, .int l3_49)] []
      refine J_aload_n (i := 0) (p := 0) C dX1_build_74 rfl rfl rfl ?_
      refine Jc_getS (o2 := 2) (r2 := 15) C fp_RX1_15 rfl rfl rfl dX1_build_75 rfl ?_
      refine J_iload_n (i := 3) (p := 3) C dX1_build_78 rfl rfl rfl ?_
      obtain ⟨g_8, h⟩ := Ok.ofgd h
      refine Jc_iald C rfl rfl g_8 dX1_build_79 rfl ?_
      obtain ⟨x2_1, e_x2_1, h⟩ := Ok.nm h
      refine J_istoreE_n (i := 2) (lv' := [(2, .int x2_1), (0, .ref (K.2.2 + 13)), (1, .ref (K.2.2 + a1)), (3, .int l3_49)]) C e_x2_1 dX1_build_80 rfl (Nat.le_of_ble_eq_true rfl) rfl rfl ?_
      obtain ⟨x3_2, e_x3_2, h⟩ := Ok.nm h
      refine J_iincE (i := 3) (p := 3) (lv' := [(3, .int x3_2), (2, .int x2_1), (0, .ref (K.2.2 + 13)), (1, .ref (K.2.2 + a1))]) C e_x3_2 dX1_build_81 rfl (by decide) (Nat.le_of_ble_eq_true rfl) rfl rfl ?_
      refine J_goto (t := 49) C dX1_build_84 (by decide) ?_
      refine J.sub [2, 3, 1, 0] rfl ?_
      exact hB_49 (p_7, x2_1, x3_2) h.osome
  have hj_22 : (∀ (σ_22 : Sto), Ok (f1_build_j22 a1 σ_22) Qf → J X K 4 False QQ 0 0 2017 (jw K σ_22) 22 [] []) := by
    intro σ_22 h
    unfold f1_build_j22 at h
    refine J_iconst (v := 0) C (by decide) dX1_build_22 rfl ?_
    rw [← hQQ]
    exact J_zret C hret rfl (Nat.le_of_ble_eq_true rfl) (Nat.le_of_ble_eq_true rfl) ⟨_, h.osome, rfl, rfl, rfl⟩ dX1_build_23
  unfold f1_build at h
  refine J_aload_n (i := 0) (p := 0) C dX1_build_0 rfl rfl rfl ?_
  refine Jc_getI C fp_RX1_37 rfl rfl dX1_build_1 rfl ?_
  refine J_if_ne (t := 22) C dX1_build_4 (by decide) rfl (fun c_11 => ?_) (fun c_11 => ?_)
  · have h := h.neg c_11
    refine J.sub [] rfl ?_
    exact hj_22 σ h
  · have h := h.pos (Decidable.not_not.mp c_11)
    refine J_aload_n (i := 1) (p := 1) C dX1_build_7 rfl rfl rfl ?_
    refine Jc_getI C fp_RX1_76 h_a1 rfl dX1_build_8 rfl ?_
    refine J_aload_n (i := 0) (p := 0) C dX1_build_11 rfl rfl rfl ?_
    refine Jc_cV (rest := [.int (fI σ a1 1)]) (st9 := fun p_12 => [.int p_12, .int (fI σ a1 1)]) C hR hX cv_RX1_79 rfl (Nat.le_of_ble_eq_true rfl) (k1_growth hl  (Ok.ofbnd h)) rfl rfl (Nat.le_of_ble_eq_true rfl) (Nat.le_of_ble_eq_true rfl) (Nat.le_of_ble_eq_true rfl) ⟨(Nat.le_of_ble_eq_true rfl), (Nat.le_of_ble_eq_true rfl)⟩ dX1_build_12 rfl (fun E n9 w9 hx => JT_n hx) (fun _ => rfl) (fun p_12 h => ?_)
    have h : Ok _ _ := h
    change J X K 4 False QQ 0 0 2017 (jw K σ) 15 [(0, .ref (K.2.2 + 13)), (1, .ref (K.2.2 + a1))] [.int p_12, .int (fI σ a1 1)]
    refine J_iadd C dX1_build_15 rfl ?_
    refine J_sipush (v := 3000) C (by decide) dX1_build_16 rfl ?_
    refine J_icmp_le (t := 24) C dX1_build_19 (by decide) rfl (fun c_13 => ?_) (fun c_13 => ?_)
    · have h := h.pos c_13
      refine J_aload_n (i := 0) (p := 0) C dX1_build_24 rfl rfl rfl ?_
      refine J_aload_n (i := 1) (p := 1) C dX1_build_25 rfl rfl rfl ?_
      refine Jc_cV (rest := []) (st9 := fun p_14 => []) C hR hX cv_RX1_83 rfl (Nat.le_of_ble_eq_true rfl) (k1_findStillHidden hl h_a1 (Ok.ofbnd h)) rfl rfl (Nat.le_of_ble_eq_true rfl) (Nat.le_of_ble_eq_true rfl) (Nat.le_of_ble_eq_true rfl) ⟨(Nat.le_of_ble_eq_true rfl), (Nat.le_of_ble_eq_true rfl)⟩ dX1_build_26 rfl (fun E n9 w9 hx => JT_n hx) (fun _ => rfl) (fun p_14 h => ?_)
      have h : Ok _ _ := h
      change J X K 4 False QQ 0 0 2017 (jw K p_14) 29 [(0, .ref (K.2.2 + 13)), (1, .ref (K.2.2 + a1))] []
      refine J_aload_n (i := 0) (p := 0) C dX1_build_29 rfl rfl rfl ?_
      refine J_iconst (v := 0) C (by decide) dX1_build_30 rfl ?_
      obtain ⟨σx_3, e_σx_3, h⟩ := Ok.nm h
      refine Jc_putI C id fp_RX1_45 fw_1_8 rfl rfl rfl e_σx_3 dX1_build_31 rfl ?_
      refine J_aload_n (i := 0) (p := 0) C dX1_build_34 rfl rfl rfl ?_
      refine J_iconst (v := 0) C (by decide) dX1_build_35 rfl ?_
      obtain ⟨σx_4, e_σx_4, h⟩ := Ok.nm h
      refine Jc_putI C id fp_RX1_55 fw_1_11 rfl rfl rfl e_σx_4 dX1_build_36 rfl ?_
      refine J_aload_n (i := 0) (p := 0) C dX1_build_39 rfl rfl rfl ?_
      refine J_iconst (v := 0) C (by decide) dX1_build_40 rfl ?_
      refine J_iconst (v := 0) C (by decide) dX1_build_41 rfl ?_
      refine Jc_cV (rest := []) (st9 := fun p_15 => []) C hR hX cv_RX1_87 rfl (Nat.le_of_ble_eq_true rfl) (k1_addLine hl  (Ok.ofbnd h)) rfl rfl (Nat.le_of_ble_eq_true rfl) (Nat.le_of_ble_eq_true rfl) (Nat.le_of_ble_eq_true rfl) ⟨(Nat.le_of_ble_eq_true rfl), (Nat.le_of_ble_eq_true rfl)⟩ dX1_build_42 rfl (fun E n9 w9 hx => JT_n hx) (fun _ => rfl) (fun p_15 h => ?_)
      have h : Ok _ _ := h
      change J X K 4 False QQ 0 0 2017 (jw K p_15) 45 [(0, .ref (K.2.2 + 13)), (1, .ref (K.2.2 + a1))] []
      refine J_iconst (v := 0) C (by decide) dX1_build_45 rfl ?_
      obtain ⟨x2_5, e_x2_5, h⟩ := Ok.nm h
      refine J_istoreE_n (i := 2) (lv' := [(2, .int x2_5), (0, .ref (K.2.2 + 13)), (1, .ref (K.2.2 + a1))]) C e_x2_5 dX1_build_46 rfl (Nat.le_of_ble_eq_true rfl) rfl rfl ?_
      refine J_iconst (v := 0) C (by decide) dX1_build_47 rfl ?_
      obtain ⟨x3_6, e_x3_6, h⟩ := Ok.nm h
      refine J_istoreE_n (i := 3) (lv' := [(3, .int x3_6), (2, .int x2_5), (0, .ref (K.2.2 + 13)), (1, .ref (K.2.2 + a1))]) C e_x3_6 dX1_build_48 rfl (Nat.le_of_ble_eq_true rfl) rfl rfl ?_
      refine J.sub [2, 3, 1, 0] rfl ?_
      exact hj_49 p_15 x2_5 x3_6 h
    · have h := h.neg c_13
      refine J.sub [] rfl ?_
      exact hj_22 σ h
def f5_take_j125 (a0 : Nat) (a1 : Nat) (σ_125 : Sto) (l2_125 : Int32) (s1_125 : Int32) (s2_125 : Int64) (s3_125 : Int64) : Option ((Sto × Int32) ⊕ Sto) :=
  gd (inb s1_125 5) <|
  stp (uL σ_125 (a0 + 2) (Int32.toNatClampNeg s1_125) (s2_125 ||| (s3_125 <<< (Int32.toInt64 (l2_125 - l2_125 / (64 : Int32) * (64 : Int32)) &&& 63)))) fun σx_1 =>
  stp (l2_125 + (1 : Int32)) fun x2_2 =>
  some (.inl (σx_1, x2_2))
def f5_take_j101 (a0 : Nat) (a1 : Nat) (σ_101 : Sto) (l2_101 : Int32) (s0_101 : Int64) : Option ((Sto × Int32) ⊕ Sto) :=
  stp s0_101 fun x3_3 =>
  gd (okr (fR σ_101 a1 3) 14) <|
  gd (inb l2_101 (ln ((fR σ_101 a1 3) - 1))) <|
  if (aI σ_101 ((fR σ_101 a1 3) - 1) (Int32.toNatClampNeg l2_101)) = 0 then
    f5_take_j125 a0 a1 σ_101 l2_101 (l2_101 / (64 : Int32)) x3_3 (0 : Int64)
  else
    f5_take_j125 a0 a1 σ_101 l2_101 (l2_101 / (64 : Int32)) x3_3 (1 : Int64)
def f5_take_b73 (a0 : Nat) (a1 : Nat) (σ_73 : Sto) (l2_73 : Int32) : Option ((Sto × Int32) ⊕ Sto) :=
  if (fI σ_73 a1 4) ≤ l2_73 then
    some (.inr σ_73)
  else
    if (l2_73 - l2_73 / (64 : Int32) * (64 : Int32)) = 0 then
      f5_take_j101 a0 a1 σ_73 l2_73 (0 : Int64)
    else
      gd (inb (l2_73 / (64 : Int32)) 5) <|
      f5_take_j101 a0 a1 σ_73 l2_73 (aL σ_73 (a0 + 2) (Int32.toNatClampNeg (l2_73 / (64 : Int32))))
def f5_take_j73 (a0 : Nat) (a1 : Nat) (σ_73 : Sto) (l2_73 : Int32) : Option (Sto) :=
  bnd (loopF (fun s_73 => f5_take_b73 a0 a1 s_73.1 s_73.2) FU (σ_73, l2_73)) fun r_73 =>
    gd (cpok (0 : Int32) (0 : Int32) (8 : Int32) 8 8) <|
    stp (rA r_73 (a0 + 3) (va_cpy (aI r_73 (a1 + 4)) (aI r_73 (a0 + 3)) (Int32.toNatClampNeg (0 : Int32)) (Int32.toNatClampNeg (0 : Int32)) (Int32.toNatClampNeg (8 : Int32)))) fun σx_8 =>
    gd (cpok (0 : Int32) (0 : Int32) (16 : Int32) 16 16) <|
    stp (rA σx_8 (a0 + 4) (va_cpy (aI σx_8 (a1 + 5)) (aI σx_8 (a0 + 4)) (Int32.toNatClampNeg (0 : Int32)) (Int32.toNatClampNeg (0 : Int32)) (Int32.toNatClampNeg (16 : Int32)))) fun σx_9 =>
    gd (cpok (0 : Int32) (0 : Int32) (16 : Int32) 16 16) <|
    gd (fitZ (aI σx_9 (a1 + 6)) (Int32.toNatClampNeg (0 : Int32)) (Int32.toNatClampNeg (16 : Int32))) <|
    stp (rA σx_9 (a0 + 5) (va_cpy (aI σx_9 (a1 + 6)) (aI σx_9 (a0 + 5)) (Int32.toNatClampNeg (0 : Int32)) (Int32.toNatClampNeg (0 : Int32)) (Int32.toNatClampNeg (16 : Int32)))) fun σx_10 =>
    stp (uI σx_10 a0 4 (fI σx_10 a1 6)) fun σx_11 =>
    some σx_11
def f5_take_j38 (a0 : Nat) (a1 : Nat) (σ_38 : Sto) (l2_38 : Int32) (s0_38 : Int64) : Option ((Sto × Int32) ⊕ Sto) :=
  stp s0_38 fun x3_12 =>
  gd (okr (fR σ_38 a1 0) 13) <|
  gd (inb l2_38 (ln ((fR σ_38 a1 0) - 1))) <|
  gd (inb (l2_38 / (8 : Int32)) 375) <|
  stp (uL σ_38 (a0 + 1) (Int32.toNatClampNeg (l2_38 / (8 : Int32))) (x3_12 ||| ((Int32.toInt64 (aI σ_38 ((fR σ_38 a1 0) - 1) (Int32.toNatClampNeg l2_38))) <<< (Int32.toInt64 ((l2_38 - l2_38 / (8 : Int32) * (8 : Int32)) * (8 : Int32)) &&& 63)))) fun σx_13 =>
  stp (l2_38 + (1 : Int32)) fun x2_14 =>
  some (.inl (σx_13, x2_14))
def f5_take_b10 (a0 : Nat) (a1 : Nat) (σ_10 : Sto) (l2_10 : Int32) : Option ((Sto × Int32) ⊕ Sto) :=
  if (fI σ_10 a0 1) ≤ l2_10 then
    some (.inr σ_10)
  else
    if (l2_10 - l2_10 / (8 : Int32) * (8 : Int32)) = 0 then
      f5_take_j38 a0 a1 σ_10 l2_10 (0 : Int64)
    else
      gd (inb (l2_10 / (8 : Int32)) 375) <|
      f5_take_j38 a0 a1 σ_10 l2_10 (aL σ_10 (a0 + 1) (Int32.toNatClampNeg (l2_10 / (8 : Int32))))
def f5_take_j10 (a0 : Nat) (a1 : Nat) (σ_10 : Sto) (l2_10 : Int32) : Option (Sto) :=
  bnd (loopF (fun s_10 => f5_take_b10 a0 a1 s_10.1 s_10.2) FU (σ_10, l2_10)) fun r_10 =>
    stp (0 : Int32) fun x2_16 =>
    f5_take_j73 a0 a1 r_10 x2_16
def f5_take (σ : Sto) (a0 : Nat) (a1 : Nat) : Option (Sto) :=
  stp (uI σ a0 1 (fI σ a1 1)) fun σx_17 =>
  stp (0 : Int32) fun x2_18 =>
  f5_take_j10 a0 a1 σx_17 x2_18
set_option maxHeartbeats 4000000 in
set_option maxRecDepth 100000 in
theorem k5_take {l : Launch} {K : JK} (hl : l.stackTraces = false) {σ : Sto} {a0 : Nat} {a1 : Nat} (h_a0 : kc a0 = 5) (h_a1 : kc a1 = 8) {Qf : Sto → Prop} (h : Ok (f5_take σ a0 a1) Qf) : Con l K yX5_take (.code yX5_take cX5_take 5 none :: TB) 1 0 0 False [.ref (K.2.2 + a0), .ref (K.2.2 + a1)] 2017 (jw K σ) (PR Qf (fun p => none) (fun p => jw K p)) PN := by
  refine Con.enter (own := RX5) hl (by decide) rfl (Nat.le_of_ble_eq_true rfl) ?_
  intro X hX hR C hret hnt
  generalize hQQ : jQ X K 0 0 (PR Qf (fun p => none) (fun p => jw K p)) PN False = QQ
  change J X K 5 False QQ 0 0 2017 (jw K σ) 0 [(0, .ref (K.2.2 + a0)), (1, .ref (K.2.2 + a1))] []
  have hj_73 : (∀ (σ_73 : Sto) (l2_73 : Int32), Ok (f5_take_j73 a0 a1 σ_73 l2_73) Qf → J X K 5 False QQ 0 0 2017 (jw K σ_73) 73 [(0, .ref (K.2.2 + a0)), (1, .ref (K.2.2 + a1)), (2, .int l2_73)] []) := by
    intro σ_73 l2_73 h
    unfold f5_take_j73 at h
    refine loop_gen (S := Sto × Int32) (P := fun s_73 => J X K 5 False QQ 0 0 2017 (jw K s_73.1) 73 [(0, .ref (K.2.2 + a0)), (1, .ref (K.2.2 + a1)), (2, .int s_73.2)] []) ?_ FU (σ_73, l2_73) (Ok.ofbnd h)
    intro B_73 hB_73 hE_73 s_73 h
    obtain ⟨σ_73, l2_73⟩ := s_73
    have h : Ok (f5_take_b73 a0 a1 σ_73 l2_73) B_73 := h
    change J X K 5 False QQ 0 0 2017 (jw K σ_73) 73 [(0, .ref (K.2.2 + a0)), (1, .ref (K.2.2 + a1)), (2, .int l2_73)] []
    have hj_125 : (∀ (σ_125 : Sto) (l2_125 : Int32) (s1_125 : Int32) (s2_125 : Int64) (s3_125 : Int64), Ok (f5_take_j125 a0 a1 σ_125 l2_125 s1_125 s2_125 s3_125) B_73 → J X K 5 False QQ 0 0 2017 (jw K σ_125) 125 [(0, .ref (K.2.2 + a0)), (1, .ref (K.2.2 + a1)), (2, .int l2_125)] [.long s3_125, .long s2_125, .int s1_125, .ref (K.2.2 + (a0 + 2))]) := by
      intro σ_125 l2_125 s1_125 s2_125 s3_125 h
      unfold f5_take_j125 at h
      refine J_iload_n (i := 2) (p := 2) C dX5_take_125 rfl rfl rfl ?_
      refine J_bipush (v := 64) C (by decide) dX5_take_126 rfl ?_
      refine J_irem C (by decide) dX5_take_128 rfl ?_
      refine J_lshl C dX5_take_129 rfl ?_
      refine J_lor C dX5_take_130 rfl ?_
      obtain ⟨g_1, h⟩ := Ok.ofgd h
      obtain ⟨σx_1, e_σx_1, h⟩ := Ok.nm h
      refine Jc_last C id (ks_5_2 h_a0) (ls_5_2 h_a0) g_1 e_σx_1 dX5_take_131 rfl ?_
      obtain ⟨x2_2, e_x2_2, h⟩ := Ok.nm h
      refine J_iincE (i := 2) (p := 2) (lv' := [(2, .int x2_2), (0, .ref (K.2.2 + a0)), (1, .ref (K.2.2 + a1))]) C e_x2_2 dX5_take_132 rfl (by decide) (Nat.le_of_ble_eq_true rfl) rfl rfl ?_
      refine J_goto (t := 73) C dX5_take_135 (by decide) ?_
      refine J.sub [1, 2, 0] rfl ?_
      exact hB_73 (σx_1, x2_2) h.osome
    have hj_101 : (∀ (σ_101 : Sto) (l2_101 : Int32) (s0_101 : Int64), Ok (f5_take_j101 a0 a1 σ_101 l2_101 s0_101) B_73 → J X K 5 False QQ 0 0 2017 (jw K σ_101) 101 [(0, .ref (K.2.2 + a0)), (1, .ref (K.2.2 + a1)), (2, .int l2_101)] [.long s0_101]) := by
      intro σ_101 l2_101 s0_101 h
      unfold f5_take_j101 at h
      obtain ⟨x3_3, e_x3_3, h⟩ := Ok.nm h
      refine J_lstoreE_n (i := 3) (lv' := [(3, .long x3_3), (0, .ref (K.2.2 + a0)), (1, .ref (K.2.2 + a1)), (2, .int l2_101)]) C e_x3_3 dX5_take_101 rfl (Nat.le_of_ble_eq_true rfl) rfl rfl ?_
      refine J_aload_n (i := 0) (p := 1) C dX5_take_102 rfl rfl rfl ?_
      refine Jc_getS (o2 := 2) (r2 := a0 + 2) C fp_RX5_19 rfl h_a0 rfl dX5_take_103 rfl ?_
      refine J_iload_n (i := 2) (p := 3) C dX5_take_106 rfl rfl rfl ?_
      refine J_bipush (v := 64) C (by decide) dX5_take_107 rfl ?_
      refine J_idiv C (by decide) dX5_take_109 rfl ?_
      refine J_lload_n (i := 3) (p := 0) C dX5_take_110 rfl rfl rfl ?_
      refine J_aload_n (i := 1) (p := 2) C dX5_take_111 rfl rfl rfl ?_
      refine Jc_getD C fp_RX5_45 h_a1 rfl dX5_take_112 rfl ?_
      refine J_iload_n (i := 2) (p := 3) C dX5_take_115 rfl rfl rfl ?_
      obtain ⟨g_2, h⟩ := Ok.ofgd h
      rw [jv_pos (r := fR σ_101 a1 3) (okr_spec g_2).1]
      obtain ⟨g_3, h⟩ := Ok.ofgd h
      refine Jc_zald C (okr_spec g_2).2 rfl g_3 dX5_take_116 rfl ?_
      refine J_if_eq (t := 124) C dX5_take_117 (by decide) rfl (fun c_4 => ?_) (fun c_4 => ?_)
      · have h := h.pos c_4
        refine J_lconst (v := 0) C (by decide) dX5_take_124 rfl ?_
        refine J.sub [1, 2, 3] rfl ?_
        exact hj_125 σ_101 l2_101 (l2_101 / (64 : Int32)) x3_3 (0 : Int64) h
      · have h := h.neg c_4
        refine J_lconst (v := 1) C (by decide) dX5_take_120 rfl ?_
        refine J_goto (t := 125) C dX5_take_121 (by decide) ?_
        refine J.sub [1, 2, 3] rfl ?_
        exact hj_125 σ_101 l2_101 (l2_101 / (64 : Int32)) x3_3 (1 : Int64) h
    unfold f5_take_b73 at h
    refine J_iload_n (i := 2) (p := 2) C dX5_take_73 rfl rfl rfl ?_
    refine J_aload_n (i := 1) (p := 1) C dX5_take_74 rfl rfl rfl ?_
    refine Jc_getI C fp_RX5_42 h_a1 rfl dX5_take_75 rfl ?_
    refine J_icmp_ge (t := 138) C dX5_take_78 (by decide) rfl (fun c_5 => ?_) (fun c_5 => ?_)
    · have h := h.pos c_5
      have h := hE_73 σ_73 h.osome
      try dsimp only at h
      refine J_aload_n (i := 1) (p := 1) C dX5_take_138 rfl rfl rfl ?_
      refine Jc_getS (o2 := 4) (r2 := a1 + 4) C fp_RX5_47 rfl h_a1 rfl dX5_take_139 rfl ?_
      refine J_iconst (v := 0) C (by decide) dX5_take_142 rfl ?_
      refine J_aload_n (i := 0) (p := 0) C dX5_take_143 rfl rfl rfl ?_
      refine Jc_getS (o2 := 3) (r2 := a0 + 3) C fp_RX5_22 rfl h_a0 rfl dX5_take_144 rfl ?_
      refine J_iconst (v := 0) C (by decide) dX5_take_147 rfl ?_
      refine J_bipush (v := 8) C (by decide) dX5_take_148 rfl ?_
      obtain ⟨g_6, h⟩ := Ok.ofgd h
      obtain ⟨σx_4, e_σx_4, h⟩ := Ok.nm h
      refine Jc_copyI C id ac_RX5_48 ac_nat ac_st ac_ini (ks_8_5 h_a1) (ks_5_3 h_a0) (ls_8_5 h_a1) (ls_5_3 h_a0) g_6 e_σx_4 (fun _ _ => rfl) (by rw [hR]; exact (Nat.le_of_ble_eq_true rfl)) (by rw [hR]; exact (Nat.le_of_ble_eq_true rfl)) dX5_take_150 rfl ?_
      refine J_aload_n (i := 1) (p := 1) C dX5_take_153 rfl rfl rfl ?_
      refine Jc_getS (o2 := 5) (r2 := a1 + 5) C fp_RX5_54 rfl h_a1 rfl dX5_take_154 rfl ?_
      refine J_iconst (v := 0) C (by decide) dX5_take_157 rfl ?_
      refine J_aload_n (i := 0) (p := 0) C dX5_take_158 rfl rfl rfl ?_
      refine Jc_getS (o2 := 4) (r2 := a0 + 4) C fp_RX5_29 rfl h_a0 rfl dX5_take_159 rfl ?_
      refine J_iconst (v := 0) C (by decide) dX5_take_162 rfl ?_
      refine J_bipush (v := 16) C (by decide) dX5_take_163 rfl ?_
      obtain ⟨g_7, h⟩ := Ok.ofgd h
      obtain ⟨σx_5, e_σx_5, h⟩ := Ok.nm h
      refine Jc_copyI C id ac_RX5_48 ac_nat ac_st ac_ini (ks_8_7 h_a1) (ks_5_5 h_a0) (ls_8_7 h_a1) (ls_5_5 h_a0) g_7 e_σx_5 (fun _ _ => rfl) (by rw [hR]; exact (Nat.le_of_ble_eq_true rfl)) (by rw [hR]; exact (Nat.le_of_ble_eq_true rfl)) dX5_take_165 rfl ?_
      refine J_aload_n (i := 1) (p := 1) C dX5_take_168 rfl rfl rfl ?_
      refine Jc_getS (o2 := 6) (r2 := a1 + 6) C fp_RX5_55 rfl h_a1 rfl dX5_take_169 rfl ?_
      refine J_iconst (v := 0) C (by decide) dX5_take_172 rfl ?_
      refine J_aload_n (i := 0) (p := 0) C dX5_take_173 rfl rfl rfl ?_
      refine Jc_getS (o2 := 5) (r2 := a0 + 5) C fp_RX5_32 rfl h_a0 rfl dX5_take_174 rfl ?_
      refine J_iconst (v := 0) C (by decide) dX5_take_177 rfl ?_
      refine J_bipush (v := 16) C (by decide) dX5_take_178 rfl ?_
      obtain ⟨g_8, h⟩ := Ok.ofgd h
      obtain ⟨g_9, h⟩ := Ok.ofgd h
      obtain ⟨σx_6, e_σx_6, h⟩ := Ok.nm h
      refine Jc_copyZ C id ac_RX5_48 ac_nat ac_st ac_ini (ks_8_8 h_a1) (ks_5_6 h_a0) (ls_8_8 h_a1) (ls_5_6 h_a0) g_8 e_σx_6 (fitZ_spec g_9) (by rw [hR]; exact (Nat.le_of_ble_eq_true rfl)) (by rw [hR]; exact (Nat.le_of_ble_eq_true rfl)) dX5_take_180 rfl ?_
      refine J_aload_n (i := 0) (p := 0) C dX5_take_183 rfl rfl rfl ?_
      refine J_aload_n (i := 1) (p := 1) C dX5_take_184 rfl rfl rfl ?_
      refine Jc_getI C fp_RX5_56 h_a1 rfl dX5_take_185 rfl ?_
      obtain ⟨σx_7, e_σx_7, h⟩ := Ok.nm h
      refine Jc_putI C id fp_RX5_26 fw_5_4 rfl h_a0 rfl e_σx_7 dX5_take_188 rfl ?_
      rw [← hQQ]
      exact J_vret C hret (Nat.le_of_ble_eq_true rfl) (Nat.le_of_ble_eq_true rfl) ⟨_, h.osome, rfl, rfl, rfl⟩ dX5_take_191
    · have h := h.neg c_5
      refine J_iload_n (i := 2) (p := 2) C dX5_take_81 rfl rfl rfl ?_
      refine J_bipush (v := 64) C (by decide) dX5_take_82 rfl ?_
      refine J_irem C (by decide) dX5_take_84 rfl ?_
      refine J_if_ne (t := 92) C dX5_take_85 (by decide) rfl (fun c_10 => ?_) (fun c_10 => ?_)
      · have h := h.neg c_10
        refine J_aload_n (i := 0) (p := 0) C dX5_take_92 rfl rfl rfl ?_
        refine Jc_getS (o2 := 2) (r2 := a0 + 2) C fp_RX5_19 rfl h_a0 rfl dX5_take_93 rfl ?_
        refine J_iload_n (i := 2) (p := 2) C dX5_take_96 rfl rfl rfl ?_
        refine J_bipush (v := 64) C (by decide) dX5_take_97 rfl ?_
        refine J_idiv C (by decide) dX5_take_99 rfl ?_
        obtain ⟨g_11, h⟩ := Ok.ofgd h
        refine Jc_lald C (ks_5_2 h_a0) (ls_5_2 h_a0) g_11 dX5_take_100 rfl ?_
        exact hj_101 σ_73 l2_73 (aL σ_73 (a0 + 2) (Int32.toNatClampNeg (l2_73 / (64 : Int32)))) h
      · have h := h.pos (Decidable.not_not.mp c_10)
        refine J_lconst (v := 0) C (by decide) dX5_take_88 rfl ?_
        refine J_goto (t := 101) C dX5_take_89 (by decide) ?_
        exact hj_101 σ_73 l2_73 (0 : Int64) h
  have hj_10 : (∀ (σ_10 : Sto) (l2_10 : Int32), Ok (f5_take_j10 a0 a1 σ_10 l2_10) Qf → J X K 5 False QQ 0 0 2017 (jw K σ_10) 10 [(0, .ref (K.2.2 + a0)), (1, .ref (K.2.2 + a1)), (2, .int l2_10)] []) := by
    intro σ_10 l2_10 h
    unfold f5_take_j10 at h
    refine loop_gen (S := Sto × Int32) (P := fun s_10 => J X K 5 False QQ 0 0 2017 (jw K s_10.1) 10 [(0, .ref (K.2.2 + a0)), (1, .ref (K.2.2 + a1)), (2, .int s_10.2)] []) ?_ FU (σ_10, l2_10) (Ok.ofbnd h)
    intro B_10 hB_10 hE_10 s_10 h
    obtain ⟨σ_10, l2_10⟩ := s_10
    have h : Ok (f5_take_b10 a0 a1 σ_10 l2_10) B_10 := h
    change J X K 5 False QQ 0 0 2017 (jw K σ_10) 10 [(0, .ref (K.2.2 + a0)), (1, .ref (K.2.2 + a1)), (2, .int l2_10)] []
    have hj_38 : (∀ (σ_38 : Sto) (l2_38 : Int32) (s0_38 : Int64), Ok (f5_take_j38 a0 a1 σ_38 l2_38 s0_38) B_10 → J X K 5 False QQ 0 0 2017 (jw K σ_38) 38 [(0, .ref (K.2.2 + a0)), (1, .ref (K.2.2 + a1)), (2, .int l2_38)] [.long s0_38]) := by
      intro σ_38 l2_38 s0_38 h
      unfold f5_take_j38 at h
      obtain ⟨x3_12, e_x3_12, h⟩ := Ok.nm h
      refine J_lstoreE_n (i := 3) (lv' := [(3, .long x3_12), (0, .ref (K.2.2 + a0)), (1, .ref (K.2.2 + a1)), (2, .int l2_38)]) C e_x3_12 dX5_take_38 rfl (Nat.le_of_ble_eq_true rfl) rfl rfl ?_
      refine J_aload_n (i := 0) (p := 1) C dX5_take_39 rfl rfl rfl ?_
      refine Jc_getS (o2 := 1) (r2 := a0 + 1) C fp_RX5_9 rfl h_a0 rfl dX5_take_40 rfl ?_
      refine J_iload_n (i := 2) (p := 3) C dX5_take_43 rfl rfl rfl ?_
      refine J_bipush (v := 8) C (by decide) dX5_take_44 rfl ?_
      refine J_idiv C (by decide) dX5_take_46 rfl ?_
      refine J_lload_n (i := 3) (p := 0) C dX5_take_47 rfl rfl rfl ?_
      refine J_aload_n (i := 1) (p := 2) C dX5_take_48 rfl rfl rfl ?_
      refine Jc_getD C fp_RX5_39 h_a1 rfl dX5_take_49 rfl ?_
      refine J_iload_n (i := 2) (p := 3) C dX5_take_52 rfl rfl rfl ?_
      obtain ⟨g_16, h⟩ := Ok.ofgd h
      rw [jv_pos (r := fR σ_38 a1 0) (okr_spec g_16).1]
      obtain ⟨g_17, h⟩ := Ok.ofgd h
      refine Jc_bald C (okr_spec g_16).2 rfl g_17 dX5_take_53 rfl ?_
      refine J_i2l C dX5_take_54 rfl ?_
      refine J_iload_n (i := 2) (p := 3) C dX5_take_55 rfl rfl rfl ?_
      refine J_bipush (v := 8) C (by decide) dX5_take_56 rfl ?_
      refine J_irem C (by decide) dX5_take_58 rfl ?_
      refine J_bipush (v := 8) C (by decide) dX5_take_59 rfl ?_
      refine J_imul C dX5_take_61 rfl ?_
      refine J_lshl C dX5_take_62 rfl ?_
      refine J_lor C dX5_take_63 rfl ?_
      obtain ⟨g_18, h⟩ := Ok.ofgd h
      obtain ⟨σx_13, e_σx_13, h⟩ := Ok.nm h
      refine Jc_last C id (ks_5_0 h_a0) (ls_5_0 h_a0) g_18 e_σx_13 dX5_take_64 rfl ?_
      obtain ⟨x2_14, e_x2_14, h⟩ := Ok.nm h
      refine J_iincE (i := 2) (p := 3) (lv' := [(2, .int x2_14), (3, .long x3_12), (0, .ref (K.2.2 + a0)), (1, .ref (K.2.2 + a1))]) C e_x2_14 dX5_take_65 rfl (by decide) (Nat.le_of_ble_eq_true rfl) rfl rfl ?_
      refine J_goto (t := 10) C dX5_take_68 (by decide) ?_
      refine J.sub [2, 3, 0] rfl ?_
      exact hB_10 (σx_13, x2_14) h.osome
    unfold f5_take_b10 at h
    refine J_iload_n (i := 2) (p := 2) C dX5_take_10 rfl rfl rfl ?_
    refine J_aload_n (i := 0) (p := 0) C dX5_take_11 rfl rfl rfl ?_
    refine Jc_getI C fp_RX5_15 h_a0 rfl dX5_take_12 rfl ?_
    refine J_icmp_ge (t := 71) C dX5_take_15 (by decide) rfl (fun c_19 => ?_) (fun c_19 => ?_)
    · have h := h.pos c_19
      have h := hE_10 σ_10 h.osome
      try dsimp only at h
      refine J_iconst (v := 0) C (by decide) dX5_take_71 rfl ?_
      obtain ⟨x2_15, e_x2_15, h⟩ := Ok.nm h
      refine J_istoreE_n (i := 2) (lv' := [(2, .int x2_15), (0, .ref (K.2.2 + a0)), (1, .ref (K.2.2 + a1))]) C e_x2_15 dX5_take_72 rfl (Nat.le_of_ble_eq_true rfl) rfl rfl ?_
      refine J.sub [1, 2, 0] rfl ?_
      exact hj_73 σ_10 x2_15 h
    · have h := h.neg c_19
      refine J_iload_n (i := 2) (p := 2) C dX5_take_18 rfl rfl rfl ?_
      refine J_bipush (v := 8) C (by decide) dX5_take_19 rfl ?_
      refine J_irem C (by decide) dX5_take_21 rfl ?_
      refine J_if_ne (t := 29) C dX5_take_22 (by decide) rfl (fun c_20 => ?_) (fun c_20 => ?_)
      · have h := h.neg c_20
        refine J_aload_n (i := 0) (p := 0) C dX5_take_29 rfl rfl rfl ?_
        refine Jc_getS (o2 := 1) (r2 := a0 + 1) C fp_RX5_9 rfl h_a0 rfl dX5_take_30 rfl ?_
        refine J_iload_n (i := 2) (p := 2) C dX5_take_33 rfl rfl rfl ?_
        refine J_bipush (v := 8) C (by decide) dX5_take_34 rfl ?_
        refine J_idiv C (by decide) dX5_take_36 rfl ?_
        obtain ⟨g_21, h⟩ := Ok.ofgd h
        refine Jc_lald C (ks_5_0 h_a0) (ls_5_0 h_a0) g_21 dX5_take_37 rfl ?_
        exact hj_38 σ_10 l2_10 (aL σ_10 (a0 + 1) (Int32.toNatClampNeg (l2_10 / (8 : Int32)))) h
      · have h := h.pos (Decidable.not_not.mp c_20)
        refine J_lconst (v := 0) C (by decide) dX5_take_25 rfl ?_
        refine J_goto (t := 38) C dX5_take_26 (by decide) ?_
        exact hj_38 σ_10 l2_10 (0 : Int64) h
  unfold f5_take at h
  refine J_aload_n (i := 0) (p := 0) C dX5_take_0 rfl rfl rfl ?_
  refine J_aload_n (i := 1) (p := 1) C dX5_take_1 rfl rfl rfl ?_
  refine Jc_getI C fp_RX5_36 h_a1 rfl dX5_take_2 rfl ?_
  obtain ⟨σx_17, e_σx_17, h⟩ := Ok.nm h
  refine Jc_putI C id fp_RX5_15 fw_5_1 rfl h_a0 rfl e_σx_17 dX5_take_5 rfl ?_
  refine J_iconst (v := 0) C (by decide) dX5_take_8 rfl ?_
  obtain ⟨x2_18, e_x2_18, h⟩ := Ok.nm h
  refine J_istoreE_n (i := 2) (lv' := [(2, .int x2_18), (0, .ref (K.2.2 + a0)), (1, .ref (K.2.2 + a1))]) C e_x2_18 dX5_take_9 rfl (Nat.le_of_ble_eq_true rfl) rfl rfl ?_
  refine J.sub [1, 2, 0] rfl ?_
  exact hj_10 σx_17 x2_18 h
def f4_keepAct_j35 (a1 : Nat) (σ_35 : Sto) : Option (Sto) :=
  some σ_35
def f4_keepAct_j23 (a1 : Nat) (σ_23 : Sto) (s0_23 : Nat) : Option (Sto) :=
  stp s0_23 fun x2_1 =>
  if (fI σ_23 24 4) = 0 then
    if x2_1 = 0 then
      f4_keepAct_j35 a1 σ_23
    else
      gd (okr x2_1 0) <|
      bnd (f5_take σ_23 (x2_1 - 1 + 1) a1) fun p_4 =>
      stp (uR p_4 (x2_1 - 1) 0 (fR p_4 24 2)) fun σx_2 =>
      gd (okr (fR σx_2 24 2) 0) <|
      stp (uR σx_2 ((fR σx_2 24 2) - 1) 1 ((x2_1 - 1) + 1)) fun σx_3 =>
      stp (uR σx_3 24 2 ((x2_1 - 1) + 1)) fun σx_4 =>
      stp (uI σx_4 24 1 ((fI σx_4 24 1) + (1 : Int32))) fun σx_5 =>
      gd (isB (fI σx_5 24 3)) <|
      stp (uI σx_5 24 4 (fI σx_5 24 3)) fun σx_6 =>
      some σx_6
  else
    f4_keepAct_j35 a1 σ_23
def f4_keepAct (σ : Sto) (a1 : Nat) : Option (Sto) :=
  if (150 : Int32) ≤ (fI σ 24 1) then
    f4_keepAct_j23 a1 σ 0
  else
    gd (inb (fI σ 24 1) 150) <|
    f4_keepAct_j23 a1 σ ((39 + 13 * (Int32.toNatClampNeg (fI σ 24 1))) + 1)
set_option maxHeartbeats 4000000 in
set_option maxRecDepth 100000 in
theorem k4_keepAct {l : Launch} {K : JK} (hl : l.stackTraces = false) {σ : Sto} {a1 : Nat} (h_a1 : kc a1 = 8) {Qf : Sto → Prop} (h : Ok (f4_keepAct σ a1) Qf) : Con l K yX4_keepAct (.code yX4_keepAct cX4_keepAct 3 none :: TB) 2 0 0 False [.ref (K.2.2 + 24), .ref (K.2.2 + a1)] 2017 (jw K σ) (PR Qf (fun p => none) (fun p => jw K p)) PN := by
  refine Con.enter (own := RX4) hl (by decide) rfl (Nat.le_of_ble_eq_true rfl) ?_
  intro X hX hR C hret hnt
  generalize hQQ : jQ X K 0 0 (PR Qf (fun p => none) (fun p => jw K p)) PN False = QQ
  change J X K 3 False QQ 0 0 2017 (jw K σ) 0 [(0, .ref (K.2.2 + 24)), (1, .ref (K.2.2 + a1))] []
  have hj_35 : (∀ (σ_35 : Sto), Ok (f4_keepAct_j35 a1 σ_35) Qf → J X K 3 False QQ 0 0 2017 (jw K σ_35) 35 [] []) := by
    intro σ_35 h
    unfold f4_keepAct_j35 at h
    rw [← hQQ]
    exact J_vret C hret (Nat.le_of_ble_eq_true rfl) (Nat.le_of_ble_eq_true rfl) ⟨_, h.osome, rfl, rfl, rfl⟩ dX4_keepAct_35
  have hj_23 : (∀ (σ_23 : Sto) (s0_23 : Nat), Ok (f4_keepAct_j23 a1 σ_23 s0_23) Qf → J X K 3 False QQ 0 0 2017 (jw K σ_23) 23 [(0, .ref (K.2.2 + 24)), (1, .ref (K.2.2 + a1))] [jv K.2.2 s0_23]) := by
    intro σ_23 s0_23 h
    unfold f4_keepAct_j23 at h
    obtain ⟨x2_1, e_x2_1, h⟩ := Ok.nm h
    refine J_astoreqE_n (i := 2) (lv' := [(2, jv K.2.2 x2_1), (0, .ref (K.2.2 + 24)), (1, .ref (K.2.2 + a1))]) C e_x2_1 dX4_keepAct_23 rfl (Nat.le_of_ble_eq_true rfl) rfl rfl ?_
    refine J_aload_n (i := 0) (p := 1) C dX4_keepAct_24 rfl rfl rfl ?_
    refine Jc_getI C fp_RX4_30 rfl rfl dX4_keepAct_25 rfl ?_
    refine J_if_ne (t := 35) C dX4_keepAct_28 (by decide) rfl (fun c_1 => ?_) (fun c_1 => ?_)
    · have h := h.neg c_1
      refine J.sub [] rfl ?_
      exact hj_35 σ_23 h
    · have h := h.pos (Decidable.not_not.mp c_1)
      refine J_aloadq_n (i := 2) (p := 0) C dX4_keepAct_31 rfl rfl rfl ?_
      refine J_ifnonnullq (t := 36) C dX4_keepAct_32 (by decide) rfl (fun c_2 => ?_) (fun c_2 => ?_)
      · have h := h.neg c_2
        refine J_aloadq_n (i := 2) (p := 0) C dX4_keepAct_36 rfl rfl rfl ?_
        obtain ⟨g_3, h⟩ := Ok.ofgd h
        rw [jv_pos (r := x2_1) (okr_spec g_3).1]
        refine Jc_getS (o2 := 1) (r2 := x2_1 - 1 + 1) C fp_RX4_33 rfl (okr_spec g_3).2 rfl dX4_keepAct_37 rfl ?_
        refine J_aload_n (i := 1) (p := 2) C dX4_keepAct_40 rfl rfl rfl ?_
        refine Jc_cV (rest := []) (st9 := fun p_4 => []) C hR hX cv_RX4_37 (ks_0_2 (okr_spec g_3).2) (Nat.le_of_ble_eq_true rfl) (k5_take hl (ks_0_2 (okr_spec g_3).2) h_a1 (Ok.ofbnd h)) rfl rfl (Nat.le_of_ble_eq_true rfl) (Nat.le_of_ble_eq_true rfl) (Nat.le_of_ble_eq_true rfl) ⟨(Nat.le_of_ble_eq_true rfl), (Nat.le_of_ble_eq_true rfl)⟩ dX4_keepAct_41 rfl (fun E n9 w9 hx => JT_n hx) (fun _ => rfl) (fun p_4 h => ?_)
        have h : Ok _ _ := h
        change J X K 3 False QQ 0 0 2017 (jw K p_4) 44 [(2, .ref (K.2.2 + (x2_1 - 1))), (0, .ref (K.2.2 + 24)), (1, .ref (K.2.2 + a1))] []
        refine J_aload_n (i := 2) (p := 0) C dX4_keepAct_44 rfl rfl rfl ?_
        refine J_aload_n (i := 0) (p := 1) C dX4_keepAct_45 rfl rfl rfl ?_
        refine Jc_getD C fp_RX4_22 rfl rfl dX4_keepAct_46 rfl ?_
        obtain ⟨σx_2, e_σx_2, h⟩ := Ok.nm h
        refine Jc_putD (v := fR p_4 24 2) C id fp_RX4_43 fw_0_0 (Or.inl ⟨_, rfl⟩) (okr_spec g_3).2 rfl e_σx_2 dX4_keepAct_49 rfl ?_
        refine J_aload_n (i := 0) (p := 1) C dX4_keepAct_52 rfl rfl rfl ?_
        refine Jc_getD C fp_RX4_22 rfl rfl dX4_keepAct_53 rfl ?_
        refine J_aload_n (i := 2) (p := 0) C dX4_keepAct_56 rfl rfl rfl ?_
        obtain ⟨g_5, h⟩ := Ok.ofgd h
        rw [jv_pos (r := fR σx_2 24 2) (okr_spec g_5).1]
        obtain ⟨σx_3, e_σx_3, h⟩ := Ok.nm h
        refine Jc_putD (v := (x2_1 - 1) + 1) C id fp_RX4_46 fw_0_1 (Or.inl ⟨_, rfl⟩) (okr_spec g_5).2 rfl e_σx_3 dX4_keepAct_57 rfl ?_
        refine J_aload_n (i := 0) (p := 1) C dX4_keepAct_60 rfl rfl rfl ?_
        refine J_aload_n (i := 2) (p := 0) C dX4_keepAct_61 rfl rfl rfl ?_
        obtain ⟨σx_4, e_σx_4, h⟩ := Ok.nm h
        refine Jc_putD (v := (x2_1 - 1) + 1) C id fp_RX4_22 fw_4_2 (Or.inl ⟨_, rfl⟩) rfl rfl e_σx_4 dX4_keepAct_62 rfl ?_
        refine J_aload_n (i := 0) (p := 1) C dX4_keepAct_65 rfl rfl rfl ?_
        refine J_dup C rfl dX4_keepAct_66 rfl ?_
        refine Jc_getI C fp_RX4_17 rfl rfl dX4_keepAct_67 rfl ?_
        refine J_iconst (v := 1) C (by decide) dX4_keepAct_70 rfl ?_
        refine J_iadd C dX4_keepAct_71 rfl ?_
        obtain ⟨σx_5, e_σx_5, h⟩ := Ok.nm h
        refine Jc_putI C id fp_RX4_17 fw_4_1 rfl rfl rfl e_σx_5 dX4_keepAct_72 rfl ?_
        refine J_aload_n (i := 0) (p := 1) C dX4_keepAct_75 rfl rfl rfl ?_
        refine J_aload_n (i := 0) (p := 1) C dX4_keepAct_76 rfl rfl rfl ?_
        refine Jc_getI C fp_RX4_26 rfl rfl dX4_keepAct_77 rfl ?_
        obtain ⟨g_6, h⟩ := Ok.ofgd h
        obtain ⟨σx_6, e_σx_6, h⟩ := Ok.nm h
        refine Jc_putZ C id fp_RX4_30 fw_4_4 rfl g_6 rfl rfl e_σx_6 dX4_keepAct_80 rfl ?_
        rw [← hQQ]
        exact J_vret C hret (Nat.le_of_ble_eq_true rfl) (Nat.le_of_ble_eq_true rfl) ⟨_, h.osome, rfl, rfl, rfl⟩ dX4_keepAct_83
      · have h := h.pos c_2
        refine J.sub [] rfl ?_
        exact hj_35 σ_23 h
  unfold f4_keepAct at h
  refine J_aload_n (i := 0) (p := 0) C dX4_keepAct_0 rfl rfl rfl ?_
  refine Jc_getI C fp_RX4_17 rfl rfl dX4_keepAct_1 rfl ?_
  refine J_sipush (v := 150) C (by decide) dX4_keepAct_4 rfl ?_
  refine J_icmp_ge (t := 22) C dX4_keepAct_7 (by decide) rfl (fun c_7 => ?_) (fun c_7 => ?_)
  · have h := h.pos c_7
    refine J_null C dX4_keepAct_22 rfl ?_
    exact hj_23 σ 0 h
  · have h := h.neg c_7
    refine J_aload_n (i := 0) (p := 0) C dX4_keepAct_10 rfl rfl rfl ?_
    refine Jc_getS (o2 := 1) (r2 := 25) C fp_RX4_11 rfl rfl rfl dX4_keepAct_11 rfl ?_
    refine J_aload_n (i := 0) (p := 0) C dX4_keepAct_14 rfl rfl rfl ?_
    refine Jc_getI C fp_RX4_17 rfl rfl dX4_keepAct_15 rfl ?_
    obtain ⟨g_8, h⟩ := Ok.ofgd h
    refine Jc_aald C rfl g_8 dX4_keepAct_18 rfl ?_
    refine J_goto (t := 23) C dX4_keepAct_19 (by decide) ?_
    exact hj_23 σ ((39 + 13 * (Int32.toNatClampNeg (fI σ 24 1))) + 1) h
def f1_moved_j96 (l1 : Int32) (l2 : Int32) (σ : Sto) (l3_96 : Int32) (l4_96 : Int32) : Option ((Int32 × Int32) ⊕ Int32) :=
  stp (l4_96 + (-1 : Int32)) fun x4_1 =>
  some (.inl (l3_96, x4_1))
def f1_moved_j58 (l1 : Int32) (l2 : Int32) (σ : Sto) (l4_58 : Int32) (s0_58 : Int32) : Option ((Int32 × Int32) ⊕ Int32) :=
  stp s0_58 fun x3_2 =>
  f1_moved_j96 l1 l2 σ x3_2 l4_58
def f1_moved_b10 (l1 : Int32) (l2 : Int32) (σ : Sto) (l3_10 : Int32) (l4_10 : Int32) : Option ((Int32 × Int32) ⊕ Int32) :=
  if l4_10 < 0 then
    some (.inr l3_10)
  else
    gd (inb l4_10 3000) <|
    stp (aI σ 14 (Int32.toNatClampNeg l4_10)) fun x5_3 =>
    gd (inb l4_10 3000) <|
    stp (aI σ 15 (Int32.toNatClampNeg l4_10)) fun x6_4 =>
    if l3_10 = x6_4 then
      if l2 = 0 then
        gd (inb l4_10 3000) <|
        f1_moved_j58 l1 l2 σ l4_10 (x5_3 + (aI σ 17 (Int32.toNatClampNeg l4_10)))
      else
        f1_moved_j58 l1 l2 σ l4_10 x5_3
    else
      if l3_10 ≤ x6_4 then
        if l3_10 ≤ x5_3 then
          f1_moved_j96 l1 l2 σ l3_10 l4_10
        else
          stp x5_3 fun x3_5 =>
          f1_moved_j96 l1 l2 σ x3_5 l4_10
      else
        gd (inb l4_10 3000) <|
        stp (l3_10 + ((aI σ 17 (Int32.toNatClampNeg l4_10)) - (x6_4 - x5_3))) fun x3_6 =>
        f1_moved_j96 l1 l2 σ x3_6 l4_10
def f1_moved_j10 (l1 : Int32) (l2 : Int32) (σ : Sto) (l3_10 : Int32) (l4_10 : Int32) : Option (Int32) :=
  bnd (loopF (fun s_10 => f1_moved_b10 l1 l2 σ s_10.1 s_10.2) FU (l3_10, l4_10)) fun r_10 =>
    some r_10
def f1_moved (σ : Sto) (l1 : Int32) (l2 : Int32) : Option (Int32) :=
  stp l1 fun x3_7 =>
  stp ((fI σ 13 4) - (1 : Int32)) fun x4_8 =>
  f1_moved_j10 l1 l2 σ x3_7 x4_8
set_option maxHeartbeats 4000000 in
set_option maxRecDepth 100000 in
theorem k1_moved {l : Launch} {K : JK} (hl : l.stackTraces = false) {σ : Sto} {l1 : Int32} {l2 : Int32}  {Qf : Int32 → Prop} (h : Ok (f1_moved σ l1 l2) Qf) : Con l K yX1_moved (.code yX1_moved cX1_moved 7 (some .int) :: TB) 0 0 0 False [.ref (K.2.2 + 13), .int l1, .int l2] 2017 (jw K σ) (PR Qf (fun p => some (.int p)) (fun p => jw K σ)) PN := by
  refine Con.enter (own := RX1) hl (by decide) rfl (Nat.le_of_ble_eq_true rfl) ?_
  intro X hX hR C hret hnt
  generalize hQQ : jQ X K 0 0 (PR Qf (fun p => some (.int p)) (fun p => jw K σ)) PN False = QQ
  change J X K 7 False QQ 0 0 2017 (jw K σ) 0 [(0, .ref (K.2.2 + 13)), (1, .int l1), (2, .int l2)] []
  have hj_10 : (∀ (l3_10 : Int32) (l4_10 : Int32), Ok (f1_moved_j10 l1 l2 σ l3_10 l4_10) Qf → J X K 7 False QQ 0 0 2017 (jw K σ) 10 [(0, .ref (K.2.2 + 13)), (2, .int l2), (3, .int l3_10), (4, .int l4_10)] []) := by
    intro l3_10 l4_10 h
    unfold f1_moved_j10 at h
    refine loop_gen (S := Int32 × Int32) (P := fun s_10 => J X K 7 False QQ 0 0 2017 (jw K σ) 10 [(0, .ref (K.2.2 + 13)), (2, .int l2), (3, .int s_10.1), (4, .int s_10.2)] []) ?_ FU (l3_10, l4_10) (Ok.ofbnd h)
    intro B_10 hB_10 hE_10 s_10 h
    obtain ⟨l3_10, l4_10⟩ := s_10
    have h : Ok (f1_moved_b10 l1 l2 σ l3_10 l4_10) B_10 := h
    change J X K 7 False QQ 0 0 2017 (jw K σ) 10 [(0, .ref (K.2.2 + 13)), (2, .int l2), (3, .int l3_10), (4, .int l4_10)] []
    have hj_96 : (∀ (l3_96 : Int32) (l4_96 : Int32), Ok (f1_moved_j96 l1 l2 σ l3_96 l4_96) B_10 → J X K 7 False QQ 0 0 2017 (jw K σ) 96 [(0, .ref (K.2.2 + 13)), (2, .int l2), (3, .int l3_96), (4, .int l4_96)] []) := by
      intro l3_96 l4_96 h
      unfold f1_moved_j96 at h
      obtain ⟨x4_1, e_x4_1, h⟩ := Ok.nm h
      refine J_iincE (i := 4) (p := 3) (lv' := [(4, .int x4_1), (0, .ref (K.2.2 + 13)), (2, .int l2), (3, .int l3_96)]) C e_x4_1 dX1_moved_96 rfl (by decide) (Nat.le_of_ble_eq_true rfl) rfl rfl ?_
      refine J_goto (t := 10) C dX1_moved_99 (by decide) ?_
      refine J.sub [1, 2, 3, 0] rfl ?_
      exact hB_10 (l3_96, x4_1) h.osome
    have hj_58 : (∀ (l4_58 : Int32) (s0_58 : Int32), Ok (f1_moved_j58 l1 l2 σ l4_58 s0_58) B_10 → J X K 7 False QQ 0 0 2017 (jw K σ) 58 [(0, .ref (K.2.2 + 13)), (2, .int l2), (4, .int l4_58)] [.int s0_58]) := by
      intro l4_58 s0_58 h
      unfold f1_moved_j58 at h
      obtain ⟨x3_2, e_x3_2, h⟩ := Ok.nm h
      refine J_istoreE_n (i := 3) (lv' := [(3, .int x3_2), (0, .ref (K.2.2 + 13)), (2, .int l2), (4, .int l4_58)]) C e_x3_2 dX1_moved_58 rfl (Nat.le_of_ble_eq_true rfl) rfl rfl ?_
      refine J_goto (t := 96) C dX1_moved_59 (by decide) ?_
      refine J.sub [1, 2, 0, 3] rfl ?_
      exact hj_96 x3_2 l4_58 h
    unfold f1_moved_b10 at h
    refine J_iload (i := 4) (p := 3) C dX1_moved_10 rfl rfl ?_
    refine J_if_lt (t := 102) C dX1_moved_12 (by decide) rfl (fun c_1 => ?_) (fun c_1 => ?_)
    · have h := h.pos c_1
      have h := hE_10 l3_10 h.osome
      try dsimp only at h
      refine J_iload_n (i := 3) (p := 2) C dX1_moved_102 rfl rfl rfl ?_
      rw [← hQQ]
      exact J_iret C hret (Nat.le_of_ble_eq_true rfl) (Nat.le_of_ble_eq_true rfl) ⟨_, h.osome, rfl, rfl, rfl⟩ dX1_moved_103
    · have h := h.neg c_1
      refine J_aload_n (i := 0) (p := 0) C dX1_moved_15 rfl rfl rfl ?_
      refine Jc_getS (o2 := 1) (r2 := 14) C fp_RX1_9 rfl rfl rfl dX1_moved_16 rfl ?_
      refine J_iload (i := 4) (p := 3) C dX1_moved_19 rfl rfl ?_
      obtain ⟨g_2, h⟩ := Ok.ofgd h
      refine Jc_iald C rfl rfl g_2 dX1_moved_21 rfl ?_
      obtain ⟨x5_3, e_x5_3, h⟩ := Ok.nm h
      refine J_istoreE (i := 5) (lv' := [(5, .int x5_3), (0, .ref (K.2.2 + 13)), (2, .int l2), (3, .int l3_10), (4, .int l4_10)]) C e_x5_3 dX1_moved_22 (Nat.le_of_ble_eq_true rfl) rfl rfl ?_
      refine J_aload_n (i := 0) (p := 1) C dX1_moved_24 rfl rfl rfl ?_
      refine Jc_getS (o2 := 2) (r2 := 15) C fp_RX1_15 rfl rfl rfl dX1_moved_25 rfl ?_
      refine J_iload (i := 4) (p := 4) C dX1_moved_28 rfl rfl ?_
      obtain ⟨g_3, h⟩ := Ok.ofgd h
      refine Jc_iald C rfl rfl g_3 dX1_moved_30 rfl ?_
      obtain ⟨x6_4, e_x6_4, h⟩ := Ok.nm h
      refine J_istoreE (i := 6) (lv' := [(6, .int x6_4), (5, .int x5_3), (0, .ref (K.2.2 + 13)), (2, .int l2), (3, .int l3_10), (4, .int l4_10)]) C e_x6_4 dX1_moved_31 (Nat.le_of_ble_eq_true rfl) rfl rfl ?_
      refine J_iload_n (i := 3) (p := 4) C dX1_moved_33 rfl rfl rfl ?_
      refine J_iload (i := 6) (p := 0) C dX1_moved_34 rfl rfl ?_
      refine J_icmp_ne (t := 62) C dX1_moved_36 (by decide) rfl (fun c_4 => ?_) (fun c_4 => ?_)
      · have h := h.neg c_4
        refine J_iload_n (i := 3) (p := 4) C dX1_moved_62 rfl rfl rfl ?_
        refine J_iload (i := 6) (p := 0) C dX1_moved_63 rfl rfl ?_
        refine J_icmp_le (t := 87) C dX1_moved_65 (by decide) rfl (fun c_5 => ?_) (fun c_5 => ?_)
        · have h := h.pos c_5
          refine J_iload_n (i := 3) (p := 4) C dX1_moved_87 rfl rfl rfl ?_
          refine J_iload (i := 5) (p := 1) C dX1_moved_88 rfl rfl ?_
          refine J_icmp_le (t := 96) C dX1_moved_90 (by decide) rfl (fun c_6 => ?_) (fun c_6 => ?_)
          · have h := h.pos c_6
            refine J.sub [2, 3, 4, 5] rfl ?_
            exact hj_96 l3_10 l4_10 h
          · have h := h.neg c_6
            refine J_iload (i := 5) (p := 1) C dX1_moved_93 rfl rfl ?_
            obtain ⟨x3_5, e_x3_5, h⟩ := Ok.nm h
            refine J_istoreE_n (i := 3) (lv' := [(3, .int x3_5), (6, .int x6_4), (5, .int x5_3), (0, .ref (K.2.2 + 13)), (2, .int l2), (4, .int l4_10)]) C e_x3_5 dX1_moved_95 rfl (Nat.le_of_ble_eq_true rfl) rfl rfl ?_
            refine J.sub [3, 4, 0, 5] rfl ?_
            exact hj_96 x3_5 l4_10 h
        · have h := h.neg c_5
          refine J_iload_n (i := 3) (p := 4) C dX1_moved_68 rfl rfl rfl ?_
          refine J_aload_n (i := 0) (p := 2) C dX1_moved_69 rfl rfl rfl ?_
          refine Jc_getS (o2 := 4) (r2 := 17) C fp_RX1_21 rfl rfl rfl dX1_moved_70 rfl ?_
          refine J_iload (i := 4) (p := 5) C dX1_moved_73 rfl rfl ?_
          obtain ⟨g_7, h⟩ := Ok.ofgd h
          refine Jc_iald C rfl rfl g_7 dX1_moved_75 rfl ?_
          refine J_iload (i := 6) (p := 0) C dX1_moved_76 rfl rfl ?_
          refine J_iload (i := 5) (p := 1) C dX1_moved_78 rfl rfl ?_
          refine J_isub C dX1_moved_80 rfl ?_
          refine J_isub C dX1_moved_81 rfl ?_
          refine J_iadd C dX1_moved_82 rfl ?_
          obtain ⟨x3_6, e_x3_6, h⟩ := Ok.nm h
          refine J_istoreE_n (i := 3) (lv' := [(3, .int x3_6), (6, .int x6_4), (5, .int x5_3), (0, .ref (K.2.2 + 13)), (2, .int l2), (4, .int l4_10)]) C e_x3_6 dX1_moved_83 rfl (Nat.le_of_ble_eq_true rfl) rfl rfl ?_
          refine J_goto (t := 96) C dX1_moved_84 (by decide) ?_
          refine J.sub [3, 4, 0, 5] rfl ?_
          exact hj_96 x3_6 l4_10 h
      · have h := h.pos (Decidable.not_not.mp c_4)
        refine J_iload_n (i := 2) (p := 3) C dX1_moved_39 rfl rfl rfl ?_
        refine J_if_eq (t := 48) C dX1_moved_40 (by decide) rfl (fun c_8 => ?_) (fun c_8 => ?_)
        · have h := h.pos c_8
          refine J_iload (i := 5) (p := 1) C dX1_moved_48 rfl rfl ?_
          refine J_aload_n (i := 0) (p := 2) C dX1_moved_50 rfl rfl rfl ?_
          refine Jc_getS (o2 := 4) (r2 := 17) C fp_RX1_21 rfl rfl rfl dX1_moved_51 rfl ?_
          refine J_iload (i := 4) (p := 5) C dX1_moved_54 rfl rfl ?_
          obtain ⟨g_9, h⟩ := Ok.ofgd h
          refine Jc_iald C rfl rfl g_9 dX1_moved_56 rfl ?_
          refine J_iadd C dX1_moved_57 rfl ?_
          refine J.sub [2, 3, 5] rfl ?_
          exact hj_58 l4_10 (x5_3 + (aI σ 17 (Int32.toNatClampNeg l4_10))) h
        · have h := h.neg c_8
          refine J_iload (i := 5) (p := 1) C dX1_moved_43 rfl rfl ?_
          refine J_goto (t := 58) C dX1_moved_45 (by decide) ?_
          refine J.sub [2, 3, 5] rfl ?_
          exact hj_58 l4_10 x5_3 h
  unfold f1_moved at h
  refine J_iload_n (i := 1) (p := 1) C dX1_moved_0 rfl rfl rfl ?_
  obtain ⟨x3_7, e_x3_7, h⟩ := Ok.nm h
  refine J_istoreE_n (i := 3) (lv' := [(3, .int x3_7), (0, .ref (K.2.2 + 13)), (1, .int l1), (2, .int l2)]) C e_x3_7 dX1_moved_1 rfl (Nat.le_of_ble_eq_true rfl) rfl rfl ?_
  refine J_aload_n (i := 0) (p := 1) C dX1_moved_2 rfl rfl rfl ?_
  refine Jc_getI C fp_RX1_24 rfl rfl dX1_moved_3 rfl ?_
  refine J_iconst (v := 1) C (by decide) dX1_moved_6 rfl ?_
  refine J_isub C dX1_moved_7 rfl ?_
  obtain ⟨x4_8, e_x4_8, h⟩ := Ok.nm h
  refine J_istoreE (i := 4) (lv' := [(4, .int x4_8), (3, .int x3_7), (0, .ref (K.2.2 + 13)), (1, .int l1), (2, .int l2)]) C e_x4_8 dX1_moved_8 (Nat.le_of_ble_eq_true rfl) rfl rfl ?_
  refine J.sub [2, 4, 1, 0] rfl ?_
  exact hj_10 x3_7 x4_8 h
def f8_sortCursors_j55 (a0 : Nat) (σ_55 : Sto) (l1_55 : Int32) (l2_55 : Int32) (l3_55 : Int32) : Option ((Sto × Int32) ⊕ Sto) :=
  gd (inb l3_55 8) <|
  stp (uA σ_55 (a0 + 4) (Int32.toNatClampNeg l3_55) l2_55) fun σx_1 =>
  stp (l1_55 + (1 : Int32)) fun x1_2 =>
  some (.inl (σx_1, x1_2))
def f8_sortCursors_b19 (a0 : Nat) (σ_19 : Sto) (l1_19 : Int32) (l2_19 : Int32) (l3_19 : Int32) : Option ((Sto × Int32) ⊕ (Sto × Int32)) :=
  if l3_19 ≤ 0 then
    some (.inr (σ_19, l3_19))
  else
    gd (inb (l3_19 - (1 : Int32)) 8) <|
    if (aI σ_19 (a0 + 4) (Int32.toNatClampNeg (l3_19 - (1 : Int32)))) ≤ l2_19 then
      some (.inr (σ_19, l3_19))
    else
      gd (inb (l3_19 - (1 : Int32)) 8) <|
      gd (inb l3_19 8) <|
      stp (uA σ_19 (a0 + 4) (Int32.toNatClampNeg l3_19) (aI σ_19 (a0 + 4) (Int32.toNatClampNeg (l3_19 - (1 : Int32))))) fun σx_3 =>
      stp (l3_19 + (-1 : Int32)) fun x3_4 =>
      some (.inl (σx_3, x3_4))
def f8_sortCursors_j19 (a0 : Nat) (σ_19 : Sto) (l1_19 : Int32) (l2_19 : Int32) (l3_19 : Int32) : Option ((Sto × Int32) ⊕ Sto) :=
  bnd (loopF (fun s_19 => f8_sortCursors_b19 a0 s_19.1 l1_19 l2_19 s_19.2) FU (σ_19, l3_19)) fun r_19 =>
    f8_sortCursors_j55 a0 r_19.1 l1_19 l2_19 r_19.2
def f8_sortCursors_b2 (a0 : Nat) (σ_2 : Sto) (l1_2 : Int32) : Option ((Sto × Int32) ⊕ Sto) :=
  if (fI σ_2 a0 6) ≤ l1_2 then
    some (.inr σ_2)
  else
    gd (inb l1_2 8) <|
    stp (aI σ_2 (a0 + 4) (Int32.toNatClampNeg l1_2)) fun x2_5 =>
    stp l1_2 fun x3_6 =>
    f8_sortCursors_j19 a0 σ_2 l1_2 x2_5 x3_6
def f8_sortCursors_j2 (a0 : Nat) (σ_2 : Sto) (l1_2 : Int32) : Option (Sto) :=
  bnd (loopF (fun s_2 => f8_sortCursors_b2 a0 s_2.1 s_2.2) FU (σ_2, l1_2)) fun r_2 =>
    some r_2
def f8_sortCursors (σ : Sto) (a0 : Nat) : Option (Sto) :=
  stp (1 : Int32) fun x1_7 =>
  f8_sortCursors_j2 a0 σ x1_7
set_option maxHeartbeats 4000000 in
set_option maxRecDepth 100000 in
theorem k8_sortCursors {l : Launch} {K : JK} (hl : l.stackTraces = false) {σ : Sto} {a0 : Nat} (h_a0 : kc a0 = 8) {Qf : Sto → Prop} (h : Ok (f8_sortCursors σ a0) Qf) : Con l K yX8_sortCursors (.code yX8_sortCursors cX8_sortCursors 4 none :: TB) 0 0 0 False [.ref (K.2.2 + a0)] 2017 (jw K σ) (PR Qf (fun p => none) (fun p => jw K p)) PN := by
  refine Con.enter (own := RX8) hl (by decide) rfl (Nat.le_of_ble_eq_true rfl) ?_
  intro X hX hR C hret hnt
  generalize hQQ : jQ X K 0 0 (PR Qf (fun p => none) (fun p => jw K p)) PN False = QQ
  change J X K 4 False QQ 0 0 2017 (jw K σ) 0 [(0, .ref (K.2.2 + a0))] []
  have hj_2 : (∀ (σ_2 : Sto) (l1_2 : Int32), Ok (f8_sortCursors_j2 a0 σ_2 l1_2) Qf → J X K 4 False QQ 0 0 2017 (jw K σ_2) 2 [(0, .ref (K.2.2 + a0)), (1, .int l1_2)] []) := by
    intro σ_2 l1_2 h
    unfold f8_sortCursors_j2 at h
    refine loop_gen (S := Sto × Int32) (P := fun s_2 => J X K 4 False QQ 0 0 2017 (jw K s_2.1) 2 [(0, .ref (K.2.2 + a0)), (1, .int s_2.2)] []) ?_ FU (σ_2, l1_2) (Ok.ofbnd h)
    intro B_2 hB_2 hE_2 s_2 h
    obtain ⟨σ_2, l1_2⟩ := s_2
    have h : Ok (f8_sortCursors_b2 a0 σ_2 l1_2) B_2 := h
    change J X K 4 False QQ 0 0 2017 (jw K σ_2) 2 [(0, .ref (K.2.2 + a0)), (1, .int l1_2)] []
    have hj_55 : (∀ (σ_55 : Sto) (l1_55 : Int32) (l2_55 : Int32) (l3_55 : Int32), Ok (f8_sortCursors_j55 a0 σ_55 l1_55 l2_55 l3_55) B_2 → J X K 4 False QQ 0 0 2017 (jw K σ_55) 55 [(0, .ref (K.2.2 + a0)), (1, .int l1_55), (2, .int l2_55), (3, .int l3_55)] []) := by
      intro σ_55 l1_55 l2_55 l3_55 h
      unfold f8_sortCursors_j55 at h
      refine J_aload_n (i := 0) (p := 0) C dX8_sortCursors_55 rfl rfl rfl ?_
      refine Jc_getS (o2 := 4) (r2 := a0 + 4) C fp_RX8_30 rfl h_a0 rfl dX8_sortCursors_56 rfl ?_
      refine J_iload_n (i := 3) (p := 3) C dX8_sortCursors_59 rfl rfl rfl ?_
      refine J_iload_n (i := 2) (p := 2) C dX8_sortCursors_60 rfl rfl rfl ?_
      obtain ⟨g_1, h⟩ := Ok.ofgd h
      obtain ⟨σx_1, e_σx_1, h⟩ := Ok.nm h
      refine Jc_iast C id (ks_8_5 h_a0) (ls_8_5 h_a0) g_1 e_σx_1 dX8_sortCursors_61 rfl ?_
      obtain ⟨x1_2, e_x1_2, h⟩ := Ok.nm h
      refine J_iincE (i := 1) (p := 1) (lv' := [(1, .int x1_2), (0, .ref (K.2.2 + a0)), (2, .int l2_55), (3, .int l3_55)]) C e_x1_2 dX8_sortCursors_62 rfl (by decide) (Nat.le_of_ble_eq_true rfl) rfl rfl ?_
      refine J_goto (t := 2) C dX8_sortCursors_65 (by decide) ?_
      refine J.sub [1, 0] rfl ?_
      exact hB_2 (σx_1, x1_2) h.osome
    have hj_19 : (∀ (σ_19 : Sto) (l1_19 : Int32) (l2_19 : Int32) (l3_19 : Int32), Ok (f8_sortCursors_j19 a0 σ_19 l1_19 l2_19 l3_19) B_2 → J X K 4 False QQ 0 0 2017 (jw K σ_19) 19 [(0, .ref (K.2.2 + a0)), (1, .int l1_19), (2, .int l2_19), (3, .int l3_19)] []) := by
      intro σ_19 l1_19 l2_19 l3_19 h
      unfold f8_sortCursors_j19 at h
      refine loop_gen (S := Sto × Int32) (P := fun s_19 => J X K 4 False QQ 0 0 2017 (jw K s_19.1) 19 [(0, .ref (K.2.2 + a0)), (1, .int l1_19), (2, .int l2_19), (3, .int s_19.2)] []) ?_ FU (σ_19, l3_19) (Ok.ofbnd h)
      intro B_19 hB_19 hE_19 s_19 h
      obtain ⟨σ_19, l3_19⟩ := s_19
      have h : Ok (f8_sortCursors_b19 a0 σ_19 l1_19 l2_19 l3_19) B_19 := h
      change J X K 4 False QQ 0 0 2017 (jw K σ_19) 19 [(0, .ref (K.2.2 + a0)), (1, .int l1_19), (2, .int l2_19), (3, .int l3_19)] []
      unfold f8_sortCursors_b19 at h
      refine J_iload_n (i := 3) (p := 3) C dX8_sortCursors_19 rfl rfl rfl ?_
      refine J_if_le (t := 55) C dX8_sortCursors_20 (by decide) rfl (fun c_2 => ?_) (fun c_2 => ?_)
      · have h := h.pos c_2
        have h := hE_19 (σ_19, l3_19) h.osome
        try dsimp only at h
        exact hj_55 σ_19 l1_19 l2_19 l3_19 h
      · have h := h.neg c_2
        refine J_aload_n (i := 0) (p := 0) C dX8_sortCursors_23 rfl rfl rfl ?_
        refine Jc_getS (o2 := 4) (r2 := a0 + 4) C fp_RX8_30 rfl h_a0 rfl dX8_sortCursors_24 rfl ?_
        refine J_iload_n (i := 3) (p := 3) C dX8_sortCursors_27 rfl rfl rfl ?_
        refine J_iconst (v := 1) C (by decide) dX8_sortCursors_28 rfl ?_
        refine J_isub C dX8_sortCursors_29 rfl ?_
        obtain ⟨g_3, h⟩ := Ok.ofgd h
        refine Jc_iald C (ks_8_5 h_a0) (ls_8_5 h_a0) g_3 dX8_sortCursors_30 rfl ?_
        refine J_iload_n (i := 2) (p := 2) C dX8_sortCursors_31 rfl rfl rfl ?_
        refine J_icmp_le (t := 55) C dX8_sortCursors_32 (by decide) rfl (fun c_4 => ?_) (fun c_4 => ?_)
        · have h := h.pos c_4
          have h := hE_19 (σ_19, l3_19) h.osome
          try dsimp only at h
          exact hj_55 σ_19 l1_19 l2_19 l3_19 h
        · have h := h.neg c_4
          refine J_aload_n (i := 0) (p := 0) C dX8_sortCursors_35 rfl rfl rfl ?_
          refine Jc_getS (o2 := 4) (r2 := a0 + 4) C fp_RX8_30 rfl h_a0 rfl dX8_sortCursors_36 rfl ?_
          refine J_iload_n (i := 3) (p := 3) C dX8_sortCursors_39 rfl rfl rfl ?_
          refine J_aload_n (i := 0) (p := 0) C dX8_sortCursors_40 rfl rfl rfl ?_
          refine Jc_getS (o2 := 4) (r2 := a0 + 4) C fp_RX8_30 rfl h_a0 rfl dX8_sortCursors_41 rfl ?_
          refine J_iload_n (i := 3) (p := 3) C dX8_sortCursors_44 rfl rfl rfl ?_
          refine J_iconst (v := 1) C (by decide) dX8_sortCursors_45 rfl ?_
          refine J_isub C dX8_sortCursors_46 rfl ?_
          obtain ⟨g_5, h⟩ := Ok.ofgd h
          refine Jc_iald C (ks_8_5 h_a0) (ls_8_5 h_a0) g_5 dX8_sortCursors_47 rfl ?_
          obtain ⟨g_6, h⟩ := Ok.ofgd h
          obtain ⟨σx_3, e_σx_3, h⟩ := Ok.nm h
          refine Jc_iast C id (ks_8_5 h_a0) (ls_8_5 h_a0) g_6 e_σx_3 dX8_sortCursors_48 rfl ?_
          obtain ⟨x3_4, e_x3_4, h⟩ := Ok.nm h
          refine J_iincE (i := 3) (p := 3) (lv' := [(3, .int x3_4), (0, .ref (K.2.2 + a0)), (1, .int l1_19), (2, .int l2_19)]) C e_x3_4 dX8_sortCursors_49 rfl (by decide) (Nat.le_of_ble_eq_true rfl) rfl rfl ?_
          refine J_goto (t := 19) C dX8_sortCursors_52 (by decide) ?_
          refine J.sub [1, 2, 3, 0] rfl ?_
          exact hB_19 (σx_3, x3_4) h.osome
    unfold f8_sortCursors_b2 at h
    refine J_iload_n (i := 1) (p := 1) C dX8_sortCursors_2 rfl rfl rfl ?_
    refine J_aload_n (i := 0) (p := 0) C dX8_sortCursors_3 rfl rfl rfl ?_
    refine Jc_getI C fp_RX8_33 h_a0 rfl dX8_sortCursors_4 rfl ?_
    refine J_icmp_ge (t := 68) C dX8_sortCursors_7 (by decide) rfl (fun c_7 => ?_) (fun c_7 => ?_)
    · have h := h.pos c_7
      have h := hE_2 σ_2 h.osome
      try dsimp only at h
      rw [← hQQ]
      exact J_vret C hret (Nat.le_of_ble_eq_true rfl) (Nat.le_of_ble_eq_true rfl) ⟨_, h.osome, rfl, rfl, rfl⟩ dX8_sortCursors_68
    · have h := h.neg c_7
      refine J_aload_n (i := 0) (p := 0) C dX8_sortCursors_10 rfl rfl rfl ?_
      refine Jc_getS (o2 := 4) (r2 := a0 + 4) C fp_RX8_30 rfl h_a0 rfl dX8_sortCursors_11 rfl ?_
      refine J_iload_n (i := 1) (p := 1) C dX8_sortCursors_14 rfl rfl rfl ?_
      obtain ⟨g_8, h⟩ := Ok.ofgd h
      refine Jc_iald C (ks_8_5 h_a0) (ls_8_5 h_a0) g_8 dX8_sortCursors_15 rfl ?_
      obtain ⟨x2_5, e_x2_5, h⟩ := Ok.nm h
      refine J_istoreE_n (i := 2) (lv' := [(2, .int x2_5), (0, .ref (K.2.2 + a0)), (1, .int l1_2)]) C e_x2_5 dX8_sortCursors_16 rfl (Nat.le_of_ble_eq_true rfl) rfl rfl ?_
      refine J_iload_n (i := 1) (p := 2) C dX8_sortCursors_17 rfl rfl rfl ?_
      obtain ⟨x3_6, e_x3_6, h⟩ := Ok.nm h
      refine J_istoreE_n (i := 3) (lv' := [(3, .int x3_6), (2, .int x2_5), (0, .ref (K.2.2 + a0)), (1, .int l1_2)]) C e_x3_6 dX8_sortCursors_18 rfl (Nat.le_of_ble_eq_true rfl) rfl rfl ?_
      refine J.sub [2, 3, 1, 0] rfl ?_
      exact hj_19 σ_2 l1_2 x2_5 x3_6 h
  unfold f8_sortCursors at h
  refine J_iconst (v := 1) C (by decide) dX8_sortCursors_0 rfl ?_
  obtain ⟨x1_7, e_x1_7, h⟩ := Ok.nm h
  refine J_istoreE_n (i := 1) (lv' := [(1, .int x1_7), (0, .ref (K.2.2 + a0))]) C e_x1_7 dX8_sortCursors_1 rfl (Nat.le_of_ble_eq_true rfl) rfl rfl ?_
  refine J.sub [1, 0] rfl ?_
  exact hj_2 σ x1_7 h
def f8_settleCursors_b65 (a0 : Nat) (σ_65 : Sto) (l2_65 : Int32) : Option ((Sto × Int32) ⊕ Sto) :=
  if (fI σ_65 a0 6) ≤ l2_65 then
    some (.inr σ_65)
  else
    gd (inb l2_65 8) <|
    bnd (f8_lineWith σ_65 a0 (aI σ_65 (a0 + 4) (Int32.toNatClampNeg l2_65))) fun p_3 =>
    gd (okr (fR σ_65 a0 3) 14) <|
    bnd (f11_openFold σ_65 ((fR σ_65 a0 3) - 1) (fI σ_65 a0 4) p_3) fun p_5 =>
    stp (l2_65 + (1 : Int32)) fun x2_1 =>
    some (.inl (p_5.2, x2_1))
def f8_settleCursors_j65 (a0 : Nat) (σ_65 : Sto) (l2_65 : Int32) : Option (Sto) :=
  bnd (loopF (fun s_65 => f8_settleCursors_b65 a0 s_65.1 s_65.2) FU (σ_65, l2_65)) fun r_65 =>
    some r_65
def f8_settleCursors_j52 (a0 : Nat) (σ_52 : Sto) (l1_52 : Int32) (l2_52 : Int32) : Option ((Sto × Int32 × Int32) ⊕ (Sto × Int32)) :=
  stp (l2_52 + (1 : Int32)) fun x2_2 =>
  some (.inl (σ_52, l1_52, x2_2))
def f8_settleCursors_j37 (a0 : Nat) (σ_37 : Sto) (l1_37 : Int32) (l2_37 : Int32) : Option ((Sto × Int32 × Int32) ⊕ (Sto × Int32)) :=
  gd (inb l2_37 8) <|
  gd (inb l1_37 8) <|
  stp (uA σ_37 (a0 + 4) (Int32.toNatClampNeg l1_37) (aI σ_37 (a0 + 4) (Int32.toNatClampNeg l2_37))) fun σx_3 =>
  stp (l1_37 + (1 : Int32)) fun x1_4 =>
  f8_settleCursors_j52 a0 σx_3 x1_4 l2_37
def f8_settleCursors_b8 (a0 : Nat) (σ_8 : Sto) (l1_8 : Int32) (l2_8 : Int32) : Option ((Sto × Int32 × Int32) ⊕ (Sto × Int32)) :=
  if (fI σ_8 a0 6) ≤ l2_8 then
    some (.inr (σ_8, l1_8))
  else
    if l1_8 = 0 then
      f8_settleCursors_j37 a0 σ_8 l1_8 l2_8
    else
      gd (inb (l1_8 - (1 : Int32)) 8) <|
      gd (inb l2_8 8) <|
      if (aI σ_8 (a0 + 4) (Int32.toNatClampNeg (l1_8 - (1 : Int32)))) = (aI σ_8 (a0 + 4) (Int32.toNatClampNeg l2_8)) then
        f8_settleCursors_j52 a0 σ_8 l1_8 l2_8
      else
        f8_settleCursors_j37 a0 σ_8 l1_8 l2_8
def f8_settleCursors_j8 (a0 : Nat) (σ_8 : Sto) (l1_8 : Int32) (l2_8 : Int32) : Option (Sto) :=
  bnd (loopF (fun s_8 => f8_settleCursors_b8 a0 s_8.1 s_8.2.1 s_8.2.2) FU (σ_8, l1_8, l2_8)) fun r_8 =>
    stp (uI r_8.1 a0 6 r_8.2) fun σx_7 =>
    stp (0 : Int32) fun x2_8 =>
    f8_settleCursors_j65 a0 σx_7 x2_8
def f8_settleCursors (σ : Sto) (a0 : Nat) : Option (Sto) :=
  bnd (f8_sortCursors σ a0) fun p_13 =>
  stp (0 : Int32) fun x1_9 =>
  stp (0 : Int32) fun x2_10 =>
  f8_settleCursors_j8 a0 p_13 x1_9 x2_10
set_option maxHeartbeats 4000000 in
set_option maxRecDepth 100000 in
theorem k8_settleCursors {l : Launch} {K : JK} (hl : l.stackTraces = false) {σ : Sto} {a0 : Nat} (h_a0 : kc a0 = 8) {Qf : Sto → Prop} (h : Ok (f8_settleCursors σ a0) Qf) : Con l K yX8_settleCursors (.code yX8_settleCursors cX8_settleCursors 3 none :: TB) 1 0 0 False [.ref (K.2.2 + a0)] 2017 (jw K σ) (PR Qf (fun p => none) (fun p => jw K p)) PN := by
  refine Con.enter (own := RX8) hl (by decide) rfl (Nat.le_of_ble_eq_true rfl) ?_
  intro X hX hR C hret hnt
  generalize hQQ : jQ X K 0 0 (PR Qf (fun p => none) (fun p => jw K p)) PN False = QQ
  change J X K 3 False QQ 0 0 2017 (jw K σ) 0 [(0, .ref (K.2.2 + a0))] []
  have hj_65 : (∀ (σ_65 : Sto) (l2_65 : Int32), Ok (f8_settleCursors_j65 a0 σ_65 l2_65) Qf → J X K 3 False QQ 0 0 2017 (jw K σ_65) 65 [(0, .ref (K.2.2 + a0)), (2, .int l2_65)] []) := by
    intro σ_65 l2_65 h
    unfold f8_settleCursors_j65 at h
    refine loop_gen (S := Sto × Int32) (P := fun s_65 => J X K 3 False QQ 0 0 2017 (jw K s_65.1) 65 [(0, .ref (K.2.2 + a0)), (2, .int s_65.2)] []) ?_ FU (σ_65, l2_65) (Ok.ofbnd h)
    intro B_65 hB_65 hE_65 s_65 h
    obtain ⟨σ_65, l2_65⟩ := s_65
    have h : Ok (f8_settleCursors_b65 a0 σ_65 l2_65) B_65 := h
    change J X K 3 False QQ 0 0 2017 (jw K σ_65) 65 [(0, .ref (K.2.2 + a0)), (2, .int l2_65)] []
    unfold f8_settleCursors_b65 at h
    refine J_iload_n (i := 2) (p := 1) C dX8_settleCursors_65 rfl rfl rfl ?_
    refine J_aload_n (i := 0) (p := 0) C dX8_settleCursors_66 rfl rfl rfl ?_
    refine Jc_getI C fp_RX8_33 h_a0 rfl dX8_settleCursors_67 rfl ?_
    refine J_icmp_ge (t := 101) C dX8_settleCursors_70 (by decide) rfl (fun c_1 => ?_) (fun c_1 => ?_)
    · have h := h.pos c_1
      have h := hE_65 σ_65 h.osome
      try dsimp only at h
      rw [← hQQ]
      exact J_vret C hret (Nat.le_of_ble_eq_true rfl) (Nat.le_of_ble_eq_true rfl) ⟨_, h.osome, rfl, rfl, rfl⟩ dX8_settleCursors_101
    · have h := h.neg c_1
      refine J_aload_n (i := 0) (p := 0) C dX8_settleCursors_73 rfl rfl rfl ?_
      refine Jc_getD C fp_RX8_23 h_a0 rfl dX8_settleCursors_74 rfl ?_
      refine J_aload_n (i := 0) (p := 0) C dX8_settleCursors_77 rfl rfl rfl ?_
      refine Jc_getI C fp_RX8_27 h_a0 rfl dX8_settleCursors_78 rfl ?_
      refine J_aload_n (i := 0) (p := 0) C dX8_settleCursors_81 rfl rfl rfl ?_
      refine J_aload_n (i := 0) (p := 0) C dX8_settleCursors_82 rfl rfl rfl ?_
      refine Jc_getS (o2 := 4) (r2 := a0 + 4) C fp_RX8_30 rfl h_a0 rfl dX8_settleCursors_83 rfl ?_
      refine J_iload_n (i := 2) (p := 1) C dX8_settleCursors_86 rfl rfl rfl ?_
      obtain ⟨g_2, h⟩ := Ok.ofgd h
      refine Jc_iald C (ks_8_5 h_a0) (ls_8_5 h_a0) g_2 dX8_settleCursors_87 rfl ?_
      refine Jc_cV (rest := [.int (fI σ_65 a0 4), jv K.2.2 (fR σ_65 a0 3)]) (st9 := fun p_3 => [.int p_3, .int (fI σ_65 a0 4), jv K.2.2 (fR σ_65 a0 3)]) C hR hX cv_RX8_48 h_a0 (Nat.le_of_ble_eq_true rfl) (k8_lineWith hl h_a0 (Ok.ofbnd h)) rfl rfl (Nat.le_of_ble_eq_true rfl) (Nat.le_of_ble_eq_true rfl) (by simp only [List.map, List.sum_cons, List.sum_nil, jv_cat, cat_i, cat_l, cat_d, cat_r]; decide) ⟨(Nat.le_of_ble_eq_true rfl), (Nat.le_of_ble_eq_true rfl)⟩ dX8_settleCursors_88 rfl (fun E n9 w9 hx => JT_n hx) (fun _ => rfl) (fun p_3 h => ?_)
      have h : Ok _ _ := h
      change J X K 3 False QQ 0 0 2017 (jw K σ_65) 91 [(0, .ref (K.2.2 + a0)), (2, .int l2_65)] [.int p_3, .int (fI σ_65 a0 4), jv K.2.2 (fR σ_65 a0 3)]
      obtain ⟨g_4, h⟩ := Ok.ofgd h
      rw [jv_pos (r := fR σ_65 a0 3) (okr_spec g_4).1]
      refine J_cSN (rest := []) (st9 := fun p_5 => [.int p_5.1]) C hR hX cn_RX8_69 (k11_openFold hl (okr_spec g_4).2 (Ok.ofbnd h)) rfl rfl (Nat.le_of_ble_eq_true rfl) (Nat.le_of_ble_eq_true rfl) (Nat.le_of_ble_eq_true rfl) ⟨(Nat.le_of_ble_eq_true rfl), (Nat.le_of_ble_eq_true rfl)⟩ dX8_settleCursors_91 rfl (fun E n9 w9 hx => JT_n hx) (fun _ => rfl) (fun p_5 h => ?_)
      have h : Ok _ _ := h
      change J X K 3 False QQ 0 0 2017 (jw K p_5.2) 94 [(0, .ref (K.2.2 + a0)), (2, .int l2_65)] [.int p_5.1]
      refine J_pop C rfl dX8_settleCursors_94 rfl ?_
      obtain ⟨x2_1, e_x2_1, h⟩ := Ok.nm h
      refine J_iincE (i := 2) (p := 1) (lv' := [(2, .int x2_1), (0, .ref (K.2.2 + a0))]) C e_x2_1 dX8_settleCursors_95 rfl (by decide) (Nat.le_of_ble_eq_true rfl) rfl rfl ?_
      refine J_goto (t := 65) C dX8_settleCursors_98 (by decide) ?_
      refine J.sub [1, 0] rfl ?_
      exact hB_65 (p_5.2, x2_1) h.osome
  have hj_8 : (∀ (σ_8 : Sto) (l1_8 : Int32) (l2_8 : Int32), Ok (f8_settleCursors_j8 a0 σ_8 l1_8 l2_8) Qf → J X K 3 False QQ 0 0 2017 (jw K σ_8) 8 [(0, .ref (K.2.2 + a0)), (1, .int l1_8), (2, .int l2_8)] []) := by
    intro σ_8 l1_8 l2_8 h
    unfold f8_settleCursors_j8 at h
    refine loop_gen (S := Sto × Int32 × Int32) (P := fun s_8 => J X K 3 False QQ 0 0 2017 (jw K s_8.1) 8 [(0, .ref (K.2.2 + a0)), (1, .int s_8.2.1), (2, .int s_8.2.2)] []) ?_ FU (σ_8, l1_8, l2_8) (Ok.ofbnd h)
    intro B_8 hB_8 hE_8 s_8 h
    obtain ⟨σ_8, l1_8, l2_8⟩ := s_8
    have h : Ok (f8_settleCursors_b8 a0 σ_8 l1_8 l2_8) B_8 := h
    change J X K 3 False QQ 0 0 2017 (jw K σ_8) 8 [(0, .ref (K.2.2 + a0)), (1, .int l1_8), (2, .int l2_8)] []
    have hj_52 : (∀ (σ_52 : Sto) (l1_52 : Int32) (l2_52 : Int32), Ok (f8_settleCursors_j52 a0 σ_52 l1_52 l2_52) B_8 → J X K 3 False QQ 0 0 2017 (jw K σ_52) 52 [(0, .ref (K.2.2 + a0)), (1, .int l1_52), (2, .int l2_52)] []) := by
      intro σ_52 l1_52 l2_52 h
      unfold f8_settleCursors_j52 at h
      obtain ⟨x2_2, e_x2_2, h⟩ := Ok.nm h
      refine J_iincE (i := 2) (p := 2) (lv' := [(2, .int x2_2), (0, .ref (K.2.2 + a0)), (1, .int l1_52)]) C e_x2_2 dX8_settleCursors_52 rfl (by decide) (Nat.le_of_ble_eq_true rfl) rfl rfl ?_
      refine J_goto (t := 8) C dX8_settleCursors_55 (by decide) ?_
      refine J.sub [1, 2, 0] rfl ?_
      exact hB_8 (σ_52, l1_52, x2_2) h.osome
    have hj_37 : (∀ (σ_37 : Sto) (l1_37 : Int32) (l2_37 : Int32), Ok (f8_settleCursors_j37 a0 σ_37 l1_37 l2_37) B_8 → J X K 3 False QQ 0 0 2017 (jw K σ_37) 37 [(0, .ref (K.2.2 + a0)), (1, .int l1_37), (2, .int l2_37)] []) := by
      intro σ_37 l1_37 l2_37 h
      unfold f8_settleCursors_j37 at h
      refine J_aload_n (i := 0) (p := 0) C dX8_settleCursors_37 rfl rfl rfl ?_
      refine Jc_getS (o2 := 4) (r2 := a0 + 4) C fp_RX8_30 rfl h_a0 rfl dX8_settleCursors_38 rfl ?_
      refine J_iload_n (i := 1) (p := 1) C dX8_settleCursors_41 rfl rfl rfl ?_
      refine J_aload_n (i := 0) (p := 0) C dX8_settleCursors_42 rfl rfl rfl ?_
      refine Jc_getS (o2 := 4) (r2 := a0 + 4) C fp_RX8_30 rfl h_a0 rfl dX8_settleCursors_43 rfl ?_
      refine J_iload_n (i := 2) (p := 2) C dX8_settleCursors_46 rfl rfl rfl ?_
      obtain ⟨g_6, h⟩ := Ok.ofgd h
      refine Jc_iald C (ks_8_5 h_a0) (ls_8_5 h_a0) g_6 dX8_settleCursors_47 rfl ?_
      obtain ⟨g_7, h⟩ := Ok.ofgd h
      obtain ⟨σx_3, e_σx_3, h⟩ := Ok.nm h
      refine Jc_iast C id (ks_8_5 h_a0) (ls_8_5 h_a0) g_7 e_σx_3 dX8_settleCursors_48 rfl ?_
      obtain ⟨x1_4, e_x1_4, h⟩ := Ok.nm h
      refine J_iincE (i := 1) (p := 1) (lv' := [(1, .int x1_4), (0, .ref (K.2.2 + a0)), (2, .int l2_37)]) C e_x1_4 dX8_settleCursors_49 rfl (by decide) (Nat.le_of_ble_eq_true rfl) rfl rfl ?_
      refine J.sub [1, 0, 2] rfl ?_
      exact hj_52 σx_3 x1_4 l2_37 h
    unfold f8_settleCursors_b8 at h
    refine J_iload_n (i := 2) (p := 2) C dX8_settleCursors_8 rfl rfl rfl ?_
    refine J_aload_n (i := 0) (p := 0) C dX8_settleCursors_9 rfl rfl rfl ?_
    refine Jc_getI C fp_RX8_33 h_a0 rfl dX8_settleCursors_10 rfl ?_
    refine J_icmp_ge (t := 58) C dX8_settleCursors_13 (by decide) rfl (fun c_8 => ?_) (fun c_8 => ?_)
    · have h := h.pos c_8
      have h := hE_8 (σ_8, l1_8) h.osome
      try dsimp only at h
      refine J_aload_n (i := 0) (p := 0) C dX8_settleCursors_58 rfl rfl rfl ?_
      refine J_iload_n (i := 1) (p := 1) C dX8_settleCursors_59 rfl rfl rfl ?_
      obtain ⟨σx_5, e_σx_5, h⟩ := Ok.nm h
      refine Jc_putI C id fp_RX8_33 fw_8_6 rfl h_a0 rfl e_σx_5 dX8_settleCursors_60 rfl ?_
      refine J_iconst (v := 0) C (by decide) dX8_settleCursors_63 rfl ?_
      obtain ⟨x2_6, e_x2_6, h⟩ := Ok.nm h
      refine J_istoreE_n (i := 2) (lv' := [(2, .int x2_6), (0, .ref (K.2.2 + a0)), (1, .int l1_8)]) C e_x2_6 dX8_settleCursors_64 rfl (Nat.le_of_ble_eq_true rfl) rfl rfl ?_
      refine J.sub [1, 0] rfl ?_
      exact hj_65 σx_5 x2_6 h
    · have h := h.neg c_8
      refine J_iload_n (i := 1) (p := 1) C dX8_settleCursors_16 rfl rfl rfl ?_
      refine J_if_eq (t := 37) C dX8_settleCursors_17 (by decide) rfl (fun c_9 => ?_) (fun c_9 => ?_)
      · have h := h.pos c_9
        exact hj_37 σ_8 l1_8 l2_8 h
      · have h := h.neg c_9
        refine J_aload_n (i := 0) (p := 0) C dX8_settleCursors_20 rfl rfl rfl ?_
        refine Jc_getS (o2 := 4) (r2 := a0 + 4) C fp_RX8_30 rfl h_a0 rfl dX8_settleCursors_21 rfl ?_
        refine J_iload_n (i := 1) (p := 1) C dX8_settleCursors_24 rfl rfl rfl ?_
        refine J_iconst (v := 1) C (by decide) dX8_settleCursors_25 rfl ?_
        refine J_isub C dX8_settleCursors_26 rfl ?_
        obtain ⟨g_10, h⟩ := Ok.ofgd h
        refine Jc_iald C (ks_8_5 h_a0) (ls_8_5 h_a0) g_10 dX8_settleCursors_27 rfl ?_
        refine J_aload_n (i := 0) (p := 0) C dX8_settleCursors_28 rfl rfl rfl ?_
        refine Jc_getS (o2 := 4) (r2 := a0 + 4) C fp_RX8_30 rfl h_a0 rfl dX8_settleCursors_29 rfl ?_
        refine J_iload_n (i := 2) (p := 2) C dX8_settleCursors_32 rfl rfl rfl ?_
        obtain ⟨g_11, h⟩ := Ok.ofgd h
        refine Jc_iald C (ks_8_5 h_a0) (ls_8_5 h_a0) g_11 dX8_settleCursors_33 rfl ?_
        refine J_icmp_eq (t := 52) C dX8_settleCursors_34 (by decide) rfl (fun c_12 => ?_) (fun c_12 => ?_)
        · have h := h.pos c_12
          exact hj_52 σ_8 l1_8 l2_8 h
        · have h := h.neg c_12
          exact hj_37 σ_8 l1_8 l2_8 h
  unfold f8_settleCursors at h
  refine J_aload_n (i := 0) (p := 0) C dX8_settleCursors_0 rfl rfl rfl ?_
  refine Jc_cV (rest := []) (st9 := fun p_13 => []) C hR hX cv_RX8_66 h_a0 (Nat.le_of_ble_eq_true rfl) (k8_sortCursors hl h_a0 (Ok.ofbnd h)) rfl rfl (Nat.le_of_ble_eq_true rfl) (Nat.le_of_ble_eq_true rfl) (Nat.le_of_ble_eq_true rfl) ⟨(Nat.le_of_ble_eq_true rfl), (Nat.le_of_ble_eq_true rfl)⟩ dX8_settleCursors_1 rfl (fun E n9 w9 hx => JT_n hx) (fun _ => rfl) (fun p_13 h => ?_)
  have h : Ok _ _ := h
  change J X K 3 False QQ 0 0 2017 (jw K p_13) 4 [(0, .ref (K.2.2 + a0))] []
  refine J_iconst (v := 0) C (by decide) dX8_settleCursors_4 rfl ?_
  obtain ⟨x1_9, e_x1_9, h⟩ := Ok.nm h
  refine J_istoreE_n (i := 1) (lv' := [(1, .int x1_9), (0, .ref (K.2.2 + a0))]) C e_x1_9 dX8_settleCursors_5 rfl (Nat.le_of_ble_eq_true rfl) rfl rfl ?_
  refine J_iconst (v := 0) C (by decide) dX8_settleCursors_6 rfl ?_
  obtain ⟨x2_10, e_x2_10, h⟩ := Ok.nm h
  refine J_istoreE_n (i := 2) (lv' := [(2, .int x2_10), (1, .int x1_9), (0, .ref (K.2.2 + a0))]) C e_x2_10 dX8_settleCursors_7 rfl (Nat.le_of_ble_eq_true rfl) rfl rfl ?_
  refine J.sub [2, 1, 0] rfl ?_
  exact hj_8 p_13 x1_9 x2_10 h
def f1_moveInto_j155 (a1 : Nat) (σ_155 : Sto) (l5_155 : Int32) : Option ((Sto × Int32) ⊕ Sto) :=
  stp (l5_155 + (1 : Int32)) fun x5_1 =>
  some (.inl (σ_155, x5_1))
def f1_moveInto_b112 (a1 : Nat) (σ_112 : Sto) (l5_112 : Int32) : Option ((Sto × Int32) ⊕ Sto) :=
  if (16 : Int32) ≤ l5_112 then
    some (.inr σ_112)
  else
    gd (inb l5_112 16) <|
    if (aI σ_112 (a1 + 5) (Int32.toNatClampNeg l5_112)) = (-1 : Int32) then
      f1_moveInto_j155 a1 σ_112 l5_112
    else
      gd (inb l5_112 16) <|
      gd (inb l5_112 16) <|
      bnd (f1_moved σ_112 (aI σ_112 (a1 + 5) (Int32.toNatClampNeg l5_112)) (aI σ_112 (a1 + 6) (Int32.toNatClampNeg l5_112))) fun p_7 =>
      gd (inb l5_112 16) <|
      stp (uA σ_112 (a1 + 5) (Int32.toNatClampNeg l5_112) p_7) fun σx_2 =>
      f1_moveInto_j155 a1 σx_2 l5_112
def f1_moveInto_j112 (a1 : Nat) (σ_112 : Sto) (l5_112 : Int32) : Option (Sto) :=
  bnd (loopF (fun s_112 => f1_moveInto_b112 a1 s_112.1 s_112.2) FU (σ_112, l5_112)) fun r_112 =>
    bnd (f8_settleCursors r_112 a1) fun p_9 =>
    some p_9
def f1_moveInto_b75 (a1 : Nat) (σ_75 : Sto) (l5_75 : Int32) : Option ((Sto × Int32) ⊕ Sto) :=
  if (fI σ_75 a1 6) ≤ l5_75 then
    some (.inr σ_75)
  else
    gd (inb l5_75 8) <|
    bnd (f1_moved σ_75 (aI σ_75 (a1 + 4) (Int32.toNatClampNeg l5_75)) (0 : Int32)) fun p_12 =>
    gd (inb l5_75 8) <|
    stp (uA σ_75 (a1 + 4) (Int32.toNatClampNeg l5_75) p_12) fun σx_4 =>
    stp (l5_75 + (1 : Int32)) fun x5_5 =>
    some (.inl (σx_4, x5_5))
def f1_moveInto_j75 (a1 : Nat) (σ_75 : Sto) (l5_75 : Int32) : Option (Sto) :=
  bnd (loopF (fun s_75 => f1_moveInto_b75 a1 s_75.1 s_75.2) FU (σ_75, l5_75)) fun r_75 =>
    stp (0 : Int32) fun x5_6 =>
    f1_moveInto_j112 a1 r_75 x5_6
def f1_moveInto (σ : Sto) (a1 : Nat) : Option (Sto) :=
  stp (fR σ a1 0) fun x2_7 =>
  stp (fR σ a1 2) fun x3_8 =>
  stp (fR σ a1 3) fun x4_9 =>
  stp (uR σ a1 0 (fR σ 13 7)) fun σx_10 =>
  stp (uR σx_10 a1 2 (fR σx_10 13 9)) fun σx_11 =>
  stp (uR σx_11 a1 3 (fR σx_11 13 10)) fun σx_12 =>
  stp (uI σx_12 a1 1 (fI σx_12 13 8)) fun σx_13 =>
  stp (uI σx_13 a1 4 (fI σx_13 13 11)) fun σx_14 =>
  stp (uR σx_14 13 7 x2_7) fun σx_15 =>
  stp (uR σx_15 13 9 x3_8) fun σx_16 =>
  stp (uR σx_16 13 10 x4_9) fun σx_17 =>
  stp (0 : Int32) fun x5_18 =>
  f1_moveInto_j75 a1 σx_17 x5_18
set_option maxHeartbeats 4000000 in
set_option maxRecDepth 100000 in
theorem k1_moveInto {l : Launch} {K : JK} (hl : l.stackTraces = false) {σ : Sto} {a1 : Nat} (h_a1 : kc a1 = 8) {Qf : Sto → Prop} (h : Ok (f1_moveInto σ a1) Qf) : Con l K yX1_moveInto (.code yX1_moveInto cX1_moveInto 6 none :: TB) 2 0 0 False [.ref (K.2.2 + 13), .ref (K.2.2 + a1)] 2017 (jw K σ) (PR Qf (fun p => none) (fun p => jw K p)) PN := by
  refine Con.enter (own := RX1) hl (by decide) rfl (Nat.le_of_ble_eq_true rfl) ?_
  intro X hX hR C hret hnt
  generalize hQQ : jQ X K 0 0 (PR Qf (fun p => none) (fun p => jw K p)) PN False = QQ
  change J X K 6 False QQ 0 0 2017 (jw K σ) 0 [(0, .ref (K.2.2 + 13)), (1, .ref (K.2.2 + a1))] []
  have hj_112 : (∀ (σ_112 : Sto) (l5_112 : Int32), Ok (f1_moveInto_j112 a1 σ_112 l5_112) Qf → J X K 6 False QQ 0 0 2017 (jw K σ_112) 112 [(0, .ref (K.2.2 + 13)), (1, .ref (K.2.2 + a1)), (5, .int l5_112)] []) := by
    intro σ_112 l5_112 h
    unfold f1_moveInto_j112 at h
    refine loop_gen (S := Sto × Int32) (P := fun s_112 => J X K 6 False QQ 0 0 2017 (jw K s_112.1) 112 [(0, .ref (K.2.2 + 13)), (1, .ref (K.2.2 + a1)), (5, .int s_112.2)] []) ?_ FU (σ_112, l5_112) (Ok.ofbnd h)
    intro B_112 hB_112 hE_112 s_112 h
    obtain ⟨σ_112, l5_112⟩ := s_112
    have h : Ok (f1_moveInto_b112 a1 σ_112 l5_112) B_112 := h
    change J X K 6 False QQ 0 0 2017 (jw K σ_112) 112 [(0, .ref (K.2.2 + 13)), (1, .ref (K.2.2 + a1)), (5, .int l5_112)] []
    have hj_155 : (∀ (σ_155 : Sto) (l5_155 : Int32), Ok (f1_moveInto_j155 a1 σ_155 l5_155) B_112 → J X K 6 False QQ 0 0 2017 (jw K σ_155) 155 [(0, .ref (K.2.2 + 13)), (1, .ref (K.2.2 + a1)), (5, .int l5_155)] []) := by
      intro σ_155 l5_155 h
      unfold f1_moveInto_j155 at h
      obtain ⟨x5_1, e_x5_1, h⟩ := Ok.nm h
      refine J_iincE (i := 5) (p := 2) (lv' := [(5, .int x5_1), (0, .ref (K.2.2 + 13)), (1, .ref (K.2.2 + a1))]) C e_x5_1 dX1_moveInto_155 rfl (by decide) (Nat.le_of_ble_eq_true rfl) rfl rfl ?_
      refine J_goto (t := 112) C dX1_moveInto_158 (by decide) ?_
      refine J.sub [1, 2, 0] rfl ?_
      exact hB_112 (σ_155, x5_1) h.osome
    unfold f1_moveInto_b112 at h
    refine J_iload (i := 5) (p := 2) C dX1_moveInto_112 rfl rfl ?_
    refine J_bipush (v := 16) C (by decide) dX1_moveInto_114 rfl ?_
    refine J_icmp_ge (t := 161) C dX1_moveInto_116 (by decide) rfl (fun c_1 => ?_) (fun c_1 => ?_)
    · have h := h.pos c_1
      have h := hE_112 σ_112 h.osome
      try dsimp only at h
      refine J_aload_n (i := 1) (p := 1) C dX1_moveInto_161 rfl rfl rfl ?_
      refine Jc_cV (rest := []) (st9 := fun p_2 => []) C hR hX cv_RX1_142 h_a1 (Nat.le_of_ble_eq_true rfl) (k8_settleCursors hl h_a1 (Ok.ofbnd h)) rfl rfl (Nat.le_of_ble_eq_true rfl) (Nat.le_of_ble_eq_true rfl) (Nat.le_of_ble_eq_true rfl) ⟨(Nat.le_of_ble_eq_true rfl), (Nat.le_of_ble_eq_true rfl)⟩ dX1_moveInto_162 rfl (fun E n9 w9 hx => JT_n hx) (fun _ => rfl) (fun p_2 h => ?_)
      have h : Ok _ _ := h
      change J X K 6 False QQ 0 0 2017 (jw K p_2) 165 [(0, .ref (K.2.2 + 13)), (1, .ref (K.2.2 + a1)), (5, .int l5_112)] []
      rw [← hQQ]
      exact J_vret C hret (Nat.le_of_ble_eq_true rfl) (Nat.le_of_ble_eq_true rfl) ⟨_, h.osome, rfl, rfl, rfl⟩ dX1_moveInto_165
    · have h := h.neg c_1
      refine J_aload_n (i := 1) (p := 1) C dX1_moveInto_119 rfl rfl rfl ?_
      refine Jc_getS (o2 := 5) (r2 := a1 + 5) C fp_RX1_136 rfl h_a1 rfl dX1_moveInto_120 rfl ?_
      refine J_iload (i := 5) (p := 2) C dX1_moveInto_123 rfl rfl ?_
      obtain ⟨g_3, h⟩ := Ok.ofgd h
      refine Jc_iald C (ks_8_7 h_a1) (ls_8_7 h_a1) g_3 dX1_moveInto_125 rfl ?_
      refine J_iconst (v := -1) C (by decide) dX1_moveInto_126 rfl ?_
      refine J_icmp_eq (t := 155) C dX1_moveInto_127 (by decide) rfl (fun c_4 => ?_) (fun c_4 => ?_)
      · have h := h.pos c_4
        exact hj_155 σ_112 l5_112 h
      · have h := h.neg c_4
        refine J_aload_n (i := 1) (p := 1) C dX1_moveInto_130 rfl rfl rfl ?_
        refine Jc_getS (o2 := 5) (r2 := a1 + 5) C fp_RX1_136 rfl h_a1 rfl dX1_moveInto_131 rfl ?_
        refine J_iload (i := 5) (p := 2) C dX1_moveInto_134 rfl rfl ?_
        refine J_aload_n (i := 0) (p := 0) C dX1_moveInto_136 rfl rfl rfl ?_
        refine J_aload_n (i := 1) (p := 1) C dX1_moveInto_137 rfl rfl rfl ?_
        refine Jc_getS (o2 := 5) (r2 := a1 + 5) C fp_RX1_136 rfl h_a1 rfl dX1_moveInto_138 rfl ?_
        refine J_iload (i := 5) (p := 2) C dX1_moveInto_141 rfl rfl ?_
        obtain ⟨g_5, h⟩ := Ok.ofgd h
        refine Jc_iald C (ks_8_7 h_a1) (ls_8_7 h_a1) g_5 dX1_moveInto_143 rfl ?_
        refine J_aload_n (i := 1) (p := 1) C dX1_moveInto_144 rfl rfl rfl ?_
        refine Jc_getS (o2 := 6) (r2 := a1 + 6) C fp_RX1_139 rfl h_a1 rfl dX1_moveInto_145 rfl ?_
        refine J_iload (i := 5) (p := 2) C dX1_moveInto_148 rfl rfl ?_
        obtain ⟨g_6, h⟩ := Ok.ofgd h
        refine Jc_zald C (ks_8_8 h_a1) (ls_8_8 h_a1) g_6 dX1_moveInto_150 rfl ?_
        refine Jc_cV (rest := [.int l5_112, .ref (K.2.2 + (a1 + 5))]) (st9 := fun p_7 => [.int p_7, .int l5_112, .ref (K.2.2 + (a1 + 5))]) C hR hX cv_RX1_132 rfl (Nat.le_of_ble_eq_true rfl) (k1_moved hl  (Ok.ofbnd h)) rfl rfl (Nat.le_of_ble_eq_true rfl) (Nat.le_of_ble_eq_true rfl) (Nat.le_of_ble_eq_true rfl) ⟨(Nat.le_of_ble_eq_true rfl), (Nat.le_of_ble_eq_true rfl)⟩ dX1_moveInto_151 rfl (fun E n9 w9 hx => JT_n hx) (fun _ => rfl) (fun p_7 h => ?_)
        have h : Ok _ _ := h
        change J X K 6 False QQ 0 0 2017 (jw K σ_112) 154 [(0, .ref (K.2.2 + 13)), (1, .ref (K.2.2 + a1)), (5, .int l5_112)] [.int p_7, .int l5_112, .ref (K.2.2 + (a1 + 5))]
        obtain ⟨g_8, h⟩ := Ok.ofgd h
        obtain ⟨σx_2, e_σx_2, h⟩ := Ok.nm h
        refine Jc_iast C id (ks_8_7 h_a1) (ls_8_7 h_a1) g_8 e_σx_2 dX1_moveInto_154 rfl ?_
        exact hj_155 σx_2 l5_112 h
  have hj_75 : (∀ (σ_75 : Sto) (l5_75 : Int32), Ok (f1_moveInto_j75 a1 σ_75 l5_75) Qf → J X K 6 False QQ 0 0 2017 (jw K σ_75) 75 [(0, .ref (K.2.2 + 13)), (1, .ref (K.2.2 + a1)), (5, .int l5_75)] []) := by
    intro σ_75 l5_75 h
    unfold f1_moveInto_j75 at h
    refine loop_gen (S := Sto × Int32) (P := fun s_75 => J X K 6 False QQ 0 0 2017 (jw K s_75.1) 75 [(0, .ref (K.2.2 + 13)), (1, .ref (K.2.2 + a1)), (5, .int s_75.2)] []) ?_ FU (σ_75, l5_75) (Ok.ofbnd h)
    intro B_75 hB_75 hE_75 s_75 h
    obtain ⟨σ_75, l5_75⟩ := s_75
    have h : Ok (f1_moveInto_b75 a1 σ_75 l5_75) B_75 := h
    change J X K 6 False QQ 0 0 2017 (jw K σ_75) 75 [(0, .ref (K.2.2 + 13)), (1, .ref (K.2.2 + a1)), (5, .int l5_75)] []
    unfold f1_moveInto_b75 at h
    refine J_iload (i := 5) (p := 2) C dX1_moveInto_75 rfl rfl ?_
    refine J_aload_n (i := 1) (p := 1) C dX1_moveInto_77 rfl rfl rfl ?_
    refine Jc_getI C fp_RX1_126 h_a1 rfl dX1_moveInto_78 rfl ?_
    refine J_icmp_ge (t := 109) C dX1_moveInto_81 (by decide) rfl (fun c_10 => ?_) (fun c_10 => ?_)
    · have h := h.pos c_10
      have h := hE_75 σ_75 h.osome
      try dsimp only at h
      refine J_iconst (v := 0) C (by decide) dX1_moveInto_109 rfl ?_
      obtain ⟨x5_3, e_x5_3, h⟩ := Ok.nm h
      refine J_istoreE (i := 5) (lv' := [(5, .int x5_3), (0, .ref (K.2.2 + 13)), (1, .ref (K.2.2 + a1))]) C e_x5_3 dX1_moveInto_110 (Nat.le_of_ble_eq_true rfl) rfl rfl ?_
      refine J.sub [1, 2, 0] rfl ?_
      exact hj_112 σ_75 x5_3 h
    · have h := h.neg c_10
      refine J_aload_n (i := 1) (p := 1) C dX1_moveInto_84 rfl rfl rfl ?_
      refine Jc_getS (o2 := 4) (r2 := a1 + 4) C fp_RX1_129 rfl h_a1 rfl dX1_moveInto_85 rfl ?_
      refine J_iload (i := 5) (p := 2) C dX1_moveInto_88 rfl rfl ?_
      refine J_aload_n (i := 0) (p := 0) C dX1_moveInto_90 rfl rfl rfl ?_
      refine J_aload_n (i := 1) (p := 1) C dX1_moveInto_91 rfl rfl rfl ?_
      refine Jc_getS (o2 := 4) (r2 := a1 + 4) C fp_RX1_129 rfl h_a1 rfl dX1_moveInto_92 rfl ?_
      refine J_iload (i := 5) (p := 2) C dX1_moveInto_95 rfl rfl ?_
      obtain ⟨g_11, h⟩ := Ok.ofgd h
      refine Jc_iald C (ks_8_5 h_a1) (ls_8_5 h_a1) g_11 dX1_moveInto_97 rfl ?_
      refine J_iconst (v := 0) C (by decide) dX1_moveInto_98 rfl ?_
      refine Jc_cV (rest := [.int l5_75, .ref (K.2.2 + (a1 + 4))]) (st9 := fun p_12 => [.int p_12, .int l5_75, .ref (K.2.2 + (a1 + 4))]) C hR hX cv_RX1_132 rfl (Nat.le_of_ble_eq_true rfl) (k1_moved hl  (Ok.ofbnd h)) rfl rfl (Nat.le_of_ble_eq_true rfl) (Nat.le_of_ble_eq_true rfl) (Nat.le_of_ble_eq_true rfl) ⟨(Nat.le_of_ble_eq_true rfl), (Nat.le_of_ble_eq_true rfl)⟩ dX1_moveInto_99 rfl (fun E n9 w9 hx => JT_n hx) (fun _ => rfl) (fun p_12 h => ?_)
      have h : Ok _ _ := h
      change J X K 6 False QQ 0 0 2017 (jw K σ_75) 102 [(0, .ref (K.2.2 + 13)), (1, .ref (K.2.2 + a1)), (5, .int l5_75)] [.int p_12, .int l5_75, .ref (K.2.2 + (a1 + 4))]
      obtain ⟨g_13, h⟩ := Ok.ofgd h
      obtain ⟨σx_4, e_σx_4, h⟩ := Ok.nm h
      refine Jc_iast C id (ks_8_5 h_a1) (ls_8_5 h_a1) g_13 e_σx_4 dX1_moveInto_102 rfl ?_
      obtain ⟨x5_5, e_x5_5, h⟩ := Ok.nm h
      refine J_iincE (i := 5) (p := 2) (lv' := [(5, .int x5_5), (0, .ref (K.2.2 + 13)), (1, .ref (K.2.2 + a1))]) C e_x5_5 dX1_moveInto_103 rfl (by decide) (Nat.le_of_ble_eq_true rfl) rfl rfl ?_
      refine J_goto (t := 75) C dX1_moveInto_106 (by decide) ?_
      refine J.sub [1, 2, 0] rfl ?_
      exact hB_75 (σx_4, x5_5) h.osome
  unfold f1_moveInto at h
  refine J_aload_n (i := 1) (p := 1) C dX1_moveInto_0 rfl rfl rfl ?_
  refine Jc_getD C fp_RX1_119 h_a1 rfl dX1_moveInto_1 rfl ?_
  obtain ⟨x2_7, e_x2_7, h⟩ := Ok.nm h
  refine J_astoreqE_n (i := 2) (lv' := [(2, jv K.2.2 x2_7), (0, .ref (K.2.2 + 13)), (1, .ref (K.2.2 + a1))]) C e_x2_7 dX1_moveInto_4 rfl (Nat.le_of_ble_eq_true rfl) rfl rfl ?_
  refine J_aload_n (i := 1) (p := 2) C dX1_moveInto_5 rfl rfl rfl ?_
  refine Jc_getD C fp_RX1_122 h_a1 rfl dX1_moveInto_6 rfl ?_
  obtain ⟨x3_8, e_x3_8, h⟩ := Ok.nm h
  refine J_astoreqE_n (i := 3) (lv' := [(3, jv K.2.2 x3_8), (2, jv K.2.2 x2_7), (0, .ref (K.2.2 + 13)), (1, .ref (K.2.2 + a1))]) C e_x3_8 dX1_moveInto_9 rfl (Nat.le_of_ble_eq_true rfl) (by simp [List.filter, jv_cat, cat_i, cat_l, cat_d, cat_r]) rfl ?_
  refine J_aload_n (i := 1) (p := 3) C dX1_moveInto_10 rfl rfl rfl ?_
  refine Jc_getD C fp_RX1_99 h_a1 rfl dX1_moveInto_11 rfl ?_
  obtain ⟨x4_9, e_x4_9, h⟩ := Ok.nm h
  refine J_astoreqE (i := 4) (lv' := [(4, jv K.2.2 x4_9), (3, jv K.2.2 x3_8), (2, jv K.2.2 x2_7), (0, .ref (K.2.2 + 13)), (1, .ref (K.2.2 + a1))]) C e_x4_9 dX1_moveInto_14 (Nat.le_of_ble_eq_true rfl) (by simp [List.filter, jv_cat, cat_i, cat_l, cat_d, cat_r]) rfl ?_
  refine J_aload_n (i := 1) (p := 4) C dX1_moveInto_16 rfl rfl rfl ?_
  refine J_aload_n (i := 0) (p := 3) C dX1_moveInto_17 rfl rfl rfl ?_
  refine Jc_getD C fp_RX1_41 rfl rfl dX1_moveInto_18 rfl ?_
  obtain ⟨σx_10, e_σx_10, h⟩ := Ok.nm h
  refine Jc_putD (v := fR σ 13 7) C id fp_RX1_119 fw_8_0 (Or.inr ⟨_, rfl⟩) h_a1 rfl e_σx_10 dX1_moveInto_21 rfl ?_
  refine J_aload_n (i := 1) (p := 4) C dX1_moveInto_24 rfl rfl rfl ?_
  refine J_aload_n (i := 0) (p := 3) C dX1_moveInto_25 rfl rfl rfl ?_
  refine Jc_getD C fp_RX1_48 rfl rfl dX1_moveInto_26 rfl ?_
  obtain ⟨σx_11, e_σx_11, h⟩ := Ok.nm h
  refine Jc_putD (v := fR σx_10 13 9) C id fp_RX1_122 fw_8_2 (Or.inr ⟨_, rfl⟩) h_a1 rfl e_σx_11 dX1_moveInto_29 rfl ?_
  refine J_aload_n (i := 1) (p := 4) C dX1_moveInto_32 rfl rfl rfl ?_
  refine J_aload_n (i := 0) (p := 3) C dX1_moveInto_33 rfl rfl rfl ?_
  refine Jc_getD C fp_RX1_51 rfl rfl dX1_moveInto_34 rfl ?_
  obtain ⟨σx_12, e_σx_12, h⟩ := Ok.nm h
  refine Jc_putD (v := fR σx_11 13 10) C id fp_RX1_99 fw_8_3 (Or.inr ⟨_, rfl⟩) h_a1 rfl e_σx_12 dX1_moveInto_37 rfl ?_
  refine J_aload_n (i := 1) (p := 4) C dX1_moveInto_40 rfl rfl rfl ?_
  refine J_aload_n (i := 0) (p := 3) C dX1_moveInto_41 rfl rfl rfl ?_
  refine Jc_getI C fp_RX1_45 rfl rfl dX1_moveInto_42 rfl ?_
  obtain ⟨σx_13, e_σx_13, h⟩ := Ok.nm h
  refine Jc_putI C id fp_RX1_76 fw_8_1 rfl h_a1 rfl e_σx_13 dX1_moveInto_45 rfl ?_
  refine J_aload_n (i := 1) (p := 4) C dX1_moveInto_48 rfl rfl rfl ?_
  refine J_aload_n (i := 0) (p := 3) C dX1_moveInto_49 rfl rfl rfl ?_
  refine Jc_getI C fp_RX1_55 rfl rfl dX1_moveInto_50 rfl ?_
  obtain ⟨σx_14, e_σx_14, h⟩ := Ok.nm h
  refine Jc_putI C id fp_RX1_102 fw_8_4 rfl h_a1 rfl e_σx_14 dX1_moveInto_53 rfl ?_
  refine J_aload_n (i := 0) (p := 3) C dX1_moveInto_56 rfl rfl rfl ?_
  refine J_aloadq_n (i := 2) (p := 2) C dX1_moveInto_57 rfl rfl rfl ?_
  obtain ⟨σx_15, e_σx_15, h⟩ := Ok.nm h
  refine Jc_putD (v := x2_7) C id fp_RX1_41 fw_1_7 (Or.inr ⟨_, rfl⟩) rfl rfl e_σx_15 dX1_moveInto_58 rfl ?_
  refine J_aload_n (i := 0) (p := 3) C dX1_moveInto_61 rfl rfl rfl ?_
  refine J_aloadq_n (i := 3) (p := 1) C dX1_moveInto_62 rfl rfl rfl ?_
  obtain ⟨σx_16, e_σx_16, h⟩ := Ok.nm h
  refine Jc_putD (v := x3_8) C id fp_RX1_48 fw_1_9 (Or.inr ⟨_, rfl⟩) rfl rfl e_σx_16 dX1_moveInto_63 rfl ?_
  refine J_aload_n (i := 0) (p := 3) C dX1_moveInto_66 rfl rfl rfl ?_
  refine J_aloadq (i := 4) (p := 0) C dX1_moveInto_67 rfl rfl ?_
  obtain ⟨σx_17, e_σx_17, h⟩ := Ok.nm h
  refine Jc_putD (v := x4_9) C id fp_RX1_51 fw_1_10 (Or.inr ⟨_, rfl⟩) rfl rfl e_σx_17 dX1_moveInto_69 rfl ?_
  refine J_iconst (v := 0) C (by decide) dX1_moveInto_72 rfl ?_
  obtain ⟨x5_18, e_x5_18, h⟩ := Ok.nm h
  refine J_istoreE (i := 5) (lv' := [(5, .int x5_18), (4, jv K.2.2 x4_9), (3, jv K.2.2 x3_8), (2, jv K.2.2 x2_7), (0, .ref (K.2.2 + 13)), (1, .ref (K.2.2 + a1))]) C e_x5_18 dX1_moveInto_73 (Nat.le_of_ble_eq_true rfl) (by simp [List.filter, jv_cat, cat_i, cat_l, cat_d, cat_r]) rfl ?_
  refine J.sub [4, 5, 0] rfl ?_
  exact hj_75 σx_17 x5_18 h
def f11_perform_j36 (σ_36 : Sto) : Option (Int32 × Sto) :=
  some ((0 : Int32), σ_36)
def f11_perform (σ : Sto) : Option (Int32 × Sto) :=
  if (fI σ 13 4) = 0 then
    some ((1 : Int32), σ)
  else
    bnd (f4_hasRoom σ) fun p_2 =>
    if p_2 = 0 then
      f11_perform_j36 σ
    else
      bnd (f1_build σ 1) fun p_4 =>
      if p_4.1 = 0 then
        f11_perform_j36 p_4.2
      else
        bnd (f4_keepAct p_4.2 1) fun p_6 =>
        bnd (f1_moveInto p_6 1) fun p_7 =>
        some ((1 : Int32), p_7)
set_option maxHeartbeats 4000000 in
set_option maxRecDepth 100000 in
theorem k11_perform {l : Launch} {K : JK} (hl : l.stackTraces = false) {σ : Sto}   {Qf : Int32 × Sto → Prop} (h : Ok (f11_perform σ) Qf) : Con l K yX11_perform (.code yX11_perform cX11_perform 1 (some .boolean) :: TB) 3 0 0 False [.ref (K.2.2 + 0)] 2017 (jw K σ) (PR Qf (fun p => some (.int p.1)) (fun p => jw K p.2)) PN := by
  refine Con.enter (own := RX11) hl (by decide) rfl (Nat.le_of_ble_eq_true rfl) ?_
  intro X hX hR C hret hnt
  generalize hQQ : jQ X K 0 0 (PR Qf (fun p => some (.int p.1)) (fun p => jw K p.2)) PN False = QQ
  change J X K 1 False QQ 0 0 2017 (jw K σ) 0 [(0, .ref (K.2.2 + 0))] []
  have hj_36 : (∀ (σ_36 : Sto), Ok (f11_perform_j36 σ_36) Qf → J X K 1 False QQ 0 0 2017 (jw K σ_36) 36 [] []) := by
    intro σ_36 h
    unfold f11_perform_j36 at h
    refine J_iconst (v := 0) C (by decide) dX11_perform_36 rfl ?_
    rw [← hQQ]
    exact J_zret C hret rfl (Nat.le_of_ble_eq_true rfl) (Nat.le_of_ble_eq_true rfl) ⟨_, h.osome, rfl, rfl, rfl⟩ dX11_perform_37
  unfold f11_perform at h
  refine J_aload_n (i := 0) (p := 0) C dX11_perform_0 rfl rfl rfl ?_
  refine Jc_getS (o2 := 13) (r2 := 13) C fp_RX11_35 rfl rfl rfl dX11_perform_1 rfl ?_
  refine Jc_getI C fp_RX11_179 rfl rfl dX11_perform_4 rfl ?_
  refine J_if_ne (t := 12) C dX11_perform_7 (by decide) rfl (fun c_1 => ?_) (fun c_1 => ?_)
  · have h := h.neg c_1
    refine J_aload_n (i := 0) (p := 0) C dX11_perform_12 rfl rfl rfl ?_
    refine Jc_getS (o2 := 24) (r2 := 24) C fp_RX11_42 rfl rfl rfl dX11_perform_13 rfl ?_
    refine Jc_cV (rest := []) (st9 := fun p_2 => [.int p_2]) C hR hX cv_RX11_405 rfl (Nat.le_of_ble_eq_true rfl) (k4_hasRoom hl  (Ok.ofbnd h)) rfl rfl (Nat.le_of_ble_eq_true rfl) (Nat.le_of_ble_eq_true rfl) (Nat.le_of_ble_eq_true rfl) ⟨(Nat.le_of_ble_eq_true rfl), (Nat.le_of_ble_eq_true rfl)⟩ dX11_perform_16 rfl (fun E n9 w9 hx => JT_n hx) (fun _ => rfl) (fun p_2 h => ?_)
    have h : Ok _ _ := h
    change J X K 1 False QQ 0 0 2017 (jw K σ) 19 [(0, .ref (K.2.2 + 0))] [.int p_2]
    refine J_if_eq (t := 36) C dX11_perform_19 (by decide) rfl (fun c_3 => ?_) (fun c_3 => ?_)
    · have h := h.pos c_3
      refine J.sub [] rfl ?_
      exact hj_36 σ h
    · have h := h.neg c_3
      refine J_aload_n (i := 0) (p := 0) C dX11_perform_22 rfl rfl rfl ?_
      refine Jc_getS (o2 := 13) (r2 := 13) C fp_RX11_35 rfl rfl rfl dX11_perform_23 rfl ?_
      refine J_aload_n (i := 0) (p := 0) C dX11_perform_26 rfl rfl rfl ?_
      refine Jc_getS (o2 := 1) (r2 := 1) C fp_RX11_10 rfl rfl rfl dX11_perform_27 rfl ?_
      refine Jc_cV (rest := []) (st9 := fun p_4 => [.int p_4.1]) C hR hX cv_RX11_408 rfl (Nat.le_of_ble_eq_true rfl) (k1_build hl rfl (Ok.ofbnd h)) rfl rfl (Nat.le_of_ble_eq_true rfl) (Nat.le_of_ble_eq_true rfl) (Nat.le_of_ble_eq_true rfl) ⟨(Nat.le_of_ble_eq_true rfl), (Nat.le_of_ble_eq_true rfl)⟩ dX11_perform_30 rfl (fun E n9 w9 hx => JT_n hx) (fun _ => rfl) (fun p_4 h => ?_)
      have h : Ok _ _ := h
      change J X K 1 False QQ 0 0 2017 (jw K p_4.2) 33 [(0, .ref (K.2.2 + 0))] [.int p_4.1]
      refine J_if_ne (t := 38) C dX11_perform_33 (by decide) rfl (fun c_5 => ?_) (fun c_5 => ?_)
      · have h := h.neg c_5
        refine J_aload_n (i := 0) (p := 0) C dX11_perform_38 rfl rfl rfl ?_
        refine Jc_getS (o2 := 24) (r2 := 24) C fp_RX11_42 rfl rfl rfl dX11_perform_39 rfl ?_
        refine J_aload_n (i := 0) (p := 0) C dX11_perform_42 rfl rfl rfl ?_
        refine Jc_getS (o2 := 1) (r2 := 1) C fp_RX11_10 rfl rfl rfl dX11_perform_43 rfl ?_
        refine Jc_cV (rest := []) (st9 := fun p_6 => []) C hR hX cv_RX11_412 rfl (Nat.le_of_ble_eq_true rfl) (k4_keepAct hl rfl (Ok.ofbnd h)) rfl rfl (Nat.le_of_ble_eq_true rfl) (Nat.le_of_ble_eq_true rfl) (Nat.le_of_ble_eq_true rfl) ⟨(Nat.le_of_ble_eq_true rfl), (Nat.le_of_ble_eq_true rfl)⟩ dX11_perform_46 rfl (fun E n9 w9 hx => JT_n hx) (fun _ => rfl) (fun p_6 h => ?_)
        have h : Ok _ _ := h
        change J X K 1 False QQ 0 0 2017 (jw K p_6) 49 [(0, .ref (K.2.2 + 0))] []
        refine J_aload_n (i := 0) (p := 0) C dX11_perform_49 rfl rfl rfl ?_
        refine Jc_getS (o2 := 13) (r2 := 13) C fp_RX11_35 rfl rfl rfl dX11_perform_50 rfl ?_
        refine J_aload_n (i := 0) (p := 0) C dX11_perform_53 rfl rfl rfl ?_
        refine Jc_getS (o2 := 1) (r2 := 1) C fp_RX11_10 rfl rfl rfl dX11_perform_54 rfl ?_
        refine Jc_cV (rest := []) (st9 := fun p_7 => []) C hR hX cv_RX11_415 rfl (Nat.le_of_ble_eq_true rfl) (k1_moveInto hl rfl (Ok.ofbnd h)) rfl rfl (Nat.le_of_ble_eq_true rfl) (Nat.le_of_ble_eq_true rfl) (Nat.le_of_ble_eq_true rfl) ⟨(Nat.le_of_ble_eq_true rfl), (Nat.le_of_ble_eq_true rfl)⟩ dX11_perform_57 rfl (fun E n9 w9 hx => JT_n hx) (fun _ => rfl) (fun p_7 h => ?_)
        have h : Ok _ _ := h
        change J X K 1 False QQ 0 0 2017 (jw K p_7) 60 [(0, .ref (K.2.2 + 0))] []
        refine J_iconst (v := 1) C (by decide) dX11_perform_60 rfl ?_
        rw [← hQQ]
        exact J_zret C hret rfl (Nat.le_of_ble_eq_true rfl) (Nat.le_of_ble_eq_true rfl) ⟨_, h.osome, rfl, rfl, rfl⟩ dX11_perform_61
      · have h := h.pos (Decidable.not_not.mp c_5)
        refine J.sub [] rfl ?_
        exact hj_36 p_4.2 h
  · have h := h.pos (Decidable.not_not.mp c_1)
    refine J_iconst (v := 1) C (by decide) dX11_perform_10 rfl ?_
    rw [← hQQ]
    exact J_zret C hret rfl (Nat.le_of_ble_eq_true rfl) (Nat.le_of_ble_eq_true rfl) ⟨_, h.osome, rfl, rfl, rfl⟩ dX11_perform_11
def f9_add_j16 (l1 : Int32) (l2 : Int32) (l3 : Int32) (σ_16 : Sto) : Option (Sto) :=
  some σ_16
def f9_add (σ : Sto) (l1 : Int32) (l2 : Int32) (l3 : Int32) : Option (Sto) :=
  if (fI σ 1992 5) = 0 then
    f9_add_j16 l1 l2 l3 σ
  else
    if (fI σ 1992 4) < (40 : Int32) then
      gd (inb (fI σ 1992 4) 40) <|
      stp (uA σ 1993 (Int32.toNatClampNeg (fI σ 1992 4)) l1) fun σx_1 =>
      gd (inb (fI σx_1 1992 4) 40) <|
      stp (uA σx_1 1994 (Int32.toNatClampNeg (fI σx_1 1992 4)) l2) fun σx_2 =>
      gd (inb (fI σx_2 1992 4) 40) <|
      stp (uA σx_2 1995 (Int32.toNatClampNeg (fI σx_2 1992 4)) l3) fun σx_3 =>
      stp (uI σx_3 1992 4 ((fI σx_3 1992 4) + (1 : Int32))) fun σx_4 =>
      some σx_4
    else
      f9_add_j16 l1 l2 l3 σ
set_option maxHeartbeats 4000000 in
set_option maxRecDepth 100000 in
theorem k9_add {l : Launch} {K : JK} (hl : l.stackTraces = false) {σ : Sto} {l1 : Int32} {l2 : Int32} {l3 : Int32}  {Qf : Sto → Prop} (h : Ok (f9_add σ l1 l2 l3) Qf) : Con l K yX9_add (.code yX9_add cX9_add 4 none :: TB) 0 0 0 False [.ref (K.2.2 + 1992), .int l1, .int l2, .int l3] 2017 (jw K σ) (PR Qf (fun p => none) (fun p => jw K p)) PN := by
  refine Con.enter (own := RX9) hl (by decide) rfl (Nat.le_of_ble_eq_true rfl) ?_
  intro X hX hR C hret hnt
  generalize hQQ : jQ X K 0 0 (PR Qf (fun p => none) (fun p => jw K p)) PN False = QQ
  change J X K 4 False QQ 0 0 2017 (jw K σ) 0 [(0, .ref (K.2.2 + 1992)), (1, .int l1), (2, .int l2), (3, .int l3)] []
  have hj_16 : (∀ (σ_16 : Sto), Ok (f9_add_j16 l1 l2 l3 σ_16) Qf → J X K 4 False QQ 0 0 2017 (jw K σ_16) 16 [] []) := by
    intro σ_16 h
    unfold f9_add_j16 at h
    rw [← hQQ]
    exact J_vret C hret (Nat.le_of_ble_eq_true rfl) (Nat.le_of_ble_eq_true rfl) ⟨_, h.osome, rfl, rfl, rfl⟩ dX9_add_16
  unfold f9_add at h
  refine J_aload_n (i := 0) (p := 0) C dX9_add_0 rfl rfl rfl ?_
  refine Jc_getI C fp_RX9_29 rfl rfl dX9_add_1 rfl ?_
  refine J_if_eq (t := 16) C dX9_add_4 (by decide) rfl (fun c_1 => ?_) (fun c_1 => ?_)
  · have h := h.pos c_1
    refine J.sub [] rfl ?_
    exact hj_16 σ h
  · have h := h.neg c_1
    refine J_aload_n (i := 0) (p := 0) C dX9_add_7 rfl rfl rfl ?_
    refine Jc_getI C fp_RX9_25 rfl rfl dX9_add_8 rfl ?_
    refine J_bipush (v := 40) C (by decide) dX9_add_11 rfl ?_
    refine J_icmp_lt (t := 17) C dX9_add_13 (by decide) rfl (fun c_2 => ?_) (fun c_2 => ?_)
    · have h := h.pos c_2
      refine J_aload_n (i := 0) (p := 0) C dX9_add_17 rfl rfl rfl ?_
      refine Jc_getS (o2 := 1) (r2 := 1993) C fp_RX9_9 rfl rfl rfl dX9_add_18 rfl ?_
      refine J_aload_n (i := 0) (p := 0) C dX9_add_21 rfl rfl rfl ?_
      refine Jc_getI C fp_RX9_25 rfl rfl dX9_add_22 rfl ?_
      refine J_iload_n (i := 1) (p := 1) C dX9_add_25 rfl rfl rfl ?_
      obtain ⟨g_3, h⟩ := Ok.ofgd h
      obtain ⟨σx_1, e_σx_1, h⟩ := Ok.nm h
      refine Jc_iast C id rfl rfl g_3 e_σx_1 dX9_add_26 rfl ?_
      refine J_aload_n (i := 0) (p := 0) C dX9_add_27 rfl rfl rfl ?_
      refine Jc_getS (o2 := 2) (r2 := 1994) C fp_RX9_15 rfl rfl rfl dX9_add_28 rfl ?_
      refine J_aload_n (i := 0) (p := 0) C dX9_add_31 rfl rfl rfl ?_
      refine Jc_getI C fp_RX9_25 rfl rfl dX9_add_32 rfl ?_
      refine J_iload_n (i := 2) (p := 2) C dX9_add_35 rfl rfl rfl ?_
      obtain ⟨g_4, h⟩ := Ok.ofgd h
      obtain ⟨σx_2, e_σx_2, h⟩ := Ok.nm h
      refine Jc_iast C id rfl rfl g_4 e_σx_2 dX9_add_36 rfl ?_
      refine J_aload_n (i := 0) (p := 0) C dX9_add_37 rfl rfl rfl ?_
      refine Jc_getS (o2 := 3) (r2 := 1995) C fp_RX9_18 rfl rfl rfl dX9_add_38 rfl ?_
      refine J_aload_n (i := 0) (p := 0) C dX9_add_41 rfl rfl rfl ?_
      refine Jc_getI C fp_RX9_25 rfl rfl dX9_add_42 rfl ?_
      refine J_iload_n (i := 3) (p := 3) C dX9_add_45 rfl rfl rfl ?_
      obtain ⟨g_5, h⟩ := Ok.ofgd h
      obtain ⟨σx_3, e_σx_3, h⟩ := Ok.nm h
      refine Jc_iast C id rfl rfl g_5 e_σx_3 dX9_add_46 rfl ?_
      refine J_aload_n (i := 0) (p := 0) C dX9_add_47 rfl rfl rfl ?_
      refine J_dup C rfl dX9_add_48 rfl ?_
      refine Jc_getI C fp_RX9_25 rfl rfl dX9_add_49 rfl ?_
      refine J_iconst (v := 1) C (by decide) dX9_add_52 rfl ?_
      refine J_iadd C dX9_add_53 rfl ?_
      obtain ⟨σx_4, e_σx_4, h⟩ := Ok.nm h
      refine Jc_putI C id fp_RX9_25 fw_9_4 rfl rfl rfl e_σx_4 dX9_add_54 rfl ?_
      rw [← hQQ]
      exact J_vret C hret (Nat.le_of_ble_eq_true rfl) (Nat.le_of_ble_eq_true rfl) ⟨_, h.osome, rfl, rfl, rfl⟩ dX9_add_57
    · have h := h.neg c_2
      refine J.sub [] rfl ?_
      exact hj_16 σ h
def f9_addTyped_j40 (a1 : Nat) (σ_40 : Sto) : Option (Sto) :=
  bnd (f9_add σ_40 (0 : Int32) (0 : Int32) (fI σ_40 a1 1)) fun p_1 =>
  some p_1
def f9_addTyped (σ : Sto) (a1 : Nat) : Option (Sto) :=
  if (fI σ 1992 5) = 0 then
    f9_addTyped_j40 a1 σ
  else
    if (40 : Int32) ≤ (fI σ 1992 4) then
      f9_addTyped_j40 a1 σ
    else
      gd (cpok (0 : Int32) ((fI σ 1992 4) * (200 : Int32)) (fI σ a1 1) (ln (a1 + 1)) 8000) <|
      gd (fitB (aI σ (a1 + 1)) (Int32.toNatClampNeg (0 : Int32)) (Int32.toNatClampNeg (fI σ a1 1))) <|
      stp (rA σ 1996 (va_cpy (aI σ (a1 + 1)) (aI σ 1996) (Int32.toNatClampNeg (0 : Int32)) (Int32.toNatClampNeg ((fI σ 1992 4) * (200 : Int32))) (Int32.toNatClampNeg (fI σ a1 1)))) fun σx_1 =>
      f9_addTyped_j40 a1 σx_1
set_option maxHeartbeats 4000000 in
set_option maxRecDepth 100000 in
theorem k9_addTyped {l : Launch} {K : JK} (hl : l.stackTraces = false) {σ : Sto} {a1 : Nat} (h_a1 : kc a1 = 6) {Qf : Sto → Prop} (h : Ok (f9_addTyped σ a1) Qf) : Con l K yX9_addTyped (.code yX9_addTyped cX9_addTyped 2 none :: TB) 1 0 0 False [.ref (K.2.2 + 1992), .ref (K.2.2 + a1)] 2017 (jw K σ) (PR Qf (fun p => none) (fun p => jw K p)) PN := by
  refine Con.enter (own := RX9) hl (by decide) rfl (Nat.le_of_ble_eq_true rfl) ?_
  intro X hX hR C hret hnt
  generalize hQQ : jQ X K 0 0 (PR Qf (fun p => none) (fun p => jw K p)) PN False = QQ
  change J X K 2 False QQ 0 0 2017 (jw K σ) 0 [(0, .ref (K.2.2 + 1992)), (1, .ref (K.2.2 + a1))] []
  have hj_40 : (∀ (σ_40 : Sto), Ok (f9_addTyped_j40 a1 σ_40) Qf → J X K 2 False QQ 0 0 2017 (jw K σ_40) 40 [(0, .ref (K.2.2 + 1992)), (1, .ref (K.2.2 + a1))] []) := by
    intro σ_40 h
    unfold f9_addTyped_j40 at h
    refine J_aload_n (i := 0) (p := 0) C dX9_addTyped_40 rfl rfl rfl ?_
    refine J_iconst (v := 0) C (by decide) dX9_addTyped_41 rfl ?_
    refine J_iconst (v := 0) C (by decide) dX9_addTyped_42 rfl ?_
    refine J_aload_n (i := 1) (p := 1) C dX9_addTyped_43 rfl rfl rfl ?_
    refine Jc_getI C fp_RX9_36 h_a1 rfl dX9_addTyped_44 rfl ?_
    refine Jc_cV (rest := []) (st9 := fun p_1 => []) C hR hX cv_RX9_45 rfl (Nat.le_of_ble_eq_true rfl) (k9_add hl  (Ok.ofbnd h)) rfl rfl (Nat.le_of_ble_eq_true rfl) (Nat.le_of_ble_eq_true rfl) (Nat.le_of_ble_eq_true rfl) ⟨(Nat.le_of_ble_eq_true rfl), (Nat.le_of_ble_eq_true rfl)⟩ dX9_addTyped_47 rfl (fun E n9 w9 hx => JT_n hx) (fun _ => rfl) (fun p_1 h => ?_)
    have h : Ok _ _ := h
    change J X K 2 False QQ 0 0 2017 (jw K p_1) 50 [(0, .ref (K.2.2 + 1992)), (1, .ref (K.2.2 + a1))] []
    rw [← hQQ]
    exact J_vret C hret (Nat.le_of_ble_eq_true rfl) (Nat.le_of_ble_eq_true rfl) ⟨_, h.osome, rfl, rfl, rfl⟩ dX9_addTyped_50
  unfold f9_addTyped at h
  refine J_aload_n (i := 0) (p := 0) C dX9_addTyped_0 rfl rfl rfl ?_
  refine Jc_getI C fp_RX9_29 rfl rfl dX9_addTyped_1 rfl ?_
  refine J_if_eq (t := 40) C dX9_addTyped_4 (by decide) rfl (fun c_2 => ?_) (fun c_2 => ?_)
  · have h := h.pos c_2
    exact hj_40 σ h
  · have h := h.neg c_2
    refine J_aload_n (i := 0) (p := 0) C dX9_addTyped_7 rfl rfl rfl ?_
    refine Jc_getI C fp_RX9_25 rfl rfl dX9_addTyped_8 rfl ?_
    refine J_bipush (v := 40) C (by decide) dX9_addTyped_11 rfl ?_
    refine J_icmp_ge (t := 40) C dX9_addTyped_13 (by decide) rfl (fun c_3 => ?_) (fun c_3 => ?_)
    · have h := h.pos c_3
      exact hj_40 σ h
    · have h := h.neg c_3
      refine J_aload_n (i := 1) (p := 1) C dX9_addTyped_16 rfl rfl rfl ?_
      refine Jc_getS (o2 := 1) (r2 := a1 + 1) C fp_RX9_33 rfl h_a1 rfl dX9_addTyped_17 rfl ?_
      refine J_iconst (v := 0) C (by decide) dX9_addTyped_20 rfl ?_
      refine J_aload_n (i := 0) (p := 0) C dX9_addTyped_21 rfl rfl rfl ?_
      refine Jc_getS (o2 := 4) (r2 := 1996) C fp_RX9_21 rfl rfl rfl dX9_addTyped_22 rfl ?_
      refine J_aload_n (i := 0) (p := 0) C dX9_addTyped_25 rfl rfl rfl ?_
      refine Jc_getI C fp_RX9_25 rfl rfl dX9_addTyped_26 rfl ?_
      refine J_sipush (v := 200) C (by decide) dX9_addTyped_29 rfl ?_
      refine J_imul C dX9_addTyped_32 rfl ?_
      refine J_aload_n (i := 1) (p := 1) C dX9_addTyped_33 rfl rfl rfl ?_
      refine Jc_getI C fp_RX9_36 h_a1 rfl dX9_addTyped_34 rfl ?_
      obtain ⟨g_4, h⟩ := Ok.ofgd h
      obtain ⟨g_5, h⟩ := Ok.ofgd h
      obtain ⟨σx_1, e_σx_1, h⟩ := Ok.nm h
      refine Jc_copyB C id ac_RX9_39 ac_nat ac_st ac_ini (ks_6_0 h_a1) rfl rfl rfl g_4 e_σx_1 (fitB_spec g_5) (by rw [hR]; exact (Nat.le_of_ble_eq_true rfl)) (by rw [hR]; exact (Nat.le_of_ble_eq_true rfl)) dX9_addTyped_37 rfl ?_
      exact hj_40 σx_1 h
def f11_type (σ : Sto) : Option ((Int32 × Sto) ⊕ (Nat × Sto)) :=
  bnd (f11_planAtCursors σ 9 (0 : Int32) (fI σ 8 1)) fun p_1 =>
  bnd (f11_perform p_1) fun p_2 =>
  if p_2.1 = 0 then
    some (.inr (3, p_2.2))
  else
    bnd (f9_addTyped p_2.2 8) fun p_4 =>
    some (.inl (fI p_4 1 1, p_4))
set_option maxHeartbeats 4000000 in
set_option maxRecDepth 100000 in
theorem k11_type {l : Launch} {K : JK} (hl : l.stackTraces = false) {σ : Sto}   {Qf : (Int32 × Sto) ⊕ (Nat × Sto) → Prop} (h : Ok (f11_type σ) Qf) : Con l K yX11_type (.code yX11_type cX11_type 1 (some .int) :: TB) 6 1 6 False [.ref (K.2.2 + 0)] 2017 (jw K σ) (PR (fun p => Qf (.inl p)) (fun p => some (.int p.1)) (fun p => jw K p.2)) (PX Qf (fun s => jw K s)) := by
  refine Con.enter (own := RX11) hl (by decide) rfl (Nat.le_of_ble_eq_true rfl) ?_
  intro X hX hR C hret hnt
  generalize hQQ : jQ X K 1 6 (PR (fun p => Qf (.inl p)) (fun p => some (.int p.1)) (fun p => jw K p.2)) (PX Qf (fun s => jw K s)) False = QQ
  change J X K 1 False QQ 0 0 2017 (jw K σ) 0 [(0, .ref (K.2.2 + 0))] []
  unfold f11_type at h
  refine J_aload_n (i := 0) (p := 0) C dX11_type_0 rfl rfl rfl ?_
  refine J_aload_n (i := 0) (p := 0) C dX11_type_1 rfl rfl rfl ?_
  refine Jc_getS (o2 := 8) (r2 := 8) C fp_RX11_21 rfl rfl rfl dX11_type_2 rfl ?_
  refine Jc_getS (o2 := 1) (r2 := 9) C fp_RX11_130 rfl rfl rfl dX11_type_5 rfl ?_
  refine J_iconst (v := 0) C (by decide) dX11_type_8 rfl ?_
  refine J_aload_n (i := 0) (p := 0) C dX11_type_9 rfl rfl rfl ?_
  refine Jc_getS (o2 := 8) (r2 := 8) C fp_RX11_21 rfl rfl rfl dX11_type_10 rfl ?_
  refine Jc_getI C fp_RX11_89 rfl rfl dX11_type_13 rfl ?_
  refine Jc_cV (rest := []) (st9 := fun p_1 => []) C hR hX cv_RX11_131 rfl (Nat.le_of_ble_eq_true rfl) (k11_planAtCursors hl rfl (Ok.ofbnd h)) rfl rfl (Nat.le_of_ble_eq_true rfl) (Nat.le_of_ble_eq_true rfl) (Nat.le_of_ble_eq_true rfl) ⟨(Nat.le_of_ble_eq_true rfl), (Nat.le_of_ble_eq_true rfl)⟩ dX11_type_16 rfl (fun E n9 w9 hx => JT_n hx) (fun _ => rfl) (fun p_1 h => ?_)
  have h : Ok _ _ := h
  change J X K 1 False QQ 0 0 2017 (jw K p_1) 19 [(0, .ref (K.2.2 + 0))] []
  refine J_aload_n (i := 0) (p := 0) C dX11_type_19 rfl rfl rfl ?_
  refine Jc_cV (rest := []) (st9 := fun p_2 => [.int p_2.1]) C hR hX cv_RX11_134 rfl (Nat.le_of_ble_eq_true rfl) (k11_perform hl  (Ok.ofbnd h)) rfl rfl (Nat.le_of_ble_eq_true rfl) (Nat.le_of_ble_eq_true rfl) (Nat.le_of_ble_eq_true rfl) ⟨(Nat.le_of_ble_eq_true rfl), (Nat.le_of_ble_eq_true rfl)⟩ dX11_type_20 rfl (fun E n9 w9 hx => JT_n hx) (fun _ => rfl) (fun p_2 h => ?_)
  have h : Ok _ _ := h
  change J X K 1 False QQ 0 0 2017 (jw K p_2.2) 23 [(0, .ref (K.2.2 + 0))] [.int p_2.1]
  refine J_if_ne (t := 36) C dX11_type_23 (by decide) rfl (fun c_3 => ?_) (fun c_3 => ?_)
  · have h := h.neg c_3
    refine J_aload_n (i := 0) (p := 0) C dX11_type_36 rfl rfl rfl ?_
    refine Jc_getS (o2 := 1992) (r2 := 1992) C fp_RX11_56 rfl rfl rfl dX11_type_37 rfl ?_
    refine J_aload_n (i := 0) (p := 0) C dX11_type_40 rfl rfl rfl ?_
    refine Jc_getS (o2 := 8) (r2 := 8) C fp_RX11_21 rfl rfl rfl dX11_type_41 rfl ?_
    refine Jc_cV (rest := []) (st9 := fun p_4 => []) C hR hX cv_RX11_140 rfl (Nat.le_of_ble_eq_true rfl) (k9_addTyped hl rfl (Ok.ofbnd h)) rfl rfl (Nat.le_of_ble_eq_true rfl) (Nat.le_of_ble_eq_true rfl) (Nat.le_of_ble_eq_true rfl) ⟨(Nat.le_of_ble_eq_true rfl), (Nat.le_of_ble_eq_true rfl)⟩ dX11_type_44 rfl (fun E n9 w9 hx => JT_n hx) (fun _ => rfl) (fun p_4 h => ?_)
    have h : Ok _ _ := h
    change J X K 1 False QQ 0 0 2017 (jw K p_4) 47 [(0, .ref (K.2.2 + 0))] []
    refine J_aload_n (i := 0) (p := 0) C dX11_type_47 rfl rfl rfl ?_
    refine Jc_getS (o2 := 1) (r2 := 1) C fp_RX11_10 rfl rfl rfl dX11_type_48 rfl ?_
    refine Jc_getI C fp_RX11_144 rfl rfl dX11_type_51 rfl ?_
    rw [← hQQ]
    exact J_iret C hret (Nat.le_of_ble_eq_true rfl) (Nat.le_of_ble_eq_true rfl) ⟨_, h.osome, rfl, rfl, rfl⟩ dX11_type_54
  · have h := h.pos (Decidable.not_not.mp c_3)
    rw [← hQQ]
    exact J_throw (is := 138) (text := "refused") C hnt th_92 (by decide +kernel) dX11_type_26 dX11_type_29 dX11_type_30 dX11_type_32 dX11_type_35 (by rw [hR]; exact (Nat.le_of_ble_eq_true rfl)) (by rw [hR]; exact (Nat.le_of_ble_eq_true rfl)) (by rw [hR]; exact (Nat.le_of_ble_eq_true rfl)) (by rw [hR]; exact (Nat.le_of_ble_eq_true rfl)) (Nat.le_of_ble_eq_true rfl) (Nat.le_of_ble_eq_true rfl) ⟨3, p_2.2, h.osome, rfl, rfl, rfl⟩
def f11_planErasing_j96 (l1 : Int32) (σ_96 : Sto) (l2_96 : Int32) (l3_96 : Int32) : Option ((Sto × Int32 × Int32) ⊕ Sto) :=
  stp (l3_96 + (1 : Int32)) fun x3_1 =>
  some (.inl (σ_96, l2_96, x3_1))
def f11_planErasing_b20 (l1 : Int32) (σ_20 : Sto) (l2_20 : Int32) (l3_20 : Int32) : Option ((Sto × Int32 × Int32) ⊕ Sto) :=
  if (fI σ_20 1 6) ≤ l3_20 then
    some (.inr σ_20)
  else
    gd (inb l3_20 8) <|
    stp (aI σ_20 5 (Int32.toNatClampNeg l3_20)) fun x4_2 =>
    stp (imax l2_20 (x4_2 + (imin l1 (0 : Int32)))) fun x5_3 =>
    stp (imax l2_20 (imin (fI σ_20 1 1) (x4_2 + (imax l1 (0 : Int32))))) fun x2_4 =>
    if x2_4 ≤ x5_3 then
      f11_planErasing_j96 l1 σ_20 x2_4 l3_20
    else
      bnd (f1_addPart σ_20 x5_3 x2_4 (0 : Int32)) fun p_4 =>
      f11_planErasing_j96 l1 p_4 x2_4 l3_20
def f11_planErasing_j20 (l1 : Int32) (σ_20 : Sto) (l2_20 : Int32) (l3_20 : Int32) : Option (Sto) :=
  bnd (loopF (fun s_20 => f11_planErasing_b20 l1 s_20.1 s_20.2.1 s_20.2.2) FU (σ_20, l2_20, l3_20)) fun r_20 =>
    some r_20
def f11_planErasing (σ : Sto) (l1 : Int32) : Option (Sto) :=
  bnd (f1_begin σ 9 (0 : Int32) (0 : Int32)) fun p_5 =>
  stp (0 : Int32) fun x2_5 =>
  stp (0 : Int32) fun x3_6 =>
  f11_planErasing_j20 l1 p_5 x2_5 x3_6
set_option maxHeartbeats 4000000 in
set_option maxRecDepth 100000 in
theorem k11_planErasing {l : Launch} {K : JK} (hl : l.stackTraces = false) {σ : Sto} {l1 : Int32}  {Qf : Sto → Prop} (h : Ok (f11_planErasing σ l1) Qf) : Con l K yX11_planErasing (.code yX11_planErasing cX11_planErasing 6 none :: TB) 3 0 0 False [.ref (K.2.2 + 0), .int l1] 2017 (jw K σ) (PR Qf (fun p => none) (fun p => jw K p)) PN := by
  refine Con.enter (own := RX11) hl (by decide) rfl (Nat.le_of_ble_eq_true rfl) ?_
  intro X hX hR C hret hnt
  generalize hQQ : jQ X K 0 0 (PR Qf (fun p => none) (fun p => jw K p)) PN False = QQ
  change J X K 6 False QQ 0 0 2017 (jw K σ) 0 [(0, .ref (K.2.2 + 0)), (1, .int l1)] []
  have hj_20 : (∀ (σ_20 : Sto) (l2_20 : Int32) (l3_20 : Int32), Ok (f11_planErasing_j20 l1 σ_20 l2_20 l3_20) Qf → J X K 6 False QQ 0 0 2017 (jw K σ_20) 20 [(0, .ref (K.2.2 + 0)), (1, .int l1), (2, .int l2_20), (3, .int l3_20)] []) := by
    intro σ_20 l2_20 l3_20 h
    unfold f11_planErasing_j20 at h
    refine loop_gen (S := Sto × Int32 × Int32) (P := fun s_20 => J X K 6 False QQ 0 0 2017 (jw K s_20.1) 20 [(0, .ref (K.2.2 + 0)), (1, .int l1), (2, .int s_20.2.1), (3, .int s_20.2.2)] []) ?_ FU (σ_20, l2_20, l3_20) (Ok.ofbnd h)
    intro B_20 hB_20 hE_20 s_20 h
    obtain ⟨σ_20, l2_20, l3_20⟩ := s_20
    have h : Ok (f11_planErasing_b20 l1 σ_20 l2_20 l3_20) B_20 := h
    change J X K 6 False QQ 0 0 2017 (jw K σ_20) 20 [(0, .ref (K.2.2 + 0)), (1, .int l1), (2, .int l2_20), (3, .int l3_20)] []
    have hj_96 : (∀ (σ_96 : Sto) (l2_96 : Int32) (l3_96 : Int32), Ok (f11_planErasing_j96 l1 σ_96 l2_96 l3_96) B_20 → J X K 6 False QQ 0 0 2017 (jw K σ_96) 96 [(0, .ref (K.2.2 + 0)), (1, .int l1), (2, .int l2_96), (3, .int l3_96)] []) := by
      intro σ_96 l2_96 l3_96 h
      unfold f11_planErasing_j96 at h
      obtain ⟨x3_1, e_x3_1, h⟩ := Ok.nm h
      refine J_iincE (i := 3) (p := 3) (lv' := [(3, .int x3_1), (0, .ref (K.2.2 + 0)), (1, .int l1), (2, .int l2_96)]) C e_x3_1 dX11_planErasing_96 rfl (by decide) (Nat.le_of_ble_eq_true rfl) rfl rfl ?_
      refine J_goto (t := 20) C dX11_planErasing_99 (by decide) ?_
      refine J.sub [1, 2, 3, 0] rfl ?_
      exact hB_20 (σ_96, l2_96, x3_1) h.osome
    unfold f11_planErasing_b20 at h
    refine J_iload_n (i := 3) (p := 3) C dX11_planErasing_20 rfl rfl rfl ?_
    refine J_aload_n (i := 0) (p := 0) C dX11_planErasing_21 rfl rfl rfl ?_
    refine Jc_getS (o2 := 1) (r2 := 1) C fp_RX11_10 rfl rfl rfl dX11_planErasing_22 rfl ?_
    refine Jc_getI C fp_RX11_267 rfl rfl dX11_planErasing_25 rfl ?_
    refine J_icmp_ge (t := 102) C dX11_planErasing_28 (by decide) rfl (fun c_1 => ?_) (fun c_1 => ?_)
    · have h := h.pos c_1
      have h := hE_20 σ_20 h.osome
      try dsimp only at h
      rw [← hQQ]
      exact J_vret C hret (Nat.le_of_ble_eq_true rfl) (Nat.le_of_ble_eq_true rfl) ⟨_, h.osome, rfl, rfl, rfl⟩ dX11_planErasing_102
    · have h := h.neg c_1
      refine J_aload_n (i := 0) (p := 0) C dX11_planErasing_31 rfl rfl rfl ?_
      refine Jc_getS (o2 := 1) (r2 := 1) C fp_RX11_10 rfl rfl rfl dX11_planErasing_32 rfl ?_
      refine Jc_getS (o2 := 4) (r2 := 5) C fp_RX11_205 rfl rfl rfl dX11_planErasing_35 rfl ?_
      refine J_iload_n (i := 3) (p := 3) C dX11_planErasing_38 rfl rfl rfl ?_
      obtain ⟨g_2, h⟩ := Ok.ofgd h
      refine Jc_iald C rfl rfl g_2 dX11_planErasing_39 rfl ?_
      obtain ⟨x4_2, e_x4_2, h⟩ := Ok.nm h
      refine J_istoreE (i := 4) (lv' := [(4, .int x4_2), (0, .ref (K.2.2 + 0)), (1, .int l1), (2, .int l2_20), (3, .int l3_20)]) C e_x4_2 dX11_planErasing_40 (Nat.le_of_ble_eq_true rfl) rfl rfl ?_
      refine J_iload_n (i := 2) (p := 3) C dX11_planErasing_42 rfl rfl rfl ?_
      refine J_iload (i := 4) (p := 0) C dX11_planErasing_43 rfl rfl ?_
      refine J_iload_n (i := 1) (p := 2) C dX11_planErasing_45 rfl rfl rfl ?_
      refine J_iconst (v := 0) C (by decide) dX11_planErasing_46 rfl ?_
      refine J_mmin C hR mm_RX11_341 (Nat.le_of_ble_eq_true rfl) (Nat.le_of_ble_eq_true rfl) (Nat.le_of_ble_eq_true rfl) (Nat.le_of_ble_eq_true rfl) dX11_planErasing_47 rfl ?_
      refine J_iadd C dX11_planErasing_50 rfl ?_
      refine J_mmax C hR mm_RX11_167 (Nat.le_of_ble_eq_true rfl) (Nat.le_of_ble_eq_true rfl) (Nat.le_of_ble_eq_true rfl) (Nat.le_of_ble_eq_true rfl) dX11_planErasing_51 rfl ?_
      obtain ⟨x5_3, e_x5_3, h⟩ := Ok.nm h
      refine J_istoreE (i := 5) (lv' := [(5, .int x5_3), (4, .int x4_2), (0, .ref (K.2.2 + 0)), (1, .int l1), (2, .int l2_20), (3, .int l3_20)]) C e_x5_3 dX11_planErasing_54 (Nat.le_of_ble_eq_true rfl) rfl rfl ?_
      refine J_iload_n (i := 2) (p := 4) C dX11_planErasing_56 rfl rfl rfl ?_
      refine J_aload_n (i := 0) (p := 2) C dX11_planErasing_57 rfl rfl rfl ?_
      refine Jc_getS (o2 := 1) (r2 := 1) C fp_RX11_10 rfl rfl rfl dX11_planErasing_58 rfl ?_
      refine Jc_getI C fp_RX11_144 rfl rfl dX11_planErasing_61 rfl ?_
      refine J_iload (i := 4) (p := 1) C dX11_planErasing_64 rfl rfl ?_
      refine J_iload_n (i := 1) (p := 3) C dX11_planErasing_66 rfl rfl rfl ?_
      refine J_iconst (v := 0) C (by decide) dX11_planErasing_67 rfl ?_
      refine J_mmax C hR mm_RX11_167 (Nat.le_of_ble_eq_true rfl) (Nat.le_of_ble_eq_true rfl) (Nat.le_of_ble_eq_true rfl) (Nat.le_of_ble_eq_true rfl) dX11_planErasing_68 rfl ?_
      refine J_iadd C dX11_planErasing_71 rfl ?_
      refine J_mmin C hR mm_RX11_341 (Nat.le_of_ble_eq_true rfl) (Nat.le_of_ble_eq_true rfl) (Nat.le_of_ble_eq_true rfl) (Nat.le_of_ble_eq_true rfl) dX11_planErasing_72 rfl ?_
      refine J_mmax C hR mm_RX11_167 (Nat.le_of_ble_eq_true rfl) (Nat.le_of_ble_eq_true rfl) (Nat.le_of_ble_eq_true rfl) (Nat.le_of_ble_eq_true rfl) dX11_planErasing_75 rfl ?_
      obtain ⟨x2_4, e_x2_4, h⟩ := Ok.nm h
      refine J_istoreE_n (i := 2) (lv' := [(2, .int x2_4), (5, .int x5_3), (4, .int x4_2), (0, .ref (K.2.2 + 0)), (1, .int l1), (3, .int l3_20)]) C e_x2_4 dX11_planErasing_78 rfl (Nat.le_of_ble_eq_true rfl) rfl rfl ?_
      refine J_iload (i := 5) (p := 1) C dX11_planErasing_79 rfl rfl ?_
      refine J_iload_n (i := 2) (p := 0) C dX11_planErasing_81 rfl rfl rfl ?_
      refine J_icmp_ge (t := 96) C dX11_planErasing_82 (by decide) rfl (fun c_3 => ?_) (fun c_3 => ?_)
      · have h := h.pos c_3
        refine J.sub [3, 4, 0, 5] rfl ?_
        exact hj_96 σ_20 x2_4 l3_20 h
      · have h := h.neg c_3
        refine J_aload_n (i := 0) (p := 3) C dX11_planErasing_85 rfl rfl rfl ?_
        refine Jc_getS (o2 := 13) (r2 := 13) C fp_RX11_35 rfl rfl rfl dX11_planErasing_86 rfl ?_
        refine J_iload (i := 5) (p := 1) C dX11_planErasing_89 rfl rfl ?_
        refine J_iload_n (i := 2) (p := 0) C dX11_planErasing_91 rfl rfl rfl ?_
        refine J_iconst (v := 0) C (by decide) dX11_planErasing_92 rfl ?_
        refine Jc_cV (rest := []) (st9 := fun p_4 => []) C hR hX cv_RX11_156 rfl (Nat.le_of_ble_eq_true rfl) (k1_addPart hl  (Ok.ofbnd h)) rfl rfl (Nat.le_of_ble_eq_true rfl) (Nat.le_of_ble_eq_true rfl) (Nat.le_of_ble_eq_true rfl) ⟨(Nat.le_of_ble_eq_true rfl), (Nat.le_of_ble_eq_true rfl)⟩ dX11_planErasing_93 rfl (fun E n9 w9 hx => JT_n hx) (fun _ => rfl) (fun p_4 h => ?_)
        have h : Ok _ _ := h
        change J X K 6 False QQ 0 0 2017 (jw K p_4) 96 [(2, .int x2_4), (5, .int x5_3), (4, .int x4_2), (0, .ref (K.2.2 + 0)), (1, .int l1), (3, .int l3_20)] []
        refine J.sub [3, 4, 0, 5] rfl ?_
        exact hj_96 p_4 x2_4 l3_20 h
  unfold f11_planErasing at h
  refine J_aload_n (i := 0) (p := 0) C dX11_planErasing_0 rfl rfl rfl ?_
  refine Jc_getS (o2 := 13) (r2 := 13) C fp_RX11_35 rfl rfl rfl dX11_planErasing_1 rfl ?_
  refine J_aload_n (i := 0) (p := 0) C dX11_planErasing_4 rfl rfl rfl ?_
  refine Jc_getS (o2 := 8) (r2 := 8) C fp_RX11_21 rfl rfl rfl dX11_planErasing_5 rfl ?_
  refine Jc_getS (o2 := 1) (r2 := 9) C fp_RX11_130 rfl rfl rfl dX11_planErasing_8 rfl ?_
  refine J_iconst (v := 0) C (by decide) dX11_planErasing_11 rfl ?_
  refine J_iconst (v := 0) C (by decide) dX11_planErasing_12 rfl ?_
  refine Jc_cV (rest := []) (st9 := fun p_5 => []) C hR hX cv_RX11_153 rfl (Nat.le_of_ble_eq_true rfl) (k1_begin hl rfl (Ok.ofbnd h)) rfl rfl (Nat.le_of_ble_eq_true rfl) (Nat.le_of_ble_eq_true rfl) (Nat.le_of_ble_eq_true rfl) ⟨(Nat.le_of_ble_eq_true rfl), (Nat.le_of_ble_eq_true rfl)⟩ dX11_planErasing_13 rfl (fun E n9 w9 hx => JT_n hx) (fun _ => rfl) (fun p_5 h => ?_)
  have h : Ok _ _ := h
  change J X K 6 False QQ 0 0 2017 (jw K p_5) 16 [(0, .ref (K.2.2 + 0)), (1, .int l1)] []
  refine J_iconst (v := 0) C (by decide) dX11_planErasing_16 rfl ?_
  obtain ⟨x2_5, e_x2_5, h⟩ := Ok.nm h
  refine J_istoreE_n (i := 2) (lv' := [(2, .int x2_5), (0, .ref (K.2.2 + 0)), (1, .int l1)]) C e_x2_5 dX11_planErasing_17 rfl (Nat.le_of_ble_eq_true rfl) rfl rfl ?_
  refine J_iconst (v := 0) C (by decide) dX11_planErasing_18 rfl ?_
  obtain ⟨x3_6, e_x3_6, h⟩ := Ok.nm h
  refine J_istoreE_n (i := 3) (lv' := [(3, .int x3_6), (2, .int x2_5), (0, .ref (K.2.2 + 0)), (1, .int l1)]) C e_x3_6 dX11_planErasing_19 rfl (Nat.le_of_ble_eq_true rfl) rfl rfl ?_
  refine J.sub [2, 3, 1, 0] rfl ?_
  exact hj_20 p_5 x2_5 x3_6 h
def f11_erase_j12 (l1 : Int32) (σ_12 : Sto) : Option ((Int32 × Sto) ⊕ (Nat × Sto)) :=
  some (.inr (2, σ_12))
def f11_erase (σ : Sto) (l1 : Int32) : Option ((Int32 × Sto) ⊕ (Nat × Sto)) :=
  if l1 < (-100 : Int32) then
    f11_erase_j12 l1 σ
  else
    if l1 ≤ (100 : Int32) then
      stp (fI σ 1 1) fun x2_1 =>
      bnd (f11_planErasing σ l1) fun p_3 =>
      bnd (f11_perform p_3) fun p_4 =>
      if p_4.1 = 0 then
        some (.inr (3, p_4.2))
      else
        bnd (f9_add p_4.2 (1 : Int32) (0 : Int32) l1) fun p_6 =>
        some (.inl (x2_1 - (fI p_6 1 1), p_6))
    else
      f11_erase_j12 l1 σ
set_option maxHeartbeats 4000000 in
set_option maxRecDepth 100000 in
theorem k11_erase {l : Launch} {K : JK} (hl : l.stackTraces = false) {σ : Sto} {l1 : Int32}  {Qf : (Int32 × Sto) ⊕ (Nat × Sto) → Prop} (h : Ok (f11_erase σ l1) Qf) : Con l K yX11_erase (.code yX11_erase cX11_erase 3 (some .int) :: TB) 6 1 6 False [.ref (K.2.2 + 0), .int l1] 2017 (jw K σ) (PR (fun p => Qf (.inl p)) (fun p => some (.int p.1)) (fun p => jw K p.2)) (PX Qf (fun s => jw K s)) := by
  refine Con.enter (own := RX11) hl (by decide) rfl (Nat.le_of_ble_eq_true rfl) ?_
  intro X hX hR C hret hnt
  generalize hQQ : jQ X K 1 6 (PR (fun p => Qf (.inl p)) (fun p => some (.int p.1)) (fun p => jw K p.2)) (PX Qf (fun s => jw K s)) False = QQ
  change J X K 3 False QQ 0 0 2017 (jw K σ) 0 [(0, .ref (K.2.2 + 0)), (1, .int l1)] []
  have hj_12 : (∀ (σ_12 : Sto), Ok (f11_erase_j12 l1 σ_12) Qf → J X K 3 False QQ 0 0 2017 (jw K σ_12) 12 [] []) := by
    intro σ_12 h
    unfold f11_erase_j12 at h
    rw [← hQQ]
    exact J_throw (is := 145) (text := "many is out of range") C hnt th_82 (by decide +kernel) dX11_erase_12 dX11_erase_15 dX11_erase_16 dX11_erase_18 dX11_erase_21 (by rw [hR]; exact (Nat.le_of_ble_eq_true rfl)) (by rw [hR]; exact (Nat.le_of_ble_eq_true rfl)) (by rw [hR]; exact (Nat.le_of_ble_eq_true rfl)) (by rw [hR]; exact (Nat.le_of_ble_eq_true rfl)) (Nat.le_of_ble_eq_true rfl) (Nat.le_of_ble_eq_true rfl) ⟨2, σ_12, h.osome, rfl, rfl, rfl⟩
  unfold f11_erase at h
  refine J_iload_n (i := 1) (p := 1) C dX11_erase_0 rfl rfl rfl ?_
  refine J_bipush (v := -100) C (by decide) dX11_erase_1 rfl ?_
  refine J_icmp_lt (t := 12) C dX11_erase_3 (by decide) rfl (fun c_1 => ?_) (fun c_1 => ?_)
  · have h := h.pos c_1
    refine J.sub [] rfl ?_
    exact hj_12 σ h
  · have h := h.neg c_1
    refine J_iload_n (i := 1) (p := 1) C dX11_erase_6 rfl rfl rfl ?_
    refine J_bipush (v := 100) C (by decide) dX11_erase_7 rfl ?_
    refine J_icmp_le (t := 22) C dX11_erase_9 (by decide) rfl (fun c_2 => ?_) (fun c_2 => ?_)
    · have h := h.pos c_2
      refine J_aload_n (i := 0) (p := 0) C dX11_erase_22 rfl rfl rfl ?_
      refine Jc_getS (o2 := 1) (r2 := 1) C fp_RX11_10 rfl rfl rfl dX11_erase_23 rfl ?_
      refine Jc_getI C fp_RX11_144 rfl rfl dX11_erase_26 rfl ?_
      obtain ⟨x2_1, e_x2_1, h⟩ := Ok.nm h
      refine J_istoreE_n (i := 2) (lv' := [(2, .int x2_1), (0, .ref (K.2.2 + 0)), (1, .int l1)]) C e_x2_1 dX11_erase_29 rfl (Nat.le_of_ble_eq_true rfl) rfl rfl ?_
      refine J_aload_n (i := 0) (p := 1) C dX11_erase_30 rfl rfl rfl ?_
      refine J_iload_n (i := 1) (p := 2) C dX11_erase_31 rfl rfl rfl ?_
      refine Jc_cV (rest := []) (st9 := fun p_3 => []) C hR hX cv_RX11_147 rfl (Nat.le_of_ble_eq_true rfl) (k11_planErasing hl  (Ok.ofbnd h)) rfl rfl (Nat.le_of_ble_eq_true rfl) (Nat.le_of_ble_eq_true rfl) (Nat.le_of_ble_eq_true rfl) ⟨(Nat.le_of_ble_eq_true rfl), (Nat.le_of_ble_eq_true rfl)⟩ dX11_erase_32 rfl (fun E n9 w9 hx => JT_n hx) (fun _ => rfl) (fun p_3 h => ?_)
      have h : Ok _ _ := h
      change J X K 3 False QQ 0 0 2017 (jw K p_3) 35 [(2, .int x2_1), (0, .ref (K.2.2 + 0)), (1, .int l1)] []
      refine J_aload_n (i := 0) (p := 1) C dX11_erase_35 rfl rfl rfl ?_
      refine Jc_cV (rest := []) (st9 := fun p_4 => [.int p_4.1]) C hR hX cv_RX11_134 rfl (Nat.le_of_ble_eq_true rfl) (k11_perform hl  (Ok.ofbnd h)) rfl rfl (Nat.le_of_ble_eq_true rfl) (Nat.le_of_ble_eq_true rfl) (Nat.le_of_ble_eq_true rfl) ⟨(Nat.le_of_ble_eq_true rfl), (Nat.le_of_ble_eq_true rfl)⟩ dX11_erase_36 rfl (fun E n9 w9 hx => JT_n hx) (fun _ => rfl) (fun p_4 h => ?_)
      have h : Ok _ _ := h
      change J X K 3 False QQ 0 0 2017 (jw K p_4.2) 39 [(2, .int x2_1), (0, .ref (K.2.2 + 0)), (1, .int l1)] [.int p_4.1]
      refine J_if_ne (t := 52) C dX11_erase_39 (by decide) rfl (fun c_5 => ?_) (fun c_5 => ?_)
      · have h := h.neg c_5
        refine J_aload_n (i := 0) (p := 1) C dX11_erase_52 rfl rfl rfl ?_
        refine Jc_getS (o2 := 1992) (r2 := 1992) C fp_RX11_56 rfl rfl rfl dX11_erase_53 rfl ?_
        refine J_iconst (v := 1) C (by decide) dX11_erase_56 rfl ?_
        refine J_iconst (v := 0) C (by decide) dX11_erase_57 rfl ?_
        refine J_iload_n (i := 1) (p := 2) C dX11_erase_58 rfl rfl rfl ?_
        refine Jc_cV (rest := []) (st9 := fun p_6 => []) C hR hX cv_RX11_150 rfl (Nat.le_of_ble_eq_true rfl) (k9_add hl  (Ok.ofbnd h)) rfl rfl (Nat.le_of_ble_eq_true rfl) (Nat.le_of_ble_eq_true rfl) (Nat.le_of_ble_eq_true rfl) ⟨(Nat.le_of_ble_eq_true rfl), (Nat.le_of_ble_eq_true rfl)⟩ dX11_erase_59 rfl (fun E n9 w9 hx => JT_n hx) (fun _ => rfl) (fun p_6 h => ?_)
        have h : Ok _ _ := h
        change J X K 3 False QQ 0 0 2017 (jw K p_6) 62 [(2, .int x2_1), (0, .ref (K.2.2 + 0)), (1, .int l1)] []
        refine J_iload_n (i := 2) (p := 0) C dX11_erase_62 rfl rfl rfl ?_
        refine J_aload_n (i := 0) (p := 1) C dX11_erase_63 rfl rfl rfl ?_
        refine Jc_getS (o2 := 1) (r2 := 1) C fp_RX11_10 rfl rfl rfl dX11_erase_64 rfl ?_
        refine Jc_getI C fp_RX11_144 rfl rfl dX11_erase_67 rfl ?_
        refine J_isub C dX11_erase_70 rfl ?_
        rw [← hQQ]
        exact J_iret C hret (Nat.le_of_ble_eq_true rfl) (Nat.le_of_ble_eq_true rfl) ⟨_, h.osome, rfl, rfl, rfl⟩ dX11_erase_71
      · have h := h.pos (Decidable.not_not.mp c_5)
        rw [← hQQ]
        exact J_throw (is := 138) (text := "refused") C hnt th_92 (by decide +kernel) dX11_erase_42 dX11_erase_45 dX11_erase_46 dX11_erase_48 dX11_erase_51 (by rw [hR]; exact (Nat.le_of_ble_eq_true rfl)) (by rw [hR]; exact (Nat.le_of_ble_eq_true rfl)) (by rw [hR]; exact (Nat.le_of_ble_eq_true rfl)) (by rw [hR]; exact (Nat.le_of_ble_eq_true rfl)) (Nat.le_of_ble_eq_true rfl) (Nat.le_of_ble_eq_true rfl) ⟨3, p_4.2, h.osome, rfl, rfl, rfl⟩
    · have h := h.neg c_2
      refine J.sub [] rfl ?_
      exact hj_12 σ h
def f11_replace (σ : Sto) (l1 : Int32) (l2 : Int32) : Option ((Int32 × Sto) ⊕ (Nat × Sto)) :=
  bndX (f11_requirePart σ l1 l2) fun p_1 =>
  bnd (f1_begin p_1 9 (0 : Int32) (fI p_1 8 1)) fun p_2 =>
  bnd (f1_addPart p_2 l1 l2 (fI p_2 8 1)) fun p_3 =>
  bnd (f11_perform p_3) fun p_4 =>
  if p_4.1 = 0 then
    some (.inr (3, p_4.2))
  else
    some (.inl (fI p_4.2 1 1, p_4.2))
set_option maxHeartbeats 4000000 in
set_option maxRecDepth 100000 in
theorem k11_replace {l : Launch} {K : JK} (hl : l.stackTraces = false) {σ : Sto} {l1 : Int32} {l2 : Int32}  {Qf : (Int32 × Sto) ⊕ (Nat × Sto) → Prop} (h : Ok (f11_replace σ l1 l2) Qf) : Con l K yX11_replace (.code yX11_replace cX11_replace 3 (some .int) :: TB) 8 4 24 False [.ref (K.2.2 + 0), .int l1, .int l2] 2017 (jw K σ) (PR (fun p => Qf (.inl p)) (fun p => some (.int p.1)) (fun p => jw K p.2)) (PX Qf (fun s => jw K s)) := by
  refine Con.enter (own := RX11) hl (by decide) rfl (Nat.le_of_ble_eq_true rfl) ?_
  intro X hX hR C hret hnt
  generalize hQQ : jQ X K 4 24 (PR (fun p => Qf (.inl p)) (fun p => some (.int p.1)) (fun p => jw K p.2)) (PX Qf (fun s => jw K s)) False = QQ
  change J X K 3 False QQ 0 0 2017 (jw K σ) 0 [(0, .ref (K.2.2 + 0)), (1, .int l1), (2, .int l2)] []
  unfold f11_replace at h
  refine J_aload_n (i := 0) (p := 0) C dX11_replace_0 rfl rfl rfl ?_
  refine J_iload_n (i := 1) (p := 1) C dX11_replace_1 rfl rfl rfl ?_
  refine J_iload_n (i := 2) (p := 2) C dX11_replace_2 rfl rfl rfl ?_
  refine Jc_cV (rest := []) (st9 := fun p_1 => []) C hR hX cv_RX11_100 rfl (Nat.le_of_ble_eq_true rfl) (k11_requirePart hl  (Ok.ofbndX h)) rfl rfl (Nat.le_of_ble_eq_true rfl) (Nat.le_of_ble_eq_true rfl) (Nat.le_of_ble_eq_true rfl) ⟨(Nat.le_of_ble_eq_true rfl), (Nat.le_of_ble_eq_true rfl)⟩ dX11_replace_3 rfl (fun E n9 w9 hx => by rw [← hQQ]; exact JT_x C hnt (Nat.le_of_ble_eq_true rfl) (Nat.le_of_ble_eq_true rfl) (fun c h => h) E n9 w9 hx) (fun _ => rfl) (fun p_1 h => ?_)
  have h : Ok _ _ := h
  change J X K 3 False QQ 3 18 2017 (jw K p_1) 6 [(0, .ref (K.2.2 + 0)), (1, .int l1), (2, .int l2)] []
  refine J_aload_n (i := 0) (p := 0) C dX11_replace_6 rfl rfl rfl ?_
  refine Jc_getS (o2 := 13) (r2 := 13) C fp_RX11_35 rfl rfl rfl dX11_replace_7 rfl ?_
  refine J_aload_n (i := 0) (p := 0) C dX11_replace_10 rfl rfl rfl ?_
  refine Jc_getS (o2 := 8) (r2 := 8) C fp_RX11_21 rfl rfl rfl dX11_replace_11 rfl ?_
  refine Jc_getS (o2 := 1) (r2 := 9) C fp_RX11_130 rfl rfl rfl dX11_replace_14 rfl ?_
  refine J_iconst (v := 0) C (by decide) dX11_replace_17 rfl ?_
  refine J_aload_n (i := 0) (p := 0) C dX11_replace_18 rfl rfl rfl ?_
  refine Jc_getS (o2 := 8) (r2 := 8) C fp_RX11_21 rfl rfl rfl dX11_replace_19 rfl ?_
  refine Jc_getI C fp_RX11_89 rfl rfl dX11_replace_22 rfl ?_
  refine Jc_cV (rest := []) (st9 := fun p_2 => []) C hR hX cv_RX11_153 rfl (Nat.le_of_ble_eq_true rfl) (k1_begin hl rfl (Ok.ofbnd h)) rfl rfl (Nat.le_of_ble_eq_true rfl) (Nat.le_of_ble_eq_true rfl) (Nat.le_of_ble_eq_true rfl) ⟨(Nat.le_of_ble_eq_true rfl), (Nat.le_of_ble_eq_true rfl)⟩ dX11_replace_25 rfl (fun E n9 w9 hx => JT_n hx) (fun _ => rfl) (fun p_2 h => ?_)
  have h : Ok _ _ := h
  change J X K 3 False QQ 3 18 2017 (jw K p_2) 28 [(0, .ref (K.2.2 + 0)), (1, .int l1), (2, .int l2)] []
  refine J_aload_n (i := 0) (p := 0) C dX11_replace_28 rfl rfl rfl ?_
  refine Jc_getS (o2 := 13) (r2 := 13) C fp_RX11_35 rfl rfl rfl dX11_replace_29 rfl ?_
  refine J_iload_n (i := 1) (p := 1) C dX11_replace_32 rfl rfl rfl ?_
  refine J_iload_n (i := 2) (p := 2) C dX11_replace_33 rfl rfl rfl ?_
  refine J_aload_n (i := 0) (p := 0) C dX11_replace_34 rfl rfl rfl ?_
  refine Jc_getS (o2 := 8) (r2 := 8) C fp_RX11_21 rfl rfl rfl dX11_replace_35 rfl ?_
  refine Jc_getI C fp_RX11_89 rfl rfl dX11_replace_38 rfl ?_
  refine Jc_cV (rest := []) (st9 := fun p_3 => []) C hR hX cv_RX11_156 rfl (Nat.le_of_ble_eq_true rfl) (k1_addPart hl  (Ok.ofbnd h)) rfl rfl (Nat.le_of_ble_eq_true rfl) (Nat.le_of_ble_eq_true rfl) (Nat.le_of_ble_eq_true rfl) ⟨(Nat.le_of_ble_eq_true rfl), (Nat.le_of_ble_eq_true rfl)⟩ dX11_replace_41 rfl (fun E n9 w9 hx => JT_n hx) (fun _ => rfl) (fun p_3 h => ?_)
  have h : Ok _ _ := h
  change J X K 3 False QQ 3 18 2017 (jw K p_3) 44 [(0, .ref (K.2.2 + 0)), (1, .int l1), (2, .int l2)] []
  refine J_aload_n (i := 0) (p := 0) C dX11_replace_44 rfl rfl rfl ?_
  refine Jc_cV (rest := []) (st9 := fun p_4 => [.int p_4.1]) C hR hX cv_RX11_134 rfl (Nat.le_of_ble_eq_true rfl) (k11_perform hl  (Ok.ofbnd h)) rfl rfl (Nat.le_of_ble_eq_true rfl) (Nat.le_of_ble_eq_true rfl) (Nat.le_of_ble_eq_true rfl) ⟨(Nat.le_of_ble_eq_true rfl), (Nat.le_of_ble_eq_true rfl)⟩ dX11_replace_45 rfl (fun E n9 w9 hx => JT_n hx) (fun _ => rfl) (fun p_4 h => ?_)
  have h : Ok _ _ := h
  change J X K 3 False QQ 3 18 2017 (jw K p_4.2) 48 [(0, .ref (K.2.2 + 0)), (1, .int l1), (2, .int l2)] [.int p_4.1]
  refine J_if_ne (t := 61) C dX11_replace_48 (by decide) rfl (fun c_5 => ?_) (fun c_5 => ?_)
  · have h := h.neg c_5
    refine J_aload_n (i := 0) (p := 0) C dX11_replace_61 rfl rfl rfl ?_
    refine Jc_getS (o2 := 1) (r2 := 1) C fp_RX11_10 rfl rfl rfl dX11_replace_62 rfl ?_
    refine Jc_getI C fp_RX11_144 rfl rfl dX11_replace_65 rfl ?_
    rw [← hQQ]
    exact J_iret C hret (Nat.le_of_ble_eq_true rfl) (Nat.le_of_ble_eq_true rfl) ⟨_, h.osome, rfl, rfl, rfl⟩ dX11_replace_68
  · have h := h.pos (Decidable.not_not.mp c_5)
    rw [← hQQ]
    exact J_throw (is := 138) (text := "refused") C hnt th_92 (by decide +kernel) dX11_replace_51 dX11_replace_54 dX11_replace_55 dX11_replace_57 dX11_replace_60 (by rw [hR]; exact (Nat.le_of_ble_eq_true rfl)) (by rw [hR]; exact (Nat.le_of_ble_eq_true rfl)) (by rw [hR]; exact (Nat.le_of_ble_eq_true rfl)) (by rw [hR]; exact (Nat.le_of_ble_eq_true rfl)) (Nat.le_of_ble_eq_true rfl) (Nat.le_of_ble_eq_true rfl) ⟨3, p_4.2, h.osome, rfl, rfl, rfl⟩
def f11_cut (σ : Sto) (l1 : Int32) (l2 : Int32) : Option ((Int32 × Sto) ⊕ (Nat × Sto)) :=
  bndX (f11_requirePart σ l1 l2) fun p_1 =>
  gd (okr (fR p_1 1 0) 13) <|
  bnd (f1_begin p_1 ((fR p_1 1 0) - 1) l1 (l2 - l1)) fun p_3 =>
  bnd (f1_addPart p_3 l1 l2 (0 : Int32)) fun p_4 =>
  bnd (f11_perform p_4) fun p_5 =>
  if p_5.1 = 0 then
    some (.inr (3, p_5.2))
  else
    bnd (f2_takeLetters p_5.2 19 (0 : Int32) (fI p_5.2 18 1)) fun p_7 =>
    some (.inl (l2 - l1, p_7))
set_option maxHeartbeats 4000000 in
set_option maxRecDepth 100000 in
theorem k11_cut {l : Launch} {K : JK} (hl : l.stackTraces = false) {σ : Sto} {l1 : Int32} {l2 : Int32}  {Qf : (Int32 × Sto) ⊕ (Nat × Sto) → Prop} (h : Ok (f11_cut σ l1 l2) Qf) : Con l K yX11_cut (.code yX11_cut cX11_cut 3 (some .int) :: TB) 8 4 24 False [.ref (K.2.2 + 0), .int l1, .int l2] 2017 (jw K σ) (PR (fun p => Qf (.inl p)) (fun p => some (.int p.1)) (fun p => jw K p.2)) (PX Qf (fun s => jw K s)) := by
  refine Con.enter (own := RX11) hl (by decide) rfl (Nat.le_of_ble_eq_true rfl) ?_
  intro X hX hR C hret hnt
  generalize hQQ : jQ X K 4 24 (PR (fun p => Qf (.inl p)) (fun p => some (.int p.1)) (fun p => jw K p.2)) (PX Qf (fun s => jw K s)) False = QQ
  change J X K 3 False QQ 0 0 2017 (jw K σ) 0 [(0, .ref (K.2.2 + 0)), (1, .int l1), (2, .int l2)] []
  unfold f11_cut at h
  refine J_aload_n (i := 0) (p := 0) C dX11_cut_0 rfl rfl rfl ?_
  refine J_iload_n (i := 1) (p := 1) C dX11_cut_1 rfl rfl rfl ?_
  refine J_iload_n (i := 2) (p := 2) C dX11_cut_2 rfl rfl rfl ?_
  refine Jc_cV (rest := []) (st9 := fun p_1 => []) C hR hX cv_RX11_100 rfl (Nat.le_of_ble_eq_true rfl) (k11_requirePart hl  (Ok.ofbndX h)) rfl rfl (Nat.le_of_ble_eq_true rfl) (Nat.le_of_ble_eq_true rfl) (Nat.le_of_ble_eq_true rfl) ⟨(Nat.le_of_ble_eq_true rfl), (Nat.le_of_ble_eq_true rfl)⟩ dX11_cut_3 rfl (fun E n9 w9 hx => by rw [← hQQ]; exact JT_x C hnt (Nat.le_of_ble_eq_true rfl) (Nat.le_of_ble_eq_true rfl) (fun c h => h) E n9 w9 hx) (fun _ => rfl) (fun p_1 h => ?_)
  have h : Ok _ _ := h
  change J X K 3 False QQ 3 18 2017 (jw K p_1) 6 [(0, .ref (K.2.2 + 0)), (1, .int l1), (2, .int l2)] []
  refine J_aload_n (i := 0) (p := 0) C dX11_cut_6 rfl rfl rfl ?_
  refine Jc_getS (o2 := 13) (r2 := 13) C fp_RX11_35 rfl rfl rfl dX11_cut_7 rfl ?_
  refine J_aload_n (i := 0) (p := 0) C dX11_cut_10 rfl rfl rfl ?_
  refine Jc_getS (o2 := 1) (r2 := 1) C fp_RX11_10 rfl rfl rfl dX11_cut_11 rfl ?_
  refine Jc_getD C fp_RX11_104 rfl rfl dX11_cut_14 rfl ?_
  refine J_iload_n (i := 1) (p := 1) C dX11_cut_17 rfl rfl rfl ?_
  refine J_iload_n (i := 2) (p := 2) C dX11_cut_18 rfl rfl rfl ?_
  refine J_iload_n (i := 1) (p := 1) C dX11_cut_19 rfl rfl rfl ?_
  refine J_isub C dX11_cut_20 rfl ?_
  obtain ⟨g_2, h⟩ := Ok.ofgd h
  rw [jv_pos (r := fR p_1 1 0) (okr_spec g_2).1]
  refine Jc_cV (rest := []) (st9 := fun p_3 => []) C hR hX cv_RX11_153 rfl (Nat.le_of_ble_eq_true rfl) (k1_begin hl (okr_spec g_2).2 (Ok.ofbnd h)) rfl rfl (Nat.le_of_ble_eq_true rfl) (Nat.le_of_ble_eq_true rfl) (Nat.le_of_ble_eq_true rfl) ⟨(Nat.le_of_ble_eq_true rfl), (Nat.le_of_ble_eq_true rfl)⟩ dX11_cut_21 rfl (fun E n9 w9 hx => JT_n hx) (fun _ => rfl) (fun p_3 h => ?_)
  have h : Ok _ _ := h
  change J X K 3 False QQ 3 18 2017 (jw K p_3) 24 [(0, .ref (K.2.2 + 0)), (1, .int l1), (2, .int l2)] []
  refine J_aload_n (i := 0) (p := 0) C dX11_cut_24 rfl rfl rfl ?_
  refine Jc_getS (o2 := 13) (r2 := 13) C fp_RX11_35 rfl rfl rfl dX11_cut_25 rfl ?_
  refine J_iload_n (i := 1) (p := 1) C dX11_cut_28 rfl rfl rfl ?_
  refine J_iload_n (i := 2) (p := 2) C dX11_cut_29 rfl rfl rfl ?_
  refine J_iconst (v := 0) C (by decide) dX11_cut_30 rfl ?_
  refine Jc_cV (rest := []) (st9 := fun p_4 => []) C hR hX cv_RX11_156 rfl (Nat.le_of_ble_eq_true rfl) (k1_addPart hl  (Ok.ofbnd h)) rfl rfl (Nat.le_of_ble_eq_true rfl) (Nat.le_of_ble_eq_true rfl) (Nat.le_of_ble_eq_true rfl) ⟨(Nat.le_of_ble_eq_true rfl), (Nat.le_of_ble_eq_true rfl)⟩ dX11_cut_31 rfl (fun E n9 w9 hx => JT_n hx) (fun _ => rfl) (fun p_4 h => ?_)
  have h : Ok _ _ := h
  change J X K 3 False QQ 3 18 2017 (jw K p_4) 34 [(0, .ref (K.2.2 + 0)), (1, .int l1), (2, .int l2)] []
  refine J_aload_n (i := 0) (p := 0) C dX11_cut_34 rfl rfl rfl ?_
  refine Jc_cV (rest := []) (st9 := fun p_5 => [.int p_5.1]) C hR hX cv_RX11_134 rfl (Nat.le_of_ble_eq_true rfl) (k11_perform hl  (Ok.ofbnd h)) rfl rfl (Nat.le_of_ble_eq_true rfl) (Nat.le_of_ble_eq_true rfl) (Nat.le_of_ble_eq_true rfl) ⟨(Nat.le_of_ble_eq_true rfl), (Nat.le_of_ble_eq_true rfl)⟩ dX11_cut_35 rfl (fun E n9 w9 hx => JT_n hx) (fun _ => rfl) (fun p_5 h => ?_)
  have h : Ok _ _ := h
  change J X K 3 False QQ 3 18 2017 (jw K p_5.2) 38 [(0, .ref (K.2.2 + 0)), (1, .int l1), (2, .int l2)] [.int p_5.1]
  refine J_if_ne (t := 51) C dX11_cut_38 (by decide) rfl (fun c_6 => ?_) (fun c_6 => ?_)
  · have h := h.neg c_6
    refine J_aload_n (i := 0) (p := 0) C dX11_cut_51 rfl rfl rfl ?_
    refine Jc_getS (o2 := 10) (r2 := 10) C fp_RX11_28 rfl rfl rfl dX11_cut_52 rfl ?_
    refine J_aload_n (i := 0) (p := 0) C dX11_cut_55 rfl rfl rfl ?_
    refine Jc_getS (o2 := 13) (r2 := 13) C fp_RX11_35 rfl rfl rfl dX11_cut_56 rfl ?_
    refine Jc_getS (o2 := 5) (r2 := 18) C fp_RX11_159 rfl rfl rfl dX11_cut_59 rfl ?_
    refine Jc_getS (o2 := 1) (r2 := 19) C fp_RX11_130 rfl rfl rfl dX11_cut_62 rfl ?_
    refine J_iconst (v := 0) C (by decide) dX11_cut_65 rfl ?_
    refine J_aload_n (i := 0) (p := 0) C dX11_cut_66 rfl rfl rfl ?_
    refine Jc_getS (o2 := 13) (r2 := 13) C fp_RX11_35 rfl rfl rfl dX11_cut_67 rfl ?_
    refine Jc_getS (o2 := 5) (r2 := 18) C fp_RX11_159 rfl rfl rfl dX11_cut_70 rfl ?_
    refine Jc_getI C fp_RX11_89 rfl rfl dX11_cut_73 rfl ?_
    refine Jc_cV (rest := []) (st9 := fun p_7 => []) C hR hX cv_RX11_108 rfl (Nat.le_of_ble_eq_true rfl) (k2_takeLetters hl rfl (Ok.ofbnd h)) rfl rfl (Nat.le_of_ble_eq_true rfl) (Nat.le_of_ble_eq_true rfl) (Nat.le_of_ble_eq_true rfl) ⟨(Nat.le_of_ble_eq_true rfl), (Nat.le_of_ble_eq_true rfl)⟩ dX11_cut_76 rfl (fun E n9 w9 hx => JT_n hx) (fun _ => rfl) (fun p_7 h => ?_)
    have h : Ok _ _ := h
    change J X K 3 False QQ 3 18 2017 (jw K p_7) 79 [(0, .ref (K.2.2 + 0)), (1, .int l1), (2, .int l2)] []
    refine J_iload_n (i := 2) (p := 2) C dX11_cut_79 rfl rfl rfl ?_
    refine J_iload_n (i := 1) (p := 1) C dX11_cut_80 rfl rfl rfl ?_
    refine J_isub C dX11_cut_81 rfl ?_
    rw [← hQQ]
    exact J_iret C hret (Nat.le_of_ble_eq_true rfl) (Nat.le_of_ble_eq_true rfl) ⟨_, h.osome, rfl, rfl, rfl⟩ dX11_cut_82
  · have h := h.pos (Decidable.not_not.mp c_6)
    rw [← hQQ]
    exact J_throw (is := 138) (text := "refused") C hnt th_92 (by decide +kernel) dX11_cut_41 dX11_cut_44 dX11_cut_45 dX11_cut_47 dX11_cut_50 (by rw [hR]; exact (Nat.le_of_ble_eq_true rfl)) (by rw [hR]; exact (Nat.le_of_ble_eq_true rfl)) (by rw [hR]; exact (Nat.le_of_ble_eq_true rfl)) (by rw [hR]; exact (Nat.le_of_ble_eq_true rfl)) (Nat.le_of_ble_eq_true rfl) (Nat.le_of_ble_eq_true rfl) ⟨3, p_5.2, h.osome, rfl, rfl, rfl⟩
def f1_openPart_j36 (l1 : Int32) (σ_36 : Sto) : Option (Sto) :=
  some σ_36
def f1_openPart_j22 (l1 : Int32) (σ_22 : Sto) : Option (Sto) :=
  bnd (f1_addRange σ_22 l1 l1 (fI σ_22 18 1) (0 : Int32)) fun p_1 =>
  f1_openPart_j36 l1 p_1
def f1_openPart (σ : Sto) (l1 : Int32) : Option (Sto) :=
  if (fI σ 13 4) = 0 then
    f1_openPart_j22 l1 σ
  else
    gd (inb ((fI σ 13 4) - (1 : Int32)) 3000) <|
    if (aI σ 14 (Int32.toNatClampNeg ((fI σ 13 4) - (1 : Int32)))) = l1 then
      f1_openPart_j36 l1 σ
    else
      f1_openPart_j22 l1 σ
set_option maxHeartbeats 4000000 in
set_option maxRecDepth 100000 in
theorem k1_openPart {l : Launch} {K : JK} (hl : l.stackTraces = false) {σ : Sto} {l1 : Int32}  {Qf : Sto → Prop} (h : Ok (f1_openPart σ l1) Qf) : Con l K yX1_openPart (.code yX1_openPart cX1_openPart 2 none :: TB) 1 0 0 False [.ref (K.2.2 + 13), .int l1] 2017 (jw K σ) (PR Qf (fun p => none) (fun p => jw K p)) PN := by
  refine Con.enter (own := RX1) hl (by decide) rfl (Nat.le_of_ble_eq_true rfl) ?_
  intro X hX hR C hret hnt
  generalize hQQ : jQ X K 0 0 (PR Qf (fun p => none) (fun p => jw K p)) PN False = QQ
  change J X K 2 False QQ 0 0 2017 (jw K σ) 0 [(0, .ref (K.2.2 + 13)), (1, .int l1)] []
  have hj_36 : (∀ (σ_36 : Sto), Ok (f1_openPart_j36 l1 σ_36) Qf → J X K 2 False QQ 0 0 2017 (jw K σ_36) 36 [] []) := by
    intro σ_36 h
    unfold f1_openPart_j36 at h
    rw [← hQQ]
    exact J_vret C hret (Nat.le_of_ble_eq_true rfl) (Nat.le_of_ble_eq_true rfl) ⟨_, h.osome, rfl, rfl, rfl⟩ dX1_openPart_36
  have hj_22 : (∀ (σ_22 : Sto), Ok (f1_openPart_j22 l1 σ_22) Qf → J X K 2 False QQ 0 0 2017 (jw K σ_22) 22 [(0, .ref (K.2.2 + 13)), (1, .int l1)] []) := by
    intro σ_22 h
    unfold f1_openPart_j22 at h
    refine J_aload_n (i := 0) (p := 0) C dX1_openPart_22 rfl rfl rfl ?_
    refine J_iload_n (i := 1) (p := 1) C dX1_openPart_23 rfl rfl rfl ?_
    refine J_iload_n (i := 1) (p := 1) C dX1_openPart_24 rfl rfl rfl ?_
    refine J_aload_n (i := 0) (p := 0) C dX1_openPart_25 rfl rfl rfl ?_
    refine Jc_getS (o2 := 5) (r2 := 18) C fp_RX1_33 rfl rfl rfl dX1_openPart_26 rfl ?_
    refine Jc_getI C fp_RX1_65 rfl rfl dX1_openPart_29 rfl ?_
    refine J_iconst (v := 0) C (by decide) dX1_openPart_32 rfl ?_
    refine Jc_cV (rest := []) (st9 := fun p_1 => []) C hR hX cv_RX1_72 rfl (Nat.le_of_ble_eq_true rfl) (k1_addRange hl  (Ok.ofbnd h)) rfl rfl (Nat.le_of_ble_eq_true rfl) (Nat.le_of_ble_eq_true rfl) (Nat.le_of_ble_eq_true rfl) ⟨(Nat.le_of_ble_eq_true rfl), (Nat.le_of_ble_eq_true rfl)⟩ dX1_openPart_33 rfl (fun E n9 w9 hx => JT_n hx) (fun _ => rfl) (fun p_1 h => ?_)
    have h : Ok _ _ := h
    change J X K 2 False QQ 0 0 2017 (jw K p_1) 36 [(0, .ref (K.2.2 + 13)), (1, .int l1)] []
    refine J.sub [] rfl ?_
    exact hj_36 p_1 h
  unfold f1_openPart at h
  refine J_aload_n (i := 0) (p := 0) C dX1_openPart_0 rfl rfl rfl ?_
  refine Jc_getI C fp_RX1_24 rfl rfl dX1_openPart_1 rfl ?_
  refine J_if_eq (t := 22) C dX1_openPart_4 (by decide) rfl (fun c_2 => ?_) (fun c_2 => ?_)
  · have h := h.pos c_2
    exact hj_22 σ h
  · have h := h.neg c_2
    refine J_aload_n (i := 0) (p := 0) C dX1_openPart_7 rfl rfl rfl ?_
    refine Jc_getS (o2 := 1) (r2 := 14) C fp_RX1_9 rfl rfl rfl dX1_openPart_8 rfl ?_
    refine J_aload_n (i := 0) (p := 0) C dX1_openPart_11 rfl rfl rfl ?_
    refine Jc_getI C fp_RX1_24 rfl rfl dX1_openPart_12 rfl ?_
    refine J_iconst (v := 1) C (by decide) dX1_openPart_15 rfl ?_
    refine J_isub C dX1_openPart_16 rfl ?_
    obtain ⟨g_3, h⟩ := Ok.ofgd h
    refine Jc_iald C rfl rfl g_3 dX1_openPart_17 rfl ?_
    refine J_iload_n (i := 1) (p := 1) C dX1_openPart_18 rfl rfl rfl ?_
    refine J_icmp_eq (t := 36) C dX1_openPart_19 (by decide) rfl (fun c_4 => ?_) (fun c_4 => ?_)
    · have h := h.pos c_4
      refine J.sub [] rfl ?_
      exact hj_36 σ h
    · have h := h.neg c_4
      exact hj_22 σ h
def f1_putLetter_j18 (l1 : Int32) (σ_18 : Sto) : Option (Sto) :=
  stp (uI σ_18 13 6 (1 : Int32)) fun σx_1 =>
  some σx_1
def f1_putLetter (σ : Sto) (l1 : Int32) : Option (Sto) :=
  if (fI σ 13 4) = 0 then
    f1_putLetter_j18 l1 σ
  else
    bnd (f6_add σ 18 l1) fun p_2 =>
    if p_2.1 = 0 then
      f1_putLetter_j18 l1 p_2.2
    else
      gd (inb ((fI p_2.2 13 4) - (1 : Int32)) 3000) <|
      gd (inb ((fI p_2.2 13 4) - (1 : Int32)) 3000) <|
      stp (uA p_2.2 17 (Int32.toNatClampNeg ((fI p_2.2 13 4) - (1 : Int32))) ((aI p_2.2 17 (Int32.toNatClampNeg ((fI p_2.2 13 4) - (1 : Int32)))) + (1 : Int32))) fun σx_2 =>
      some σx_2
set_option maxHeartbeats 4000000 in
set_option maxRecDepth 100000 in
theorem k1_putLetter {l : Launch} {K : JK} (hl : l.stackTraces = false) {σ : Sto} {l1 : Int32}  {Qf : Sto → Prop} (h : Ok (f1_putLetter σ l1) Qf) : Con l K yX1_putLetter (.code yX1_putLetter cX1_putLetter 2 none :: TB) 1 0 0 False [.ref (K.2.2 + 13), .int l1] 2017 (jw K σ) (PR Qf (fun p => none) (fun p => jw K p)) PN := by
  refine Con.enter (own := RX1) hl (by decide) rfl (Nat.le_of_ble_eq_true rfl) ?_
  intro X hX hR C hret hnt
  generalize hQQ : jQ X K 0 0 (PR Qf (fun p => none) (fun p => jw K p)) PN False = QQ
  change J X K 2 False QQ 0 0 2017 (jw K σ) 0 [(0, .ref (K.2.2 + 13)), (1, .int l1)] []
  have hj_18 : (∀ (σ_18 : Sto), Ok (f1_putLetter_j18 l1 σ_18) Qf → J X K 2 False QQ 0 0 2017 (jw K σ_18) 18 [(0, .ref (K.2.2 + 13))] []) := by
    intro σ_18 h
    unfold f1_putLetter_j18 at h
    refine J_aload_n (i := 0) (p := 0) C dX1_putLetter_18 rfl rfl rfl ?_
    refine J_iconst (v := 1) C (by decide) dX1_putLetter_19 rfl ?_
    obtain ⟨σx_1, e_σx_1, h⟩ := Ok.nm h
    refine Jc_putZ C id fp_RX1_37 fw_1_6 rfl rfl rfl rfl e_σx_1 dX1_putLetter_20 rfl ?_
    rw [← hQQ]
    exact J_vret C hret (Nat.le_of_ble_eq_true rfl) (Nat.le_of_ble_eq_true rfl) ⟨_, h.osome, rfl, rfl, rfl⟩ dX1_putLetter_23
  unfold f1_putLetter at h
  refine J_aload_n (i := 0) (p := 0) C dX1_putLetter_0 rfl rfl rfl ?_
  refine Jc_getI C fp_RX1_24 rfl rfl dX1_putLetter_1 rfl ?_
  refine J_if_eq (t := 18) C dX1_putLetter_4 (by decide) rfl (fun c_1 => ?_) (fun c_1 => ?_)
  · have h := h.pos c_1
    refine J.sub [0] rfl ?_
    exact hj_18 σ h
  · have h := h.neg c_1
    refine J_aload_n (i := 0) (p := 0) C dX1_putLetter_7 rfl rfl rfl ?_
    refine Jc_getS (o2 := 5) (r2 := 18) C fp_RX1_33 rfl rfl rfl dX1_putLetter_8 rfl ?_
    refine J_iload_n (i := 1) (p := 1) C dX1_putLetter_11 rfl rfl rfl ?_
    refine Jc_cV (rest := []) (st9 := fun p_2 => [.int p_2.1]) C hR hX cv_RX1_68 rfl (Nat.le_of_ble_eq_true rfl) (k6_add hl rfl (Ok.ofbnd h)) rfl rfl (Nat.le_of_ble_eq_true rfl) (Nat.le_of_ble_eq_true rfl) (Nat.le_of_ble_eq_true rfl) ⟨(Nat.le_of_ble_eq_true rfl), (Nat.le_of_ble_eq_true rfl)⟩ dX1_putLetter_12 rfl (fun E n9 w9 hx => JT_n hx) (fun _ => rfl) (fun p_2 h => ?_)
    have h : Ok _ _ := h
    change J X K 2 False QQ 0 0 2017 (jw K p_2.2) 15 [(0, .ref (K.2.2 + 13)), (1, .int l1)] [.int p_2.1]
    refine J_if_ne (t := 24) C dX1_putLetter_15 (by decide) rfl (fun c_3 => ?_) (fun c_3 => ?_)
    · have h := h.neg c_3
      refine J_aload_n (i := 0) (p := 0) C dX1_putLetter_24 rfl rfl rfl ?_
      refine Jc_getS (o2 := 4) (r2 := 17) C fp_RX1_21 rfl rfl rfl dX1_putLetter_25 rfl ?_
      refine J_aload_n (i := 0) (p := 0) C dX1_putLetter_28 rfl rfl rfl ?_
      refine Jc_getI C fp_RX1_24 rfl rfl dX1_putLetter_29 rfl ?_
      refine J_iconst (v := 1) C (by decide) dX1_putLetter_32 rfl ?_
      refine J_isub C dX1_putLetter_33 rfl ?_
      refine J_dup2 C rfl rfl dX1_putLetter_34 rfl ?_
      obtain ⟨g_4, h⟩ := Ok.ofgd h
      refine Jc_iald C rfl rfl g_4 dX1_putLetter_35 rfl ?_
      refine J_iconst (v := 1) C (by decide) dX1_putLetter_36 rfl ?_
      refine J_iadd C dX1_putLetter_37 rfl ?_
      obtain ⟨g_5, h⟩ := Ok.ofgd h
      obtain ⟨σx_2, e_σx_2, h⟩ := Ok.nm h
      refine Jc_iast C id rfl rfl g_5 e_σx_2 dX1_putLetter_38 rfl ?_
      rw [← hQQ]
      exact J_vret C hret (Nat.le_of_ble_eq_true rfl) (Nat.le_of_ble_eq_true rfl) ⟨_, h.osome, rfl, rfl, rfl⟩ dX1_putLetter_39
    · have h := h.pos (Decidable.not_not.mp c_3)
      refine J.sub [0] rfl ?_
      exact hj_18 p_2.2 h
def f2_putRow_j76 (l2 : Int32) (l3 : Int32) (σ_76 : Sto) : Option (Sto) :=
  some σ_76
def f2_putRow_b36 (l2 : Int32) (l3 : Int32) (σ_36 : Sto) (l4_36 : Int32) : Option ((Sto × Int32) ⊕ Sto) :=
  if ((l2 + (1 : Int32)) * (fI σ_36 10 3)) ≤ l4_36 then
    some (.inr σ_36)
  else
    if (fI σ_36 13 6) = 0 then
      gd (inb l4_36 12000) <|
      bnd (f1_putLetter σ_36 (aI σ_36 12 (Int32.toNatClampNeg l4_36))) fun p_4 =>
      stp (l4_36 + (1 : Int32)) fun x4_1 =>
      some (.inl (p_4, x4_1))
    else
      some (.inr σ_36)
def f2_putRow_j36 (l2 : Int32) (l3 : Int32) (σ_36 : Sto) (l4_36 : Int32) : Option (Sto) :=
  bnd (loopF (fun s_36 => f2_putRow_b36 l2 l3 s_36.1 s_36.2) FU (σ_36, l4_36)) fun r_36 =>
    f2_putRow_j76 l2 l3 r_36
def f2_putRow_j28 (l2 : Int32) (l3 : Int32) (σ_28 : Sto) : Option (Sto) :=
  stp (l2 * (fI σ_28 10 3)) fun x4_2 =>
  f2_putRow_j36 l2 l3 σ_28 x4_2
def f2_putRow_b3 (l2 : Int32) (l3 : Int32) (σ_3 : Sto) (l4_3 : Int32) : Option ((Sto × Int32) ⊕ Sto) :=
  if l3 ≤ l4_3 then
    some (.inr σ_3)
  else
    if (fI σ_3 13 6) = 0 then
      bnd (f1_putLetter σ_3 (32 : Int32)) fun p_7 =>
      stp (l4_3 + (1 : Int32)) fun x4_3 =>
      some (.inl (p_7, x4_3))
    else
      some (.inr σ_3)
def f2_putRow_j3 (l2 : Int32) (l3 : Int32) (σ_3 : Sto) (l4_3 : Int32) : Option (Sto) :=
  bnd (loopF (fun s_3 => f2_putRow_b3 l2 l3 s_3.1 s_3.2) FU (σ_3, l4_3)) fun r_3 =>
    f2_putRow_j28 l2 l3 r_3
def f2_putRow (σ : Sto) (l2 : Int32) (l3 : Int32) : Option (Sto) :=
  stp (0 : Int32) fun x4_4 =>
  f2_putRow_j3 l2 l3 σ x4_4
set_option maxHeartbeats 4000000 in
set_option maxRecDepth 100000 in
theorem k2_putRow {l : Launch} {K : JK} (hl : l.stackTraces = false) {σ : Sto} {l2 : Int32} {l3 : Int32}  {Qf : Sto → Prop} (h : Ok (f2_putRow σ l2 l3) Qf) : Con l K yX2_putRow (.code yX2_putRow cX2_putRow 5 none :: TB) 2 0 0 False [.ref (K.2.2 + 10), .ref (K.2.2 + 13), .int l2, .int l3] 2017 (jw K σ) (PR Qf (fun p => none) (fun p => jw K p)) PN := by
  refine Con.enter (own := RX2) hl (by decide) rfl (Nat.le_of_ble_eq_true rfl) ?_
  intro X hX hR C hret hnt
  generalize hQQ : jQ X K 0 0 (PR Qf (fun p => none) (fun p => jw K p)) PN False = QQ
  change J X K 5 False QQ 0 0 2017 (jw K σ) 0 [(0, .ref (K.2.2 + 10)), (1, .ref (K.2.2 + 13)), (2, .int l2), (3, .int l3)] []
  have hj_76 : (∀ (σ_76 : Sto), Ok (f2_putRow_j76 l2 l3 σ_76) Qf → J X K 5 False QQ 0 0 2017 (jw K σ_76) 76 [] []) := by
    intro σ_76 h
    unfold f2_putRow_j76 at h
    rw [← hQQ]
    exact J_vret C hret (Nat.le_of_ble_eq_true rfl) (Nat.le_of_ble_eq_true rfl) ⟨_, h.osome, rfl, rfl, rfl⟩ dX2_putRow_76
  have hj_36 : (∀ (σ_36 : Sto) (l4_36 : Int32), Ok (f2_putRow_j36 l2 l3 σ_36 l4_36) Qf → J X K 5 False QQ 0 0 2017 (jw K σ_36) 36 [(0, .ref (K.2.2 + 10)), (1, .ref (K.2.2 + 13)), (2, .int l2), (4, .int l4_36)] []) := by
    intro σ_36 l4_36 h
    unfold f2_putRow_j36 at h
    refine loop_gen (S := Sto × Int32) (P := fun s_36 => J X K 5 False QQ 0 0 2017 (jw K s_36.1) 36 [(0, .ref (K.2.2 + 10)), (1, .ref (K.2.2 + 13)), (2, .int l2), (4, .int s_36.2)] []) ?_ FU (σ_36, l4_36) (Ok.ofbnd h)
    intro B_36 hB_36 hE_36 s_36 h
    obtain ⟨σ_36, l4_36⟩ := s_36
    have h : Ok (f2_putRow_b36 l2 l3 σ_36 l4_36) B_36 := h
    change J X K 5 False QQ 0 0 2017 (jw K σ_36) 36 [(0, .ref (K.2.2 + 10)), (1, .ref (K.2.2 + 13)), (2, .int l2), (4, .int l4_36)] []
    unfold f2_putRow_b36 at h
    refine J_iload (i := 4) (p := 3) C dX2_putRow_36 rfl rfl ?_
    refine J_iload_n (i := 2) (p := 2) C dX2_putRow_38 rfl rfl rfl ?_
    refine J_iconst (v := 1) C (by decide) dX2_putRow_39 rfl ?_
    refine J_iadd C dX2_putRow_40 rfl ?_
    refine J_aload_n (i := 0) (p := 0) C dX2_putRow_41 rfl rfl rfl ?_
    refine Jc_getI C fp_RX2_28 rfl rfl dX2_putRow_42 rfl ?_
    refine J_imul C dX2_putRow_45 rfl ?_
    refine J_icmp_ge (t := 76) C dX2_putRow_46 (by decide) rfl (fun c_1 => ?_) (fun c_1 => ?_)
    · have h := h.pos c_1
      have h := hE_36 σ_36 h.osome
      try dsimp only at h
      refine J.sub [] rfl ?_
      exact hj_76 σ_36 h
    · have h := h.neg c_1
      refine J_aload_n (i := 1) (p := 1) C dX2_putRow_49 rfl rfl rfl ?_
      refine Jc_getI C fp_RX2_67 rfl rfl dX2_putRow_50 rfl ?_
      refine J_if_ne (t := 76) C dX2_putRow_53 (by decide) rfl (fun c_2 => ?_) (fun c_2 => ?_)
      · have h := h.neg c_2
        have h := hE_36 σ_36 h.osome
        try dsimp only at h
        refine J.sub [] rfl ?_
        exact hj_76 σ_36 h
      · have h := h.pos (Decidable.not_not.mp c_2)
        refine J_aload_n (i := 1) (p := 1) C dX2_putRow_56 rfl rfl rfl ?_
        refine J_aload_n (i := 0) (p := 0) C dX2_putRow_57 rfl rfl rfl ?_
        refine Jc_getS (o2 := 1) (r2 := 11) C fp_RX2_14 rfl rfl rfl dX2_putRow_58 rfl ?_
        refine Jc_getS (o2 := 1) (r2 := 12) C fp_RX2_61 rfl rfl rfl dX2_putRow_61 rfl ?_
        refine J_iload (i := 4) (p := 3) C dX2_putRow_64 rfl rfl ?_
        obtain ⟨g_3, h⟩ := Ok.ofgd h
        refine Jc_bald C rfl rfl g_3 dX2_putRow_66 rfl ?_
        refine Jc_cV (rest := []) (st9 := fun p_4 => []) C hR hX cv_RX2_84 rfl (Nat.le_of_ble_eq_true rfl) (k1_putLetter hl  (Ok.ofbnd h)) rfl rfl (Nat.le_of_ble_eq_true rfl) (Nat.le_of_ble_eq_true rfl) (Nat.le_of_ble_eq_true rfl) ⟨(Nat.le_of_ble_eq_true rfl), (Nat.le_of_ble_eq_true rfl)⟩ dX2_putRow_67 rfl (fun E n9 w9 hx => JT_n hx) (fun _ => rfl) (fun p_4 h => ?_)
        have h : Ok _ _ := h
        change J X K 5 False QQ 0 0 2017 (jw K p_4) 70 [(0, .ref (K.2.2 + 10)), (1, .ref (K.2.2 + 13)), (2, .int l2), (4, .int l4_36)] []
        obtain ⟨x4_1, e_x4_1, h⟩ := Ok.nm h
        refine J_iincE (i := 4) (p := 3) (lv' := [(4, .int x4_1), (0, .ref (K.2.2 + 10)), (1, .ref (K.2.2 + 13)), (2, .int l2)]) C e_x4_1 dX2_putRow_70 rfl (by decide) (Nat.le_of_ble_eq_true rfl) rfl rfl ?_
        refine J_goto (t := 36) C dX2_putRow_73 (by decide) ?_
        refine J.sub [1, 2, 3, 0] rfl ?_
        exact hB_36 (p_4, x4_1) h.osome
  have hj_28 : (∀ (σ_28 : Sto), Ok (f2_putRow_j28 l2 l3 σ_28) Qf → J X K 5 False QQ 0 0 2017 (jw K σ_28) 28 [(0, .ref (K.2.2 + 10)), (1, .ref (K.2.2 + 13)), (2, .int l2)] []) := by
    intro σ_28 h
    unfold f2_putRow_j28 at h
    refine J_iload_n (i := 2) (p := 2) C dX2_putRow_28 rfl rfl rfl ?_
    refine J_aload_n (i := 0) (p := 0) C dX2_putRow_29 rfl rfl rfl ?_
    refine Jc_getI C fp_RX2_28 rfl rfl dX2_putRow_30 rfl ?_
    refine J_imul C dX2_putRow_33 rfl ?_
    obtain ⟨x4_2, e_x4_2, h⟩ := Ok.nm h
    refine J_istoreE (i := 4) (lv' := [(4, .int x4_2), (0, .ref (K.2.2 + 10)), (1, .ref (K.2.2 + 13)), (2, .int l2)]) C e_x4_2 dX2_putRow_34 (Nat.le_of_ble_eq_true rfl) rfl rfl ?_
    refine J.sub [1, 2, 3, 0] rfl ?_
    exact hj_36 σ_28 x4_2 h
  have hj_3 : (∀ (σ_3 : Sto) (l4_3 : Int32), Ok (f2_putRow_j3 l2 l3 σ_3 l4_3) Qf → J X K 5 False QQ 0 0 2017 (jw K σ_3) 3 [(0, .ref (K.2.2 + 10)), (1, .ref (K.2.2 + 13)), (2, .int l2), (3, .int l3), (4, .int l4_3)] []) := by
    intro σ_3 l4_3 h
    unfold f2_putRow_j3 at h
    refine loop_gen (S := Sto × Int32) (P := fun s_3 => J X K 5 False QQ 0 0 2017 (jw K s_3.1) 3 [(0, .ref (K.2.2 + 10)), (1, .ref (K.2.2 + 13)), (2, .int l2), (3, .int l3), (4, .int s_3.2)] []) ?_ FU (σ_3, l4_3) (Ok.ofbnd h)
    intro B_3 hB_3 hE_3 s_3 h
    obtain ⟨σ_3, l4_3⟩ := s_3
    have h : Ok (f2_putRow_b3 l2 l3 σ_3 l4_3) B_3 := h
    change J X K 5 False QQ 0 0 2017 (jw K σ_3) 3 [(0, .ref (K.2.2 + 10)), (1, .ref (K.2.2 + 13)), (2, .int l2), (3, .int l3), (4, .int l4_3)] []
    unfold f2_putRow_b3 at h
    refine J_iload (i := 4) (p := 4) C dX2_putRow_3 rfl rfl ?_
    refine J_iload_n (i := 3) (p := 3) C dX2_putRow_5 rfl rfl rfl ?_
    refine J_icmp_ge (t := 28) C dX2_putRow_6 (by decide) rfl (fun c_5 => ?_) (fun c_5 => ?_)
    · have h := h.pos c_5
      have h := hE_3 σ_3 h.osome
      try dsimp only at h
      refine J.sub [0, 1, 2] rfl ?_
      exact hj_28 σ_3 h
    · have h := h.neg c_5
      refine J_aload_n (i := 1) (p := 1) C dX2_putRow_9 rfl rfl rfl ?_
      refine Jc_getI C fp_RX2_67 rfl rfl dX2_putRow_10 rfl ?_
      refine J_if_ne (t := 28) C dX2_putRow_13 (by decide) rfl (fun c_6 => ?_) (fun c_6 => ?_)
      · have h := h.neg c_6
        have h := hE_3 σ_3 h.osome
        try dsimp only at h
        refine J.sub [0, 1, 2] rfl ?_
        exact hj_28 σ_3 h
      · have h := h.pos (Decidable.not_not.mp c_6)
        refine J_aload_n (i := 1) (p := 1) C dX2_putRow_16 rfl rfl rfl ?_
        refine J_bipush (v := 32) C (by decide) dX2_putRow_17 rfl ?_
        refine Jc_cV (rest := []) (st9 := fun p_7 => []) C hR hX cv_RX2_84 rfl (Nat.le_of_ble_eq_true rfl) (k1_putLetter hl  (Ok.ofbnd h)) rfl rfl (Nat.le_of_ble_eq_true rfl) (Nat.le_of_ble_eq_true rfl) (Nat.le_of_ble_eq_true rfl) ⟨(Nat.le_of_ble_eq_true rfl), (Nat.le_of_ble_eq_true rfl)⟩ dX2_putRow_19 rfl (fun E n9 w9 hx => JT_n hx) (fun _ => rfl) (fun p_7 h => ?_)
        have h : Ok _ _ := h
        change J X K 5 False QQ 0 0 2017 (jw K p_7) 22 [(0, .ref (K.2.2 + 10)), (1, .ref (K.2.2 + 13)), (2, .int l2), (3, .int l3), (4, .int l4_3)] []
        obtain ⟨x4_3, e_x4_3, h⟩ := Ok.nm h
        refine J_iincE (i := 4) (p := 4) (lv' := [(4, .int x4_3), (0, .ref (K.2.2 + 10)), (1, .ref (K.2.2 + 13)), (2, .int l2), (3, .int l3)]) C e_x4_3 dX2_putRow_22 rfl (by decide) (Nat.le_of_ble_eq_true rfl) rfl rfl ?_
        refine J_goto (t := 3) C dX2_putRow_25 (by decide) ?_
        refine J.sub [1, 2, 3, 4, 0] rfl ?_
        exact hB_3 (p_7, x4_3) h.osome
  unfold f2_putRow at h
  refine J_iconst (v := 0) C (by decide) dX2_putRow_0 rfl ?_
  obtain ⟨x4_4, e_x4_4, h⟩ := Ok.nm h
  refine J_istoreE (i := 4) (lv' := [(4, .int x4_4), (0, .ref (K.2.2 + 10)), (1, .ref (K.2.2 + 13)), (2, .int l2), (3, .int l3)]) C e_x4_4 dX2_putRow_1 (Nat.le_of_ble_eq_true rfl) rfl rfl ?_
  refine J.sub [1, 2, 3, 4, 0] rfl ?_
  exact hj_3 σ x4_4 h
def f2_planBlock_j157 (a1 : Nat) (σ_157 : Sto) : Option (Sto) :=
  some σ_157
def f2_planBlock_j142 (a1 : Nat) (l3_42 : Int32) (l4_42 : Int32) (σ_142 : Sto) (l5_142 : Int32) (l6_142 : Int32) : Option ((Sto × Int32) ⊕ Sto) :=
  bnd (f2_putRow σ_142 l5_142 l6_142) fun p_1 =>
  stp (l5_142 + (1 : Int32)) fun x5_1 =>
  some (.inl (p_1, x5_1))
def f2_planBlock_b42 (a1 : Nat) (σ_42 : Sto) (l3_42 : Int32) (l4_42 : Int32) (l5_42 : Int32) : Option ((Sto × Int32) ⊕ Sto) :=
  if (fI σ_42 10 2) ≤ l5_42 then
    some (.inr σ_42)
  else
    if (fI σ_42 13 6) = 0 then
      stp l4_42 fun x6_2 =>
      if (fI σ_42 a1 4) ≤ (l3_42 + l5_42) then
        bnd (f1_openPart σ_42 (fI σ_42 a1 1)) fun p_5 =>
        bnd (f1_putLetter p_5 (10 : Int32)) fun p_6 =>
        f2_planBlock_j142 a1 l3_42 l4_42 p_6 l5_42 x6_2
      else
        bnd (f8_endOf σ_42 a1 (l3_42 + l5_42)) fun p_7 =>
        stp p_7 fun x7_3 =>
        gd (okr (fR σ_42 a1 2) 12) <|
        gd (inb (l3_42 + l5_42) (ln ((fR σ_42 a1 2) - 1))) <|
        stp (imin x7_3 ((aI σ_42 ((fR σ_42 a1 2) - 1) (Int32.toNatClampNeg (l3_42 + l5_42))) + l4_42)) fun x8_4 =>
        gd (okr (fR σ_42 a1 2) 12) <|
        gd (inb (l3_42 + l5_42) (ln ((fR σ_42 a1 2) - 1))) <|
        stp (l4_42 - (x8_4 - (aI σ_42 ((fR σ_42 a1 2) - 1) (Int32.toNatClampNeg (l3_42 + l5_42))))) fun x6_5 =>
        bnd (f1_openPart σ_42 x8_4) fun p_12 =>
        f2_planBlock_j142 a1 l3_42 l4_42 p_12 l5_42 x6_5
    else
      some (.inr σ_42)
def f2_planBlock_j42 (a1 : Nat) (σ_42 : Sto) (l3_42 : Int32) (l4_42 : Int32) (l5_42 : Int32) : Option (Sto) :=
  bnd (loopF (fun s_42 => f2_planBlock_b42 a1 s_42.1 l3_42 l4_42 s_42.2) FU (σ_42, l5_42)) fun r_42 =>
    f2_planBlock_j157 a1 r_42
def f2_planBlock (σ : Sto) (a1 : Nat) : Option (Sto) :=
  gd (inb (0 : Int32) 8) <|
  bnd (f8_lineWith σ a1 (aI σ (a1 + 4) (Int32.toNatClampNeg (0 : Int32)))) fun p_14 =>
  stp p_14 fun x3_6 =>
  gd (inb (0 : Int32) 8) <|
  gd (okr (fR σ a1 2) 12) <|
  gd (inb x3_6 (ln ((fR σ a1 2) - 1))) <|
  stp ((aI σ (a1 + 4) (Int32.toNatClampNeg (0 : Int32))) - (aI σ ((fR σ a1 2) - 1) (Int32.toNatClampNeg x3_6))) fun x4_7 =>
  bnd (f1_begin σ 12 (0 : Int32) (0 : Int32)) fun p_18 =>
  stp (0 : Int32) fun x5_8 =>
  f2_planBlock_j42 a1 p_18 x3_6 x4_7 x5_8
set_option maxHeartbeats 4000000 in
set_option maxRecDepth 100000 in
theorem k2_planBlock {l : Launch} {K : JK} (hl : l.stackTraces = false) {σ : Sto} {a1 : Nat} (h_a1 : kc a1 = 8) {Qf : Sto → Prop} (h : Ok (f2_planBlock σ a1) Qf) : Con l K yX2_planBlock (.code yX2_planBlock cX2_planBlock 9 none :: TB) 3 0 0 False [.ref (K.2.2 + 10), .ref (K.2.2 + a1), .ref (K.2.2 + 13)] 2017 (jw K σ) (PR Qf (fun p => none) (fun p => jw K p)) PN := by
  refine Con.enter (own := RX2) hl (by decide) rfl (Nat.le_of_ble_eq_true rfl) ?_
  intro X hX hR C hret hnt
  generalize hQQ : jQ X K 0 0 (PR Qf (fun p => none) (fun p => jw K p)) PN False = QQ
  change J X K 9 False QQ 0 0 2017 (jw K σ) 0 [(0, .ref (K.2.2 + 10)), (1, .ref (K.2.2 + a1)), (2, .ref (K.2.2 + 13))] []
  have hj_157 : (∀ (σ_157 : Sto), Ok (f2_planBlock_j157 a1 σ_157) Qf → J X K 9 False QQ 0 0 2017 (jw K σ_157) 157 [] []) := by
    intro σ_157 h
    unfold f2_planBlock_j157 at h
    rw [← hQQ]
    exact J_vret C hret (Nat.le_of_ble_eq_true rfl) (Nat.le_of_ble_eq_true rfl) ⟨_, h.osome, rfl, rfl, rfl⟩ dX2_planBlock_157
  have hj_42 : (∀ (σ_42 : Sto) (l3_42 : Int32) (l4_42 : Int32) (l5_42 : Int32), Ok (f2_planBlock_j42 a1 σ_42 l3_42 l4_42 l5_42) Qf → J X K 9 False QQ 0 0 2017 (jw K σ_42) 42 [(0, .ref (K.2.2 + 10)), (1, .ref (K.2.2 + a1)), (2, .ref (K.2.2 + 13)), (3, .int l3_42), (4, .int l4_42), (5, .int l5_42)] []) := by
    intro σ_42 l3_42 l4_42 l5_42 h
    unfold f2_planBlock_j42 at h
    refine loop_gen (S := Sto × Int32) (P := fun s_42 => J X K 9 False QQ 0 0 2017 (jw K s_42.1) 42 [(0, .ref (K.2.2 + 10)), (1, .ref (K.2.2 + a1)), (2, .ref (K.2.2 + 13)), (3, .int l3_42), (4, .int l4_42), (5, .int s_42.2)] []) ?_ FU (σ_42, l5_42) (Ok.ofbnd h)
    intro B_42 hB_42 hE_42 s_42 h
    obtain ⟨σ_42, l5_42⟩ := s_42
    have h : Ok (f2_planBlock_b42 a1 σ_42 l3_42 l4_42 l5_42) B_42 := h
    change J X K 9 False QQ 0 0 2017 (jw K σ_42) 42 [(0, .ref (K.2.2 + 10)), (1, .ref (K.2.2 + a1)), (2, .ref (K.2.2 + 13)), (3, .int l3_42), (4, .int l4_42), (5, .int l5_42)] []
    have hj_142 : (∀ (σ_142 : Sto) (l5_142 : Int32) (l6_142 : Int32), Ok (f2_planBlock_j142 a1 l3_42 l4_42 σ_142 l5_142 l6_142) B_42 → J X K 9 False QQ 0 0 2017 (jw K σ_142) 142 [(0, .ref (K.2.2 + 10)), (1, .ref (K.2.2 + a1)), (2, .ref (K.2.2 + 13)), (3, .int l3_42), (4, .int l4_42), (5, .int l5_142), (6, .int l6_142)] []) := by
      intro σ_142 l5_142 l6_142 h
      unfold f2_planBlock_j142 at h
      refine J_aload_n (i := 0) (p := 0) C dX2_planBlock_142 rfl rfl rfl ?_
      refine J_aload_n (i := 2) (p := 2) C dX2_planBlock_143 rfl rfl rfl ?_
      refine J_iload (i := 5) (p := 5) C dX2_planBlock_144 rfl rfl ?_
      refine J_iload (i := 6) (p := 6) C dX2_planBlock_146 rfl rfl ?_
      refine Jc_cV (rest := []) (st9 := fun p_1 => []) C hR hX cv_RX2_87 rfl (Nat.le_of_ble_eq_true rfl) (k2_putRow hl  (Ok.ofbnd h)) rfl rfl (Nat.le_of_ble_eq_true rfl) (Nat.le_of_ble_eq_true rfl) (Nat.le_of_ble_eq_true rfl) ⟨(Nat.le_of_ble_eq_true rfl), (Nat.le_of_ble_eq_true rfl)⟩ dX2_planBlock_148 rfl (fun E n9 w9 hx => JT_n hx) (fun _ => rfl) (fun p_1 h => ?_)
      have h : Ok _ _ := h
      change J X K 9 False QQ 0 0 2017 (jw K p_1) 151 [(0, .ref (K.2.2 + 10)), (1, .ref (K.2.2 + a1)), (2, .ref (K.2.2 + 13)), (3, .int l3_42), (4, .int l4_42), (5, .int l5_142), (6, .int l6_142)] []
      obtain ⟨x5_1, e_x5_1, h⟩ := Ok.nm h
      refine J_iincE (i := 5) (p := 5) (lv' := [(5, .int x5_1), (0, .ref (K.2.2 + 10)), (1, .ref (K.2.2 + a1)), (2, .ref (K.2.2 + 13)), (3, .int l3_42), (4, .int l4_42), (6, .int l6_142)]) C e_x5_1 dX2_planBlock_151 rfl (by decide) (Nat.le_of_ble_eq_true rfl) rfl rfl ?_
      refine J_goto (t := 42) C dX2_planBlock_154 (by decide) ?_
      refine J.sub [1, 2, 3, 4, 5, 0] rfl ?_
      exact hB_42 (p_1, x5_1) h.osome
    unfold f2_planBlock_b42 at h
    refine J_iload (i := 5) (p := 5) C dX2_planBlock_42 rfl rfl ?_
    refine J_aload_n (i := 0) (p := 0) C dX2_planBlock_44 rfl rfl rfl ?_
    refine Jc_getI C fp_RX2_24 rfl rfl dX2_planBlock_45 rfl ?_
    refine J_icmp_ge (t := 157) C dX2_planBlock_48 (by decide) rfl (fun c_2 => ?_) (fun c_2 => ?_)
    · have h := h.pos c_2
      have h := hE_42 σ_42 h.osome
      try dsimp only at h
      refine J.sub [] rfl ?_
      exact hj_157 σ_42 h
    · have h := h.neg c_2
      refine J_aload_n (i := 2) (p := 2) C dX2_planBlock_51 rfl rfl rfl ?_
      refine Jc_getI C fp_RX2_67 rfl rfl dX2_planBlock_52 rfl ?_
      refine J_if_ne (t := 157) C dX2_planBlock_55 (by decide) rfl (fun c_3 => ?_) (fun c_3 => ?_)
      · have h := h.neg c_3
        have h := hE_42 σ_42 h.osome
        try dsimp only at h
        refine J.sub [] rfl ?_
        exact hj_157 σ_42 h
      · have h := h.pos (Decidable.not_not.mp c_3)
        refine J_iload (i := 4) (p := 4) C dX2_planBlock_58 rfl rfl ?_
        obtain ⟨x6_2, e_x6_2, h⟩ := Ok.nm h
        refine J_istoreE (i := 6) (lv' := [(6, .int x6_2), (0, .ref (K.2.2 + 10)), (1, .ref (K.2.2 + a1)), (2, .ref (K.2.2 + 13)), (3, .int l3_42), (4, .int l4_42), (5, .int l5_42)]) C e_x6_2 dX2_planBlock_60 (Nat.le_of_ble_eq_true rfl) rfl rfl ?_
        refine J_iload_n (i := 3) (p := 4) C dX2_planBlock_62 rfl rfl rfl ?_
        refine J_iload (i := 5) (p := 6) C dX2_planBlock_63 rfl rfl ?_
        refine J_iadd C dX2_planBlock_65 rfl ?_
        refine J_aload_n (i := 1) (p := 2) C dX2_planBlock_66 rfl rfl rfl ?_
        refine Jc_getI C fp_RX2_70 h_a1 rfl dX2_planBlock_67 rfl ?_
        refine J_icmp_ge (t := 128) C dX2_planBlock_70 (by decide) rfl (fun c_4 => ?_) (fun c_4 => ?_)
        · have h := h.pos c_4
          refine J_aload_n (i := 2) (p := 3) C dX2_planBlock_128 rfl rfl rfl ?_
          refine J_aload_n (i := 1) (p := 2) C dX2_planBlock_129 rfl rfl rfl ?_
          refine Jc_getI C fp_RX2_83 h_a1 rfl dX2_planBlock_130 rfl ?_
          refine Jc_cV (rest := []) (st9 := fun p_5 => []) C hR hX cv_RX2_79 rfl (Nat.le_of_ble_eq_true rfl) (k1_openPart hl  (Ok.ofbnd h)) rfl rfl (Nat.le_of_ble_eq_true rfl) (Nat.le_of_ble_eq_true rfl) (Nat.le_of_ble_eq_true rfl) ⟨(Nat.le_of_ble_eq_true rfl), (Nat.le_of_ble_eq_true rfl)⟩ dX2_planBlock_133 rfl (fun E n9 w9 hx => JT_n hx) (fun _ => rfl) (fun p_5 h => ?_)
          have h : Ok _ _ := h
          change J X K 9 False QQ 0 0 2017 (jw K p_5) 136 [(6, .int x6_2), (0, .ref (K.2.2 + 10)), (1, .ref (K.2.2 + a1)), (2, .ref (K.2.2 + 13)), (3, .int l3_42), (4, .int l4_42), (5, .int l5_42)] []
          refine J_aload_n (i := 2) (p := 3) C dX2_planBlock_136 rfl rfl rfl ?_
          refine J_bipush (v := 10) C (by decide) dX2_planBlock_137 rfl ?_
          refine Jc_cV (rest := []) (st9 := fun p_6 => []) C hR hX cv_RX2_84 rfl (Nat.le_of_ble_eq_true rfl) (k1_putLetter hl  (Ok.ofbnd h)) rfl rfl (Nat.le_of_ble_eq_true rfl) (Nat.le_of_ble_eq_true rfl) (Nat.le_of_ble_eq_true rfl) ⟨(Nat.le_of_ble_eq_true rfl), (Nat.le_of_ble_eq_true rfl)⟩ dX2_planBlock_139 rfl (fun E n9 w9 hx => JT_n hx) (fun _ => rfl) (fun p_6 h => ?_)
          have h : Ok _ _ := h
          change J X K 9 False QQ 0 0 2017 (jw K p_6) 142 [(6, .int x6_2), (0, .ref (K.2.2 + 10)), (1, .ref (K.2.2 + a1)), (2, .ref (K.2.2 + 13)), (3, .int l3_42), (4, .int l4_42), (5, .int l5_42)] []
          refine J.sub [1, 2, 3, 4, 5, 6, 0] rfl ?_
          exact hj_142 p_6 l5_42 x6_2 h
        · have h := h.neg c_4
          refine J_aload_n (i := 1) (p := 2) C dX2_planBlock_73 rfl rfl rfl ?_
          refine J_iload_n (i := 3) (p := 4) C dX2_planBlock_74 rfl rfl rfl ?_
          refine J_iload (i := 5) (p := 6) C dX2_planBlock_75 rfl rfl ?_
          refine J_iadd C dX2_planBlock_77 rfl ?_
          refine Jc_cV (rest := []) (st9 := fun p_7 => [.int p_7]) C hR hX cv_RX2_38 h_a1 (Nat.le_of_ble_eq_true rfl) (k8_endOf hl h_a1 (Ok.ofbnd h)) rfl rfl (Nat.le_of_ble_eq_true rfl) (Nat.le_of_ble_eq_true rfl) (Nat.le_of_ble_eq_true rfl) ⟨(Nat.le_of_ble_eq_true rfl), (Nat.le_of_ble_eq_true rfl)⟩ dX2_planBlock_78 rfl (fun E n9 w9 hx => JT_n hx) (fun _ => rfl) (fun p_7 h => ?_)
          have h : Ok _ _ := h
          change J X K 9 False QQ 0 0 2017 (jw K σ_42) 81 [(6, .int x6_2), (0, .ref (K.2.2 + 10)), (1, .ref (K.2.2 + a1)), (2, .ref (K.2.2 + 13)), (3, .int l3_42), (4, .int l4_42), (5, .int l5_42)] [.int p_7]
          obtain ⟨x7_3, e_x7_3, h⟩ := Ok.nm h
          refine J_istoreE (i := 7) (lv' := [(7, .int x7_3), (6, .int x6_2), (0, .ref (K.2.2 + 10)), (1, .ref (K.2.2 + a1)), (2, .ref (K.2.2 + 13)), (3, .int l3_42), (4, .int l4_42), (5, .int l5_42)]) C e_x7_3 dX2_planBlock_81 (Nat.le_of_ble_eq_true rfl) rfl rfl ?_
          refine J_iload (i := 7) (p := 0) C dX2_planBlock_83 rfl rfl ?_
          refine J_aload_n (i := 1) (p := 3) C dX2_planBlock_85 rfl rfl rfl ?_
          refine Jc_getD C fp_RX2_44 h_a1 rfl dX2_planBlock_86 rfl ?_
          refine J_iload_n (i := 3) (p := 5) C dX2_planBlock_89 rfl rfl rfl ?_
          refine J_iload (i := 5) (p := 7) C dX2_planBlock_90 rfl rfl ?_
          refine J_iadd C dX2_planBlock_92 rfl ?_
          obtain ⟨g_8, h⟩ := Ok.ofgd h
          rw [jv_pos (r := fR σ_42 a1 2) (okr_spec g_8).1]
          obtain ⟨g_9, h⟩ := Ok.ofgd h
          refine Jc_iald C (okr_spec g_8).2 rfl g_9 dX2_planBlock_93 rfl ?_
          refine J_iload (i := 4) (p := 6) C dX2_planBlock_94 rfl rfl ?_
          refine J_iadd C dX2_planBlock_96 rfl ?_
          refine J_mmin C hR mm_RX2_73 (Nat.le_of_ble_eq_true rfl) (Nat.le_of_ble_eq_true rfl) (Nat.le_of_ble_eq_true rfl) (Nat.le_of_ble_eq_true rfl) dX2_planBlock_97 rfl ?_
          obtain ⟨x8_4, e_x8_4, h⟩ := Ok.nm h
          refine J_istoreE (i := 8) (lv' := [(8, .int x8_4), (7, .int x7_3), (6, .int x6_2), (0, .ref (K.2.2 + 10)), (1, .ref (K.2.2 + a1)), (2, .ref (K.2.2 + 13)), (3, .int l3_42), (4, .int l4_42), (5, .int l5_42)]) C e_x8_4 dX2_planBlock_100 (Nat.le_of_ble_eq_true rfl) rfl rfl ?_
          refine J_iload (i := 4) (p := 7) C dX2_planBlock_102 rfl rfl ?_
          refine J_iload (i := 8) (p := 0) C dX2_planBlock_104 rfl rfl ?_
          refine J_aload_n (i := 1) (p := 4) C dX2_planBlock_106 rfl rfl rfl ?_
          refine Jc_getD C fp_RX2_44 h_a1 rfl dX2_planBlock_107 rfl ?_
          refine J_iload_n (i := 3) (p := 6) C dX2_planBlock_110 rfl rfl rfl ?_
          refine J_iload (i := 5) (p := 8) C dX2_planBlock_111 rfl rfl ?_
          refine J_iadd C dX2_planBlock_113 rfl ?_
          obtain ⟨g_10, h⟩ := Ok.ofgd h
          rw [jv_pos (r := fR σ_42 a1 2) (okr_spec g_10).1]
          obtain ⟨g_11, h⟩ := Ok.ofgd h
          refine Jc_iald C (okr_spec g_10).2 rfl g_11 dX2_planBlock_114 rfl ?_
          refine J_isub C dX2_planBlock_115 rfl ?_
          refine J_isub C dX2_planBlock_116 rfl ?_
          obtain ⟨x6_5, e_x6_5, h⟩ := Ok.nm h
          refine J_istoreE (i := 6) (lv' := [(6, .int x6_5), (8, .int x8_4), (7, .int x7_3), (0, .ref (K.2.2 + 10)), (1, .ref (K.2.2 + a1)), (2, .ref (K.2.2 + 13)), (3, .int l3_42), (4, .int l4_42), (5, .int l5_42)]) C e_x6_5 dX2_planBlock_117 (Nat.le_of_ble_eq_true rfl) rfl rfl ?_
          refine J_aload_n (i := 2) (p := 5) C dX2_planBlock_119 rfl rfl rfl ?_
          refine J_iload (i := 8) (p := 1) C dX2_planBlock_120 rfl rfl ?_
          refine Jc_cV (rest := []) (st9 := fun p_12 => []) C hR hX cv_RX2_79 rfl (Nat.le_of_ble_eq_true rfl) (k1_openPart hl  (Ok.ofbnd h)) rfl rfl (Nat.le_of_ble_eq_true rfl) (Nat.le_of_ble_eq_true rfl) (Nat.le_of_ble_eq_true rfl) ⟨(Nat.le_of_ble_eq_true rfl), (Nat.le_of_ble_eq_true rfl)⟩ dX2_planBlock_122 rfl (fun E n9 w9 hx => JT_n hx) (fun _ => rfl) (fun p_12 h => ?_)
          have h : Ok _ _ := h
          change J X K 9 False QQ 0 0 2017 (jw K p_12) 125 [(6, .int x6_5), (8, .int x8_4), (7, .int x7_3), (0, .ref (K.2.2 + 10)), (1, .ref (K.2.2 + a1)), (2, .ref (K.2.2 + 13)), (3, .int l3_42), (4, .int l4_42), (5, .int l5_42)] []
          refine J_goto (t := 142) C dX2_planBlock_125 (by decide) ?_
          refine J.sub [3, 4, 5, 6, 7, 8, 0] rfl ?_
          exact hj_142 p_12 l5_42 x6_5 h
  unfold f2_planBlock at h
  refine J_aload_n (i := 1) (p := 1) C dX2_planBlock_0 rfl rfl rfl ?_
  refine J_aload_n (i := 1) (p := 1) C dX2_planBlock_1 rfl rfl rfl ?_
  refine Jc_getS (o2 := 4) (r2 := a1 + 4) C fp_RX2_55 rfl h_a1 rfl dX2_planBlock_2 rfl ?_
  refine J_iconst (v := 0) C (by decide) dX2_planBlock_5 rfl ?_
  obtain ⟨g_13, h⟩ := Ok.ofgd h
  refine Jc_iald C (ks_8_5 h_a1) (ls_8_5 h_a1) g_13 dX2_planBlock_6 rfl ?_
  refine Jc_cV (rest := []) (st9 := fun p_14 => [.int p_14]) C hR hX cv_RX2_58 h_a1 (Nat.le_of_ble_eq_true rfl) (k8_lineWith hl h_a1 (Ok.ofbnd h)) rfl rfl (Nat.le_of_ble_eq_true rfl) (Nat.le_of_ble_eq_true rfl) (Nat.le_of_ble_eq_true rfl) ⟨(Nat.le_of_ble_eq_true rfl), (Nat.le_of_ble_eq_true rfl)⟩ dX2_planBlock_7 rfl (fun E n9 w9 hx => JT_n hx) (fun _ => rfl) (fun p_14 h => ?_)
  have h : Ok _ _ := h
  change J X K 9 False QQ 0 0 2017 (jw K σ) 10 [(0, .ref (K.2.2 + 10)), (1, .ref (K.2.2 + a1)), (2, .ref (K.2.2 + 13))] [.int p_14]
  obtain ⟨x3_6, e_x3_6, h⟩ := Ok.nm h
  refine J_istoreE_n (i := 3) (lv' := [(3, .int x3_6), (0, .ref (K.2.2 + 10)), (1, .ref (K.2.2 + a1)), (2, .ref (K.2.2 + 13))]) C e_x3_6 dX2_planBlock_10 rfl (Nat.le_of_ble_eq_true rfl) rfl rfl ?_
  refine J_aload_n (i := 1) (p := 2) C dX2_planBlock_11 rfl rfl rfl ?_
  refine Jc_getS (o2 := 4) (r2 := a1 + 4) C fp_RX2_55 rfl h_a1 rfl dX2_planBlock_12 rfl ?_
  refine J_iconst (v := 0) C (by decide) dX2_planBlock_15 rfl ?_
  obtain ⟨g_15, h⟩ := Ok.ofgd h
  refine Jc_iald C (ks_8_5 h_a1) (ls_8_5 h_a1) g_15 dX2_planBlock_16 rfl ?_
  refine J_aload_n (i := 1) (p := 2) C dX2_planBlock_17 rfl rfl rfl ?_
  refine Jc_getD C fp_RX2_44 h_a1 rfl dX2_planBlock_18 rfl ?_
  refine J_iload_n (i := 3) (p := 0) C dX2_planBlock_21 rfl rfl rfl ?_
  obtain ⟨g_16, h⟩ := Ok.ofgd h
  rw [jv_pos (r := fR σ a1 2) (okr_spec g_16).1]
  obtain ⟨g_17, h⟩ := Ok.ofgd h
  refine Jc_iald C (okr_spec g_16).2 rfl g_17 dX2_planBlock_22 rfl ?_
  refine J_isub C dX2_planBlock_23 rfl ?_
  obtain ⟨x4_7, e_x4_7, h⟩ := Ok.nm h
  refine J_istoreE (i := 4) (lv' := [(4, .int x4_7), (3, .int x3_6), (0, .ref (K.2.2 + 10)), (1, .ref (K.2.2 + a1)), (2, .ref (K.2.2 + 13))]) C e_x4_7 dX2_planBlock_24 (Nat.le_of_ble_eq_true rfl) rfl rfl ?_
  refine J_aload_n (i := 2) (p := 4) C dX2_planBlock_26 rfl rfl rfl ?_
  refine J_aload_n (i := 0) (p := 2) C dX2_planBlock_27 rfl rfl rfl ?_
  refine Jc_getS (o2 := 1) (r2 := 11) C fp_RX2_14 rfl rfl rfl dX2_planBlock_28 rfl ?_
  refine Jc_getS (o2 := 1) (r2 := 12) C fp_RX2_61 rfl rfl rfl dX2_planBlock_31 rfl ?_
  refine J_iconst (v := 0) C (by decide) dX2_planBlock_34 rfl ?_
  refine J_iconst (v := 0) C (by decide) dX2_planBlock_35 rfl ?_
  refine Jc_cV (rest := []) (st9 := fun p_18 => []) C hR hX cv_RX2_62 rfl (Nat.le_of_ble_eq_true rfl) (k1_begin hl rfl (Ok.ofbnd h)) rfl rfl (Nat.le_of_ble_eq_true rfl) (Nat.le_of_ble_eq_true rfl) (Nat.le_of_ble_eq_true rfl) ⟨(Nat.le_of_ble_eq_true rfl), (Nat.le_of_ble_eq_true rfl)⟩ dX2_planBlock_36 rfl (fun E n9 w9 hx => JT_n hx) (fun _ => rfl) (fun p_18 h => ?_)
  have h : Ok _ _ := h
  change J X K 9 False QQ 0 0 2017 (jw K p_18) 39 [(4, .int x4_7), (3, .int x3_6), (0, .ref (K.2.2 + 10)), (1, .ref (K.2.2 + a1)), (2, .ref (K.2.2 + 13))] []
  refine J_iconst (v := 0) C (by decide) dX2_planBlock_39 rfl ?_
  obtain ⟨x5_8, e_x5_8, h⟩ := Ok.nm h
  refine J_istoreE (i := 5) (lv' := [(5, .int x5_8), (4, .int x4_7), (3, .int x3_6), (0, .ref (K.2.2 + 10)), (1, .ref (K.2.2 + a1)), (2, .ref (K.2.2 + 13))]) C e_x5_8 dX2_planBlock_40 (Nat.le_of_ble_eq_true rfl) rfl rfl ?_
  refine J.sub [3, 4, 5, 2, 1, 0] rfl ?_
  exact hj_42 p_18 x3_6 x4_7 x5_8 h
def f11_planPasting_j53 (σ_53 : Sto) : Option (Sto) :=
  some σ_53
def f11_planPasting (σ : Sto) : Option (Sto) :=
  if (fI σ 10 1) = 0 then
    bnd (f11_planAtCursors σ 12 (0 : Int32) (fI σ 11 1)) fun p_2 =>
    f11_planPasting_j53 p_2
  else
    bnd (f2_planBlock σ 1) fun p_3 =>
    f11_planPasting_j53 p_3
set_option maxHeartbeats 4000000 in
set_option maxRecDepth 100000 in
theorem k11_planPasting {l : Launch} {K : JK} (hl : l.stackTraces = false) {σ : Sto}   {Qf : Sto → Prop} (h : Ok (f11_planPasting σ) Qf) : Con l K yX11_planPasting (.code yX11_planPasting cX11_planPasting 1 none :: TB) 4 0 0 False [.ref (K.2.2 + 0)] 2017 (jw K σ) (PR Qf (fun p => none) (fun p => jw K p)) PN := by
  refine Con.enter (own := RX11) hl (by decide) rfl (Nat.le_of_ble_eq_true rfl) ?_
  intro X hX hR C hret hnt
  generalize hQQ : jQ X K 0 0 (PR Qf (fun p => none) (fun p => jw K p)) PN False = QQ
  change J X K 1 False QQ 0 0 2017 (jw K σ) 0 [(0, .ref (K.2.2 + 0))] []
  have hj_53 : (∀ (σ_53 : Sto), Ok (f11_planPasting_j53 σ_53) Qf → J X K 1 False QQ 0 0 2017 (jw K σ_53) 53 [] []) := by
    intro σ_53 h
    unfold f11_planPasting_j53 at h
    rw [← hQQ]
    exact J_vret C hret (Nat.le_of_ble_eq_true rfl) (Nat.le_of_ble_eq_true rfl) ⟨_, h.osome, rfl, rfl, rfl⟩ dX11_planPasting_53
  unfold f11_planPasting at h
  refine J_aload_n (i := 0) (p := 0) C dX11_planPasting_0 rfl rfl rfl ?_
  refine Jc_getS (o2 := 10) (r2 := 10) C fp_RX11_28 rfl rfl rfl dX11_planPasting_1 rfl ?_
  refine Jc_getI C fp_RX11_418 rfl rfl dX11_planPasting_4 rfl ?_
  refine J_if_eq (t := 28) C dX11_planPasting_7 (by decide) rfl (fun c_1 => ?_) (fun c_1 => ?_)
  · have h := h.pos c_1
    refine J_aload_n (i := 0) (p := 0) C dX11_planPasting_28 rfl rfl rfl ?_
    refine J_aload_n (i := 0) (p := 0) C dX11_planPasting_29 rfl rfl rfl ?_
    refine Jc_getS (o2 := 10) (r2 := 10) C fp_RX11_28 rfl rfl rfl dX11_planPasting_30 rfl ?_
    refine Jc_getS (o2 := 1) (r2 := 11) C fp_RX11_358 rfl rfl rfl dX11_planPasting_33 rfl ?_
    refine Jc_getS (o2 := 1) (r2 := 12) C fp_RX11_130 rfl rfl rfl dX11_planPasting_36 rfl ?_
    refine J_iconst (v := 0) C (by decide) dX11_planPasting_39 rfl ?_
    refine J_aload_n (i := 0) (p := 0) C dX11_planPasting_40 rfl rfl rfl ?_
    refine Jc_getS (o2 := 10) (r2 := 10) C fp_RX11_28 rfl rfl rfl dX11_planPasting_41 rfl ?_
    refine Jc_getS (o2 := 1) (r2 := 11) C fp_RX11_358 rfl rfl rfl dX11_planPasting_44 rfl ?_
    refine Jc_getI C fp_RX11_89 rfl rfl dX11_planPasting_47 rfl ?_
    refine Jc_cV (rest := []) (st9 := fun p_2 => []) C hR hX cv_RX11_131 rfl (Nat.le_of_ble_eq_true rfl) (k11_planAtCursors hl rfl (Ok.ofbnd h)) rfl rfl (Nat.le_of_ble_eq_true rfl) (Nat.le_of_ble_eq_true rfl) (Nat.le_of_ble_eq_true rfl) ⟨(Nat.le_of_ble_eq_true rfl), (Nat.le_of_ble_eq_true rfl)⟩ dX11_planPasting_50 rfl (fun E n9 w9 hx => JT_n hx) (fun _ => rfl) (fun p_2 h => ?_)
    have h : Ok _ _ := h
    change J X K 1 False QQ 0 0 2017 (jw K p_2) 53 [(0, .ref (K.2.2 + 0))] []
    refine J.sub [] rfl ?_
    exact hj_53 p_2 h
  · have h := h.neg c_1
    refine J_aload_n (i := 0) (p := 0) C dX11_planPasting_10 rfl rfl rfl ?_
    refine Jc_getS (o2 := 10) (r2 := 10) C fp_RX11_28 rfl rfl rfl dX11_planPasting_11 rfl ?_
    refine J_aload_n (i := 0) (p := 0) C dX11_planPasting_14 rfl rfl rfl ?_
    refine Jc_getS (o2 := 1) (r2 := 1) C fp_RX11_10 rfl rfl rfl dX11_planPasting_15 rfl ?_
    refine J_aload_n (i := 0) (p := 0) C dX11_planPasting_18 rfl rfl rfl ?_
    refine Jc_getS (o2 := 13) (r2 := 13) C fp_RX11_35 rfl rfl rfl dX11_planPasting_19 rfl ?_
    refine Jc_cV (rest := []) (st9 := fun p_3 => []) C hR hX cv_RX11_421 rfl (Nat.le_of_ble_eq_true rfl) (k2_planBlock hl rfl (Ok.ofbnd h)) rfl rfl (Nat.le_of_ble_eq_true rfl) (Nat.le_of_ble_eq_true rfl) (Nat.le_of_ble_eq_true rfl) ⟨(Nat.le_of_ble_eq_true rfl), (Nat.le_of_ble_eq_true rfl)⟩ dX11_planPasting_22 rfl (fun E n9 w9 hx => JT_n hx) (fun _ => rfl) (fun p_3 h => ?_)
    have h : Ok _ _ := h
    change J X K 1 False QQ 0 0 2017 (jw K p_3) 25 [(0, .ref (K.2.2 + 0))] []
    refine J_goto (t := 53) C dX11_planPasting_25 (by decide) ?_
    refine J.sub [] rfl ?_
    exact hj_53 p_3 h
def f11_paste (σ : Sto) : Option ((Int32 × Sto) ⊕ (Nat × Sto)) :=
  bnd (f11_planPasting σ) fun p_1 =>
  bnd (f11_perform p_1) fun p_2 =>
  if p_2.1 = 0 then
    some (.inr (3, p_2.2))
  else
    bnd (f9_add p_2.2 (3 : Int32) (0 : Int32) (0 : Int32)) fun p_4 =>
    some (.inl (fI p_4 1 1, p_4))
set_option maxHeartbeats 4000000 in
set_option maxRecDepth 100000 in
theorem k11_paste {l : Launch} {K : JK} (hl : l.stackTraces = false) {σ : Sto}   {Qf : (Int32 × Sto) ⊕ (Nat × Sto) → Prop} (h : Ok (f11_paste σ) Qf) : Con l K yX11_paste (.code yX11_paste cX11_paste 1 (some .int) :: TB) 6 1 6 False [.ref (K.2.2 + 0)] 2017 (jw K σ) (PR (fun p => Qf (.inl p)) (fun p => some (.int p.1)) (fun p => jw K p.2)) (PX Qf (fun s => jw K s)) := by
  refine Con.enter (own := RX11) hl (by decide) rfl (Nat.le_of_ble_eq_true rfl) ?_
  intro X hX hR C hret hnt
  generalize hQQ : jQ X K 1 6 (PR (fun p => Qf (.inl p)) (fun p => some (.int p.1)) (fun p => jw K p.2)) (PX Qf (fun s => jw K s)) False = QQ
  change J X K 1 False QQ 0 0 2017 (jw K σ) 0 [(0, .ref (K.2.2 + 0))] []
  unfold f11_paste at h
  refine J_aload_n (i := 0) (p := 0) C dX11_paste_0 rfl rfl rfl ?_
  refine Jc_cV (rest := []) (st9 := fun p_1 => []) C hR hX cv_RX11_162 rfl (Nat.le_of_ble_eq_true rfl) (k11_planPasting hl  (Ok.ofbnd h)) rfl rfl (Nat.le_of_ble_eq_true rfl) (Nat.le_of_ble_eq_true rfl) (Nat.le_of_ble_eq_true rfl) ⟨(Nat.le_of_ble_eq_true rfl), (Nat.le_of_ble_eq_true rfl)⟩ dX11_paste_1 rfl (fun E n9 w9 hx => JT_n hx) (fun _ => rfl) (fun p_1 h => ?_)
  have h : Ok _ _ := h
  change J X K 1 False QQ 0 0 2017 (jw K p_1) 4 [(0, .ref (K.2.2 + 0))] []
  refine J_aload_n (i := 0) (p := 0) C dX11_paste_4 rfl rfl rfl ?_
  refine Jc_cV (rest := []) (st9 := fun p_2 => [.int p_2.1]) C hR hX cv_RX11_134 rfl (Nat.le_of_ble_eq_true rfl) (k11_perform hl  (Ok.ofbnd h)) rfl rfl (Nat.le_of_ble_eq_true rfl) (Nat.le_of_ble_eq_true rfl) (Nat.le_of_ble_eq_true rfl) ⟨(Nat.le_of_ble_eq_true rfl), (Nat.le_of_ble_eq_true rfl)⟩ dX11_paste_5 rfl (fun E n9 w9 hx => JT_n hx) (fun _ => rfl) (fun p_2 h => ?_)
  have h : Ok _ _ := h
  change J X K 1 False QQ 0 0 2017 (jw K p_2.2) 8 [(0, .ref (K.2.2 + 0))] [.int p_2.1]
  refine J_if_ne (t := 21) C dX11_paste_8 (by decide) rfl (fun c_3 => ?_) (fun c_3 => ?_)
  · have h := h.neg c_3
    refine J_aload_n (i := 0) (p := 0) C dX11_paste_21 rfl rfl rfl ?_
    refine Jc_getS (o2 := 1992) (r2 := 1992) C fp_RX11_56 rfl rfl rfl dX11_paste_22 rfl ?_
    refine J_iconst (v := 3) C (by decide) dX11_paste_25 rfl ?_
    refine J_iconst (v := 0) C (by decide) dX11_paste_26 rfl ?_
    refine J_iconst (v := 0) C (by decide) dX11_paste_27 rfl ?_
    refine Jc_cV (rest := []) (st9 := fun p_4 => []) C hR hX cv_RX11_150 rfl (Nat.le_of_ble_eq_true rfl) (k9_add hl  (Ok.ofbnd h)) rfl rfl (Nat.le_of_ble_eq_true rfl) (Nat.le_of_ble_eq_true rfl) (Nat.le_of_ble_eq_true rfl) ⟨(Nat.le_of_ble_eq_true rfl), (Nat.le_of_ble_eq_true rfl)⟩ dX11_paste_28 rfl (fun E n9 w9 hx => JT_n hx) (fun _ => rfl) (fun p_4 h => ?_)
    have h : Ok _ _ := h
    change J X K 1 False QQ 0 0 2017 (jw K p_4) 31 [(0, .ref (K.2.2 + 0))] []
    refine J_aload_n (i := 0) (p := 0) C dX11_paste_31 rfl rfl rfl ?_
    refine Jc_getS (o2 := 1) (r2 := 1) C fp_RX11_10 rfl rfl rfl dX11_paste_32 rfl ?_
    refine Jc_getI C fp_RX11_144 rfl rfl dX11_paste_35 rfl ?_
    rw [← hQQ]
    exact J_iret C hret (Nat.le_of_ble_eq_true rfl) (Nat.le_of_ble_eq_true rfl) ⟨_, h.osome, rfl, rfl, rfl⟩ dX11_paste_38
  · have h := h.pos (Decidable.not_not.mp c_3)
    rw [← hQQ]
    exact J_throw (is := 138) (text := "refused") C hnt th_92 (by decide +kernel) dX11_paste_11 dX11_paste_14 dX11_paste_15 dX11_paste_17 dX11_paste_20 (by rw [hR]; exact (Nat.le_of_ble_eq_true rfl)) (by rw [hR]; exact (Nat.le_of_ble_eq_true rfl)) (by rw [hR]; exact (Nat.le_of_ble_eq_true rfl)) (by rw [hR]; exact (Nat.le_of_ble_eq_true rfl)) (Nat.le_of_ble_eq_true rfl) (Nat.le_of_ble_eq_true rfl) ⟨3, p_2.2, h.osome, rfl, rfl, rfl⟩
def f1_beginWith_b20 (l1 : Int32) (l2 : Int32) (σ_20 : Sto) (l3_20 : Int32) : Option ((Sto × Int32) ⊕ Sto) :=
  if l2 ≤ l3_20 then
    some (.inr σ_20)
  else
    bnd (f6_add σ_20 18 l1) fun p_2 =>
    stp (l3_20 + (1 : Int32)) fun x3_1 =>
    some (.inl (p_2.2, x3_1))
def f1_beginWith_j20 (l1 : Int32) (l2 : Int32) (σ_20 : Sto) (l3_20 : Int32) : Option (Sto) :=
  bnd (loopF (fun s_20 => f1_beginWith_b20 l1 l2 s_20.1 s_20.2) FU (σ_20, l3_20)) fun r_20 =>
    some r_20
def f1_beginWith (σ : Sto) (l1 : Int32) (l2 : Int32) : Option (Sto) :=
  stp (uI σ 13 4 (0 : Int32)) fun σx_2 =>
  stp (uI σx_2 13 6 (0 : Int32)) fun σx_3 =>
  stp (uI σx_3 18 1 (0 : Int32)) fun σx_4 =>
  stp (0 : Int32) fun x3_5 =>
  f1_beginWith_j20 l1 l2 σx_4 x3_5
set_option maxHeartbeats 4000000 in
set_option maxRecDepth 100000 in
theorem k1_beginWith {l : Launch} {K : JK} (hl : l.stackTraces = false) {σ : Sto} {l1 : Int32} {l2 : Int32}  {Qf : Sto → Prop} (h : Ok (f1_beginWith σ l1 l2) Qf) : Con l K yX1_beginWith (.code yX1_beginWith cX1_beginWith 4 none :: TB) 1 0 0 False [.ref (K.2.2 + 13), .int l1, .int l2] 2017 (jw K σ) (PR Qf (fun p => none) (fun p => jw K p)) PN := by
  refine Con.enter (own := RX1) hl (by decide) rfl (Nat.le_of_ble_eq_true rfl) ?_
  intro X hX hR C hret hnt
  generalize hQQ : jQ X K 0 0 (PR Qf (fun p => none) (fun p => jw K p)) PN False = QQ
  change J X K 4 False QQ 0 0 2017 (jw K σ) 0 [(0, .ref (K.2.2 + 13)), (1, .int l1), (2, .int l2)] []
  have hj_20 : (∀ (σ_20 : Sto) (l3_20 : Int32), Ok (f1_beginWith_j20 l1 l2 σ_20 l3_20) Qf → J X K 4 False QQ 0 0 2017 (jw K σ_20) 20 [(0, .ref (K.2.2 + 13)), (1, .int l1), (2, .int l2), (3, .int l3_20)] []) := by
    intro σ_20 l3_20 h
    unfold f1_beginWith_j20 at h
    refine loop_gen (S := Sto × Int32) (P := fun s_20 => J X K 4 False QQ 0 0 2017 (jw K s_20.1) 20 [(0, .ref (K.2.2 + 13)), (1, .int l1), (2, .int l2), (3, .int s_20.2)] []) ?_ FU (σ_20, l3_20) (Ok.ofbnd h)
    intro B_20 hB_20 hE_20 s_20 h
    obtain ⟨σ_20, l3_20⟩ := s_20
    have h : Ok (f1_beginWith_b20 l1 l2 σ_20 l3_20) B_20 := h
    change J X K 4 False QQ 0 0 2017 (jw K σ_20) 20 [(0, .ref (K.2.2 + 13)), (1, .int l1), (2, .int l2), (3, .int l3_20)] []
    unfold f1_beginWith_b20 at h
    refine J_iload_n (i := 3) (p := 3) C dX1_beginWith_20 rfl rfl rfl ?_
    refine J_iload_n (i := 2) (p := 2) C dX1_beginWith_21 rfl rfl rfl ?_
    refine J_icmp_ge (t := 40) C dX1_beginWith_22 (by decide) rfl (fun c_1 => ?_) (fun c_1 => ?_)
    · have h := h.pos c_1
      have h := hE_20 σ_20 h.osome
      try dsimp only at h
      rw [← hQQ]
      exact J_vret C hret (Nat.le_of_ble_eq_true rfl) (Nat.le_of_ble_eq_true rfl) ⟨_, h.osome, rfl, rfl, rfl⟩ dX1_beginWith_40
    · have h := h.neg c_1
      refine J_aload_n (i := 0) (p := 0) C dX1_beginWith_25 rfl rfl rfl ?_
      refine Jc_getS (o2 := 5) (r2 := 18) C fp_RX1_33 rfl rfl rfl dX1_beginWith_26 rfl ?_
      refine J_iload_n (i := 1) (p := 1) C dX1_beginWith_29 rfl rfl rfl ?_
      refine Jc_cV (rest := []) (st9 := fun p_2 => [.int p_2.1]) C hR hX cv_RX1_68 rfl (Nat.le_of_ble_eq_true rfl) (k6_add hl rfl (Ok.ofbnd h)) rfl rfl (Nat.le_of_ble_eq_true rfl) (Nat.le_of_ble_eq_true rfl) (Nat.le_of_ble_eq_true rfl) ⟨(Nat.le_of_ble_eq_true rfl), (Nat.le_of_ble_eq_true rfl)⟩ dX1_beginWith_30 rfl (fun E n9 w9 hx => JT_n hx) (fun _ => rfl) (fun p_2 h => ?_)
      have h : Ok _ _ := h
      change J X K 4 False QQ 0 0 2017 (jw K p_2.2) 33 [(0, .ref (K.2.2 + 13)), (1, .int l1), (2, .int l2), (3, .int l3_20)] [.int p_2.1]
      refine J_pop C rfl dX1_beginWith_33 rfl ?_
      obtain ⟨x3_1, e_x3_1, h⟩ := Ok.nm h
      refine J_iincE (i := 3) (p := 3) (lv' := [(3, .int x3_1), (0, .ref (K.2.2 + 13)), (1, .int l1), (2, .int l2)]) C e_x3_1 dX1_beginWith_34 rfl (by decide) (Nat.le_of_ble_eq_true rfl) rfl rfl ?_
      refine J_goto (t := 20) C dX1_beginWith_37 (by decide) ?_
      refine J.sub [1, 2, 3, 0] rfl ?_
      exact hB_20 (p_2.2, x3_1) h.osome
  unfold f1_beginWith at h
  refine J_aload_n (i := 0) (p := 0) C dX1_beginWith_0 rfl rfl rfl ?_
  refine J_iconst (v := 0) C (by decide) dX1_beginWith_1 rfl ?_
  obtain ⟨σx_2, e_σx_2, h⟩ := Ok.nm h
  refine Jc_putI C id fp_RX1_24 fw_1_4 rfl rfl rfl e_σx_2 dX1_beginWith_2 rfl ?_
  refine J_aload_n (i := 0) (p := 0) C dX1_beginWith_5 rfl rfl rfl ?_
  refine J_iconst (v := 0) C (by decide) dX1_beginWith_6 rfl ?_
  obtain ⟨σx_3, e_σx_3, h⟩ := Ok.nm h
  refine Jc_putZ C id fp_RX1_37 fw_1_6 rfl rfl rfl rfl e_σx_3 dX1_beginWith_7 rfl ?_
  refine J_aload_n (i := 0) (p := 0) C dX1_beginWith_10 rfl rfl rfl ?_
  refine Jc_getS (o2 := 5) (r2 := 18) C fp_RX1_33 rfl rfl rfl dX1_beginWith_11 rfl ?_
  refine J_iconst (v := 0) C (by decide) dX1_beginWith_14 rfl ?_
  obtain ⟨σx_4, e_σx_4, h⟩ := Ok.nm h
  refine Jc_putI C id fp_RX1_65 fw_6_1 rfl rfl rfl e_σx_4 dX1_beginWith_15 rfl ?_
  refine J_iconst (v := 0) C (by decide) dX1_beginWith_18 rfl ?_
  obtain ⟨x3_5, e_x3_5, h⟩ := Ok.nm h
  refine J_istoreE_n (i := 3) (lv' := [(3, .int x3_5), (0, .ref (K.2.2 + 13)), (1, .int l1), (2, .int l2)]) C e_x3_5 dX1_beginWith_19 rfl (Nat.le_of_ble_eq_true rfl) rfl rfl ?_
  refine J.sub [1, 2, 3, 0] rfl ?_
  exact hj_20 σx_4 x3_5 h
def f8_blanksFrom_j49 (a0 : Nat) (l1 : Int32) (l2 : Int32) (σ : Sto) (l3_49 : Int32) : Option (Int32) :=
  some l3_49
def f8_blanksFrom_j43 (a0 : Nat) (l1 : Int32) (l2 : Int32) (σ : Sto) (l3_43 : Int32) : Option (Int32 ⊕ Int32) :=
  stp (l3_43 + (1 : Int32)) fun x3_1 =>
  some (.inl x3_1)
def f8_blanksFrom_b2 (a0 : Nat) (l1 : Int32) (l2 : Int32) (σ : Sto) (l3_2 : Int32) : Option (Int32 ⊕ Int32) :=
  if l2 ≤ l3_2 then
    some (.inr l3_2)
  else
    if (fI σ a0 1) ≤ (l1 + l3_2) then
      some (.inr l3_2)
    else
      gd (okr (fR σ a0 0) 13) <|
      gd (inb (l1 + l3_2) (ln ((fR σ a0 0) - 1))) <|
      if (aI σ ((fR σ a0 0) - 1) (Int32.toNatClampNeg (l1 + l3_2))) = (32 : Int32) then
        f8_blanksFrom_j43 a0 l1 l2 σ l3_2
      else
        gd (okr (fR σ a0 0) 13) <|
        gd (inb (l1 + l3_2) (ln ((fR σ a0 0) - 1))) <|
        if (aI σ ((fR σ a0 0) - 1) (Int32.toNatClampNeg (l1 + l3_2))) = (9 : Int32) then
          f8_blanksFrom_j43 a0 l1 l2 σ l3_2
        else
          some (.inr l3_2)
def f8_blanksFrom_j2 (a0 : Nat) (l1 : Int32) (l2 : Int32) (σ : Sto) (l3_2 : Int32) : Option (Int32) :=
  bnd (loopF (fun s_2 => f8_blanksFrom_b2 a0 l1 l2 σ s_2) FU l3_2) fun r_2 =>
    f8_blanksFrom_j49 a0 l1 l2 σ r_2
def f8_blanksFrom (σ : Sto) (a0 : Nat) (l1 : Int32) (l2 : Int32) : Option (Int32) :=
  stp (0 : Int32) fun x3_2 =>
  f8_blanksFrom_j2 a0 l1 l2 σ x3_2
set_option maxHeartbeats 4000000 in
set_option maxRecDepth 100000 in
theorem k8_blanksFrom {l : Launch} {K : JK} (hl : l.stackTraces = false) {σ : Sto} {a0 : Nat} {l1 : Int32} {l2 : Int32} (h_a0 : kc a0 = 8) {Qf : Int32 → Prop} (h : Ok (f8_blanksFrom σ a0 l1 l2) Qf) : Con l K yX8_blanksFrom (.code yX8_blanksFrom cX8_blanksFrom 4 (some .int) :: TB) 0 0 0 False [.ref (K.2.2 + a0), .int l1, .int l2] 2017 (jw K σ) (PR Qf (fun p => some (.int p)) (fun p => jw K σ)) PN := by
  refine Con.enter (own := RX8) hl (by decide) rfl (Nat.le_of_ble_eq_true rfl) ?_
  intro X hX hR C hret hnt
  generalize hQQ : jQ X K 0 0 (PR Qf (fun p => some (.int p)) (fun p => jw K σ)) PN False = QQ
  change J X K 4 False QQ 0 0 2017 (jw K σ) 0 [(0, .ref (K.2.2 + a0)), (1, .int l1), (2, .int l2)] []
  have hj_49 : (∀ (l3_49 : Int32), Ok (f8_blanksFrom_j49 a0 l1 l2 σ l3_49) Qf → J X K 4 False QQ 0 0 2017 (jw K σ) 49 [(3, .int l3_49)] []) := by
    intro l3_49 h
    unfold f8_blanksFrom_j49 at h
    refine J_iload_n (i := 3) (p := 0) C dX8_blanksFrom_49 rfl rfl rfl ?_
    rw [← hQQ]
    exact J_iret C hret (Nat.le_of_ble_eq_true rfl) (Nat.le_of_ble_eq_true rfl) ⟨_, h.osome, rfl, rfl, rfl⟩ dX8_blanksFrom_50
  have hj_2 : (∀ (l3_2 : Int32), Ok (f8_blanksFrom_j2 a0 l1 l2 σ l3_2) Qf → J X K 4 False QQ 0 0 2017 (jw K σ) 2 [(0, .ref (K.2.2 + a0)), (1, .int l1), (2, .int l2), (3, .int l3_2)] []) := by
    intro l3_2 h
    unfold f8_blanksFrom_j2 at h
    refine loop_gen (S := Int32) (P := fun s_2 => J X K 4 False QQ 0 0 2017 (jw K σ) 2 [(0, .ref (K.2.2 + a0)), (1, .int l1), (2, .int l2), (3, .int s_2)] []) ?_ FU l3_2 (Ok.ofbnd h)
    intro B_2 hB_2 hE_2 s_2 h
    generalize s_2 = l3_2 at h ⊢
    have h : Ok (f8_blanksFrom_b2 a0 l1 l2 σ l3_2) B_2 := h
    change J X K 4 False QQ 0 0 2017 (jw K σ) 2 [(0, .ref (K.2.2 + a0)), (1, .int l1), (2, .int l2), (3, .int l3_2)] []
    have hj_43 : (∀ (l3_43 : Int32), Ok (f8_blanksFrom_j43 a0 l1 l2 σ l3_43) B_2 → J X K 4 False QQ 0 0 2017 (jw K σ) 43 [(0, .ref (K.2.2 + a0)), (1, .int l1), (2, .int l2), (3, .int l3_43)] []) := by
      intro l3_43 h
      unfold f8_blanksFrom_j43 at h
      obtain ⟨x3_1, e_x3_1, h⟩ := Ok.nm h
      refine J_iincE (i := 3) (p := 3) (lv' := [(3, .int x3_1), (0, .ref (K.2.2 + a0)), (1, .int l1), (2, .int l2)]) C e_x3_1 dX8_blanksFrom_43 rfl (by decide) (Nat.le_of_ble_eq_true rfl) rfl rfl ?_
      refine J_goto (t := 2) C dX8_blanksFrom_46 (by decide) ?_
      refine J.sub [1, 2, 3, 0] rfl ?_
      exact hB_2 x3_1 h.osome
    unfold f8_blanksFrom_b2 at h
    refine J_iload_n (i := 3) (p := 3) C dX8_blanksFrom_2 rfl rfl rfl ?_
    refine J_iload_n (i := 2) (p := 2) C dX8_blanksFrom_3 rfl rfl rfl ?_
    refine J_icmp_ge (t := 49) C dX8_blanksFrom_4 (by decide) rfl (fun c_1 => ?_) (fun c_1 => ?_)
    · have h := h.pos c_1
      have h := hE_2 l3_2 h.osome
      try dsimp only at h
      refine J.sub [3] rfl ?_
      exact hj_49 l3_2 h
    · have h := h.neg c_1
      refine J_iload_n (i := 1) (p := 1) C dX8_blanksFrom_7 rfl rfl rfl ?_
      refine J_iload_n (i := 3) (p := 3) C dX8_blanksFrom_8 rfl rfl rfl ?_
      refine J_iadd C dX8_blanksFrom_9 rfl ?_
      refine J_aload_n (i := 0) (p := 0) C dX8_blanksFrom_10 rfl rfl rfl ?_
      refine Jc_getI C fp_RX8_15 h_a0 rfl dX8_blanksFrom_11 rfl ?_
      refine J_icmp_ge (t := 49) C dX8_blanksFrom_14 (by decide) rfl (fun c_2 => ?_) (fun c_2 => ?_)
      · have h := h.pos c_2
        have h := hE_2 l3_2 h.osome
        try dsimp only at h
        refine J.sub [3] rfl ?_
        exact hj_49 l3_2 h
      · have h := h.neg c_2
        refine J_aload_n (i := 0) (p := 0) C dX8_blanksFrom_17 rfl rfl rfl ?_
        refine Jc_getD C fp_RX8_9 h_a0 rfl dX8_blanksFrom_18 rfl ?_
        refine J_iload_n (i := 1) (p := 1) C dX8_blanksFrom_21 rfl rfl rfl ?_
        refine J_iload_n (i := 3) (p := 3) C dX8_blanksFrom_22 rfl rfl rfl ?_
        refine J_iadd C dX8_blanksFrom_23 rfl ?_
        obtain ⟨g_3, h⟩ := Ok.ofgd h
        rw [jv_pos (r := fR σ a0 0) (okr_spec g_3).1]
        obtain ⟨g_4, h⟩ := Ok.ofgd h
        refine Jc_bald C (okr_spec g_3).2 rfl g_4 dX8_blanksFrom_24 rfl ?_
        refine J_bipush (v := 32) C (by decide) dX8_blanksFrom_25 rfl ?_
        refine J_icmp_eq (t := 43) C dX8_blanksFrom_27 (by decide) rfl (fun c_5 => ?_) (fun c_5 => ?_)
        · have h := h.pos c_5
          exact hj_43 l3_2 h
        · have h := h.neg c_5
          refine J_aload_n (i := 0) (p := 0) C dX8_blanksFrom_30 rfl rfl rfl ?_
          refine Jc_getD C fp_RX8_9 h_a0 rfl dX8_blanksFrom_31 rfl ?_
          refine J_iload_n (i := 1) (p := 1) C dX8_blanksFrom_34 rfl rfl rfl ?_
          refine J_iload_n (i := 3) (p := 3) C dX8_blanksFrom_35 rfl rfl rfl ?_
          refine J_iadd C dX8_blanksFrom_36 rfl ?_
          obtain ⟨g_6, h⟩ := Ok.ofgd h
          rw [jv_pos (r := fR σ a0 0) (okr_spec g_6).1]
          obtain ⟨g_7, h⟩ := Ok.ofgd h
          refine Jc_bald C (okr_spec g_6).2 rfl g_7 dX8_blanksFrom_37 rfl ?_
          refine J_bipush (v := 9) C (by decide) dX8_blanksFrom_38 rfl ?_
          refine J_icmp_ne (t := 49) C dX8_blanksFrom_40 (by decide) rfl (fun c_8 => ?_) (fun c_8 => ?_)
          · have h := h.neg c_8
            have h := hE_2 l3_2 h.osome
            try dsimp only at h
            refine J.sub [3] rfl ?_
            exact hj_49 l3_2 h
          · have h := h.pos (Decidable.not_not.mp c_8)
            exact hj_43 l3_2 h
  unfold f8_blanksFrom at h
  refine J_iconst (v := 0) C (by decide) dX8_blanksFrom_0 rfl ?_
  obtain ⟨x3_2, e_x3_2, h⟩ := Ok.nm h
  refine J_istoreE_n (i := 3) (lv' := [(3, .int x3_2), (0, .ref (K.2.2 + a0)), (1, .int l1), (2, .int l2)]) C e_x3_2 dX8_blanksFrom_1 rfl (Nat.le_of_ble_eq_true rfl) rfl rfl ?_
  refine J.sub [1, 2, 3, 0] rfl ?_
  exact hj_2 x3_2 h
