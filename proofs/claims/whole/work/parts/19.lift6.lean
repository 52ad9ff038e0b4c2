def f12_steps_b63 (l1 : Int32) (l2 : Int32) (l3 : Int32) (μ_63 : Sto) (l4_63 : Int32) : Option ((Sto × Int32) ⊕ Sto) :=
  if (fI μ_63 2017 11) ≤ l4_63 then
    some (.inr μ_63)
  else
    gd (inb l4_63 200) <|
    gd (inb (((200 : Int32) * (fI μ_63 2017 50)) + l4_63) 8000) <|
    stp (uA μ_63 2048 (Int32.toNatClampNeg (((200 : Int32) * (fI μ_63 2017 50)) + l4_63)) (aI μ_63 2023 (Int32.toNatClampNeg l4_63))) fun μx_2 =>
    stp (l4_63 + (1 : Int32)) fun x4_3 =>
    some (.inl (μx_2, x4_3))
def f12_steps_j63 (l1 : Int32) (l2 : Int32) (l3 : Int32) (μ_63 : Sto) (l4_63 : Int32) : Option (Sto) :=
  bnd (loopF (fun s_63 => f12_steps_b63 l1 l2 l3 s_63.1 s_63.2) FU (μ_63, l4_63)) fun r_63 =>
    stp (uI r_63 2017 50 ((fI r_63 2017 50) + (1 : Int32))) fun μx_4 =>
    some μx_4
def f12_steps_j16 (l1 : Int32) (l2 : Int32) (l3 : Int32) (μ_16 : Sto) : Option (Sto) :=
  some μ_16
def f12_steps (μ : Sto) (l1 : Int32) (l2 : Int32) (l3 : Int32) : Option (Sto) :=
  if (fI μ 2017 51) = 0 then
    f12_steps_j16 l1 l2 l3 μ
  else
    if (fI μ 2017 50) = (40 : Int32) then
      f12_steps_j16 l1 l2 l3 μ
    else
      gd (inb (fI μ 2017 50) 40) <|
      stp (uA μ 2044 (Int32.toNatClampNeg (fI μ 2017 50)) l1) fun μx_5 =>
      gd (inb (fI μx_5 2017 50) 40) <|
      stp (uA μx_5 2045 (Int32.toNatClampNeg (fI μx_5 2017 50)) l2) fun μx_6 =>
      gd (inb (fI μx_6 2017 50) 40) <|
      stp (uA μx_6 2046 (Int32.toNatClampNeg (fI μx_6 2017 50)) l3) fun μx_7 =>
      gd (inb (fI μx_7 2017 50) 40) <|
      stp (uA μx_7 2047 (Int32.toNatClampNeg (fI μx_7 2017 50)) (fI μx_7 2017 11)) fun μx_8 =>
      stp (0 : Int32) fun x4_9 =>
      f12_steps_j63 l1 l2 l3 μx_8 x4_9
set_option maxHeartbeats 4000000 in
set_option maxRecDepth 100000 in
theorem k12_steps {l : Launch} {K : JK} (hl : l.stackTraces = false) {σ μ : Sto} {o : Int64} {l1 : Int32} {l2 : Int32} {l3 : Int32}  {Qf : Sto → Prop} (h : Ok (f12_steps μ l1 l2 l3) Qf) : Con l K yX12_steps (.code yX12_steps cX12_steps 5 none :: TB) 0 0 0 False [.ref (K.2.2 + 2017), .int l1, .int l2, .int l3] 2055 (jw K σ μ o) (PR Qf (fun p => none) (fun p => jw K σ p o)) PN := by
  refine Con.enter (own := RX12) hl (by decide) rfl (Nat.le_of_ble_eq_true rfl) ?_
  intro X hX hR C hret hnt
  generalize hQQ : jQ X K 0 0 (PR Qf (fun p => none) (fun p => jw K σ p o)) PN False = QQ
  change J X K 5 False QQ 0 0 2055 (jw K σ μ o) 0 [(0, .ref (K.2.2 + 2017)), (1, .int l1), (2, .int l2), (3, .int l3)] []
  have hj_63 : (∀ (μ_63 : Sto) (l4_63 : Int32), Ok (f12_steps_j63 l1 l2 l3 μ_63 l4_63) Qf → J X K 5 False QQ 0 0 2055 (jw K σ μ_63 o) 63 [(0, .ref (K.2.2 + 2017)), (4, .int l4_63)] []) := by
    intro μ_63 l4_63 h
    unfold f12_steps_j63 at h
    refine loop_gen (S := Sto × Int32) (P := fun s_63 => J X K 5 False QQ 0 0 2055 (jw K σ s_63.1 o) 63 [(0, .ref (K.2.2 + 2017)), (4, .int s_63.2)] []) ?_ FU (μ_63, l4_63) (Ok.ofbnd h)
    intro B_63 hB_63 hE_63 s_63 h
    obtain ⟨μ_63, l4_63⟩ := s_63
    have h : Ok (f12_steps_b63 l1 l2 l3 μ_63 l4_63) B_63 := h
    change J X K 5 False QQ 0 0 2055 (jw K σ μ_63 o) 63 [(0, .ref (K.2.2 + 2017)), (4, .int l4_63)] []
    unfold f12_steps_b63 at h
    refine J_iload (i := 4) (p := 1) C dX12_steps_63 rfl rfl ?_
    refine J_aload_n (i := 0) (p := 0) C dX12_steps_65 rfl rfl rfl ?_
    refine Jm_getI C fp_RX12_161 rfl rfl dX12_steps_66 rfl ?_
    refine J_icmp_ge (t := 101) C dX12_steps_69 (by decide) rfl (fun c_1 => ?_) (fun c_1 => ?_)
    · have h := h.pos c_1
      have h := hE_63 μ_63 h.osome
      try dsimp only at h
      refine J_aload_n (i := 0) (p := 0) C dX12_steps_101 rfl rfl rfl ?_
      refine J_dup C rfl dX12_steps_102 rfl ?_
      refine Jm_getI C fp_RX12_357 rfl rfl dX12_steps_103 rfl ?_
      refine J_iconst (v := 1) C (by decide) dX12_steps_106 rfl ?_
      refine J_iadd C dX12_steps_107 rfl ?_
      obtain ⟨μx_1, e_μx_1, h⟩ := Ok.nm h
      refine Jm_putI C id fp_RX12_357 fw_11_50 rfl rfl rfl e_μx_1 dX12_steps_108 rfl ?_
      rw [← hQQ]
      exact J_vret C hret (Nat.le_of_ble_eq_true rfl) (Nat.le_of_ble_eq_true rfl) ⟨_, h.osome, rfl, rfl, rfl⟩ dX12_steps_111
    · have h := h.neg c_1
      refine J_aload_n (i := 0) (p := 0) C dX12_steps_72 rfl rfl rfl ?_
      refine Jm_getS (o2 := 31) (r2 := 2048) C fp_RX12_113 rfl rfl rfl dX12_steps_73 rfl ?_
      refine J_sipush (v := 200) C (by decide) dX12_steps_76 rfl ?_
      refine J_aload_n (i := 0) (p := 0) C dX12_steps_79 rfl rfl rfl ?_
      refine Jm_getI C fp_RX12_357 rfl rfl dX12_steps_80 rfl ?_
      refine J_imul C dX12_steps_83 rfl ?_
      refine J_iload (i := 4) (p := 1) C dX12_steps_84 rfl rfl ?_
      refine J_iadd C dX12_steps_86 rfl ?_
      refine J_aload_n (i := 0) (p := 0) C dX12_steps_87 rfl rfl rfl ?_
      refine Jm_getS (o2 := 6) (r2 := 2023) C fp_RX12_30 rfl rfl rfl dX12_steps_88 rfl ?_
      refine J_iload (i := 4) (p := 1) C dX12_steps_91 rfl rfl ?_
      obtain ⟨g_2, h⟩ := Ok.ofgd h
      refine Jm_iald C rfl rfl g_2 dX12_steps_93 rfl ?_
      obtain ⟨g_3, h⟩ := Ok.ofgd h
      obtain ⟨μx_2, e_μx_2, h⟩ := Ok.nm h
      refine Jm_iast C id rfl rfl g_3 e_μx_2 dX12_steps_94 rfl ?_
      obtain ⟨x4_3, e_x4_3, h⟩ := Ok.nm h
      refine J_iincE (i := 4) (p := 1) (lv' := [(4, .int x4_3), (0, .ref (K.2.2 + 2017))]) C e_x4_3 dX12_steps_95 rfl (by decide) (Nat.le_of_ble_eq_true rfl) rfl rfl ?_
      refine J_goto (t := 63) C dX12_steps_98 (by decide) ?_
      refine J.sub [1, 0] rfl ?_
      exact hB_63 (μx_2, x4_3) h.osome
  have hj_16 : (∀ (μ_16 : Sto), Ok (f12_steps_j16 l1 l2 l3 μ_16) Qf → J X K 5 False QQ 0 0 2055 (jw K σ μ_16 o) 16 [] []) := by
    intro μ_16 h
    unfold f12_steps_j16 at h
    rw [← hQQ]
    exact J_vret C hret (Nat.le_of_ble_eq_true rfl) (Nat.le_of_ble_eq_true rfl) ⟨_, h.osome, rfl, rfl, rfl⟩ dX12_steps_16
  unfold f12_steps at h
  refine J_aload_n (i := 0) (p := 0) C dX12_steps_0 rfl rfl rfl ?_
  refine Jm_getI C fp_RX12_354 rfl rfl dX12_steps_1 rfl ?_
  refine J_if_eq (t := 16) C dX12_steps_4 (by decide) rfl (fun c_4 => ?_) (fun c_4 => ?_)
  · have h := h.pos c_4
    refine J.sub [] rfl ?_
    exact hj_16 μ h
  · have h := h.neg c_4
    refine J_aload_n (i := 0) (p := 0) C dX12_steps_7 rfl rfl rfl ?_
    refine Jm_getI C fp_RX12_357 rfl rfl dX12_steps_8 rfl ?_
    refine J_bipush (v := 40) C (by decide) dX12_steps_11 rfl ?_
    refine J_icmp_ne (t := 17) C dX12_steps_13 (by decide) rfl (fun c_5 => ?_) (fun c_5 => ?_)
    · have h := h.neg c_5
      refine J_aload_n (i := 0) (p := 0) C dX12_steps_17 rfl rfl rfl ?_
      refine Jm_getS (o2 := 27) (r2 := 2044) C fp_RX12_101 rfl rfl rfl dX12_steps_18 rfl ?_
      refine J_aload_n (i := 0) (p := 0) C dX12_steps_21 rfl rfl rfl ?_
      refine Jm_getI C fp_RX12_357 rfl rfl dX12_steps_22 rfl ?_
      refine J_iload_n (i := 1) (p := 1) C dX12_steps_25 rfl rfl rfl ?_
      obtain ⟨g_6, h⟩ := Ok.ofgd h
      obtain ⟨μx_5, e_μx_5, h⟩ := Ok.nm h
      refine Jm_iast C id rfl rfl g_6 e_μx_5 dX12_steps_26 rfl ?_
      refine J_aload_n (i := 0) (p := 0) C dX12_steps_27 rfl rfl rfl ?_
      refine Jm_getS (o2 := 28) (r2 := 2045) C fp_RX12_104 rfl rfl rfl dX12_steps_28 rfl ?_
      refine J_aload_n (i := 0) (p := 0) C dX12_steps_31 rfl rfl rfl ?_
      refine Jm_getI C fp_RX12_357 rfl rfl dX12_steps_32 rfl ?_
      refine J_iload_n (i := 2) (p := 2) C dX12_steps_35 rfl rfl rfl ?_
      obtain ⟨g_7, h⟩ := Ok.ofgd h
      obtain ⟨μx_6, e_μx_6, h⟩ := Ok.nm h
      refine Jm_iast C id rfl rfl g_7 e_μx_6 dX12_steps_36 rfl ?_
      refine J_aload_n (i := 0) (p := 0) C dX12_steps_37 rfl rfl rfl ?_
      refine Jm_getS (o2 := 29) (r2 := 2046) C fp_RX12_107 rfl rfl rfl dX12_steps_38 rfl ?_
      refine J_aload_n (i := 0) (p := 0) C dX12_steps_41 rfl rfl rfl ?_
      refine Jm_getI C fp_RX12_357 rfl rfl dX12_steps_42 rfl ?_
      refine J_iload_n (i := 3) (p := 3) C dX12_steps_45 rfl rfl rfl ?_
      obtain ⟨g_8, h⟩ := Ok.ofgd h
      obtain ⟨μx_7, e_μx_7, h⟩ := Ok.nm h
      refine Jm_iast C id rfl rfl g_8 e_μx_7 dX12_steps_46 rfl ?_
      refine J_aload_n (i := 0) (p := 0) C dX12_steps_47 rfl rfl rfl ?_
      refine Jm_getS (o2 := 30) (r2 := 2047) C fp_RX12_110 rfl rfl rfl dX12_steps_48 rfl ?_
      refine J_aload_n (i := 0) (p := 0) C dX12_steps_51 rfl rfl rfl ?_
      refine Jm_getI C fp_RX12_357 rfl rfl dX12_steps_52 rfl ?_
      refine J_aload_n (i := 0) (p := 0) C dX12_steps_55 rfl rfl rfl ?_
      refine Jm_getI C fp_RX12_161 rfl rfl dX12_steps_56 rfl ?_
      obtain ⟨g_9, h⟩ := Ok.ofgd h
      obtain ⟨μx_8, e_μx_8, h⟩ := Ok.nm h
      refine Jm_iast C id rfl rfl g_9 e_μx_8 dX12_steps_59 rfl ?_
      refine J_iconst (v := 0) C (by decide) dX12_steps_60 rfl ?_
      obtain ⟨x4_9, e_x4_9, h⟩ := Ok.nm h
      refine J_istoreE (i := 4) (lv' := [(4, .int x4_9), (0, .ref (K.2.2 + 2017)), (1, .int l1), (2, .int l2), (3, .int l3)]) C e_x4_9 dX12_steps_61 (Nat.le_of_ble_eq_true rfl) rfl rfl ?_
      refine J.sub [1, 0] rfl ?_
      exact hj_63 μx_8 x4_9 h
    · have h := h.pos (Decidable.not_not.mp c_5)
      refine J.sub [] rfl ?_
      exact hj_16 μ h
def f12_type (μ : Sto) : Option (Int32 × Sto) :=
  bnd (f12_types μ) fun p_1 =>
  if p_1.1 = 0 then
    bnd (f12_refuse p_1.2 (1 : Int32)) fun p_5 =>
    some (p_5.1, p_5.2)
  else
    bnd (f12_steps p_1.2 (0 : Int32) (0 : Int32) (0 : Int32)) fun p_3 =>
    bnd (f12_told p_3 (fI p_3 2017 5)) fun p_4 =>
    some (p_4.1, p_4.2)
set_option maxHeartbeats 4000000 in
set_option maxRecDepth 100000 in
theorem k12_type {l : Launch} {K : JK} (hl : l.stackTraces = false) {σ μ : Sto} {o : Int64}   {Qf : Int32 × Sto → Prop} (h : Ok (f12_type μ) Qf) : Con l K yX12_type (.code yX12_type cX12_type 1 (some .int) :: TB) 4 0 0 False [.ref (K.2.2 + 2017)] 2055 (jw K σ μ o) (PR Qf (fun p => some (.int p.1)) (fun p => jw K σ p.2 o)) PN := by
  refine Con.enter (own := RX12) hl (by decide) rfl (Nat.le_of_ble_eq_true rfl) ?_
  intro X hX hR C hret hnt
  generalize hQQ : jQ X K 0 0 (PR Qf (fun p => some (.int p.1)) (fun p => jw K σ p.2 o)) PN False = QQ
  change J X K 1 False QQ 0 0 2055 (jw K σ μ o) 0 [(0, .ref (K.2.2 + 2017))] []
  unfold f12_type at h
  refine J_aload_n (i := 0) (p := 0) C dX12_type_0 rfl rfl rfl ?_
  refine Jm_cV (rest := []) (st9 := fun p_1 => [.int p_1.1]) C hR hX cv_RX12_247 rfl (Nat.le_of_ble_eq_true rfl) (k12_types hl  (Ok.ofbnd h)) rfl rfl (Nat.le_of_ble_eq_true rfl) (Nat.le_of_ble_eq_true rfl) (Nat.le_of_ble_eq_true rfl) ⟨(Nat.le_of_ble_eq_true rfl), (Nat.le_of_ble_eq_true rfl)⟩ dX12_type_1 rfl (fun E n9 w9 hx => JT_n hx) (fun _ => rfl) (fun p_1 h => ?_)
  have h : Ok _ _ := h
  change J X K 1 False QQ 0 0 2055 (jw K σ p_1.2 o) 4 [(0, .ref (K.2.2 + 2017))] [.int p_1.1]
  refine J_if_ne (t := 13) C dX12_type_4 (by decide) rfl (fun c_2 => ?_) (fun c_2 => ?_)
  · have h := h.neg c_2
    refine J_aload_n (i := 0) (p := 0) C dX12_type_13 rfl rfl rfl ?_
    refine J_iconst (v := 0) C (by decide) dX12_type_14 rfl ?_
    refine J_iconst (v := 0) C (by decide) dX12_type_15 rfl ?_
    refine J_iconst (v := 0) C (by decide) dX12_type_16 rfl ?_
    refine Jm_cV (rest := []) (st9 := fun p_3 => []) C hR hX cv_RX12_250 rfl (Nat.le_of_ble_eq_true rfl) (k12_steps hl  (Ok.ofbnd h)) rfl rfl (Nat.le_of_ble_eq_true rfl) (Nat.le_of_ble_eq_true rfl) (Nat.le_of_ble_eq_true rfl) ⟨(Nat.le_of_ble_eq_true rfl), (Nat.le_of_ble_eq_true rfl)⟩ dX12_type_17 rfl (fun E n9 w9 hx => JT_n hx) (fun _ => rfl) (fun p_3 h => ?_)
    have h : Ok _ _ := h
    change J X K 1 False QQ 0 0 2055 (jw K σ p_3 o) 20 [(0, .ref (K.2.2 + 2017))] []
    refine J_aload_n (i := 0) (p := 0) C dX12_type_20 rfl rfl rfl ?_
    refine J_aload_n (i := 0) (p := 0) C dX12_type_21 rfl rfl rfl ?_
    refine Jm_getI C fp_RX12_138 rfl rfl dX12_type_22 rfl ?_
    refine Jm_cV (rest := []) (st9 := fun p_4 => [.int p_4.1]) C hR hX cv_RX12_209 rfl (Nat.le_of_ble_eq_true rfl) (k12_told hl  (Ok.ofbnd h)) rfl rfl (Nat.le_of_ble_eq_true rfl) (Nat.le_of_ble_eq_true rfl) (Nat.le_of_ble_eq_true rfl) ⟨(Nat.le_of_ble_eq_true rfl), (Nat.le_of_ble_eq_true rfl)⟩ dX12_type_25 rfl (fun E n9 w9 hx => JT_n hx) (fun _ => rfl) (fun p_4 h => ?_)
    have h : Ok _ _ := h
    change J X K 1 False QQ 0 0 2055 (jw K σ p_4.2 o) 28 [(0, .ref (K.2.2 + 2017))] [.int p_4.1]
    rw [← hQQ]
    exact J_iret C hret (Nat.le_of_ble_eq_true rfl) (Nat.le_of_ble_eq_true rfl) ⟨_, h.osome, rfl, rfl, rfl⟩ dX12_type_28
  · have h := h.pos (Decidable.not_not.mp c_2)
    refine J_aload_n (i := 0) (p := 0) C dX12_type_7 rfl rfl rfl ?_
    refine J_iconst (v := 1) C (by decide) dX12_type_8 rfl ?_
    refine Jm_cV (rest := []) (st9 := fun p_5 => [.int p_5.1]) C hR hX cv_RX12_206 rfl (Nat.le_of_ble_eq_true rfl) (k12_refuse hl  (Ok.ofbnd h)) rfl rfl (Nat.le_of_ble_eq_true rfl) (Nat.le_of_ble_eq_true rfl) (Nat.le_of_ble_eq_true rfl) ⟨(Nat.le_of_ble_eq_true rfl), (Nat.le_of_ble_eq_true rfl)⟩ dX12_type_9 rfl (fun E n9 w9 hx => JT_n hx) (fun _ => rfl) (fun p_5 h => ?_)
    have h : Ok _ _ := h
    change J X K 1 False QQ 0 0 2055 (jw K σ p_5.2 o) 12 [(0, .ref (K.2.2 + 2017))] [.int p_5.1]
    rw [← hQQ]
    exact J_iret C hret (Nat.le_of_ble_eq_true rfl) (Nat.le_of_ble_eq_true rfl) ⟨_, h.osome, rfl, rfl, rfl⟩ dX12_type_12
def f12_erases_j116 (l1 : Int32) (μ_116 : Sto) (l2_116 : Int32) (l3_116 : Int32) : Option ((Sto × Int32 × Int32) ⊕ Sto) :=
  stp (l3_116 + (1 : Int32)) fun x3_1 =>
  some (.inl (μ_116, l2_116, x3_1))
def f12_erases_j80 (l1 : Int32) (μ_80 : Sto) (l2_80 : Int32) (l3_80 : Int32) (l4_80 : Int32) (s0_80 : Int32) : Option ((Sto × Int32 × Int32) ⊕ Sto) :=
  stp s0_80 fun x5_2 =>
  if x5_2 ≤ l4_80 then
    f12_erases_j116 l1 μ_80 l2_80 l3_80
  else
    bnd (f12_adds μ_80 l4_80 x5_2 (0 : Int32) (0 : Int32)) fun p_2 =>
    stp (uI p_2 2017 42 ((fI p_2 2017 42) + (x5_2 - l4_80))) fun μx_3 =>
    stp x5_2 fun x2_4 =>
    f12_erases_j116 l1 μx_3 x2_4 l3_80
def f12_erases_j47 (l1 : Int32) (μ_47 : Sto) (l2_47 : Int32) (l3_47 : Int32) (s0_47 : Int32) (s1_47 : Int32) : Option ((Sto × Int32 × Int32) ⊕ Sto) :=
  bnd (f12_more s0_47 s1_47) fun p_3 =>
  stp p_3 fun x4_5 =>
  if 0 ≤ l1 then
    gd (inb l3_47 8) <|
    bnd (f12_less (fI μ_47 2017 5) ((aI μ_47 2019 (Int32.toNatClampNeg l3_47)) + l1)) fun p_6 =>
    f12_erases_j80 l1 μ_47 l2_47 l3_47 x4_5 p_6
  else
    gd (inb l3_47 8) <|
    f12_erases_j80 l1 μ_47 l2_47 l3_47 x4_5 (aI μ_47 2019 (Int32.toNatClampNeg l3_47))
def f12_erases_b13 (l1 : Int32) (μ_13 : Sto) (l2_13 : Int32) (l3_13 : Int32) : Option ((Sto × Int32 × Int32) ⊕ Sto) :=
  if (fI μ_13 2017 6) ≤ l3_13 then
    some (.inr μ_13)
  else
    if 0 ≤ l1 then
      gd (inb l3_13 8) <|
      f12_erases_j47 l1 μ_13 l2_13 l3_13 l2_13 (aI μ_13 2019 (Int32.toNatClampNeg l3_13))
    else
      gd (inb l3_13 8) <|
      bnd (f12_more (0 : Int32) ((aI μ_13 2019 (Int32.toNatClampNeg l3_13)) + l1)) fun p_14 =>
      f12_erases_j47 l1 μ_13 l2_13 l3_13 l2_13 p_14
def f12_erases_j13 (l1 : Int32) (μ_13 : Sto) (l2_13 : Int32) (l3_13 : Int32) : Option (Int32 × Sto) :=
  bnd (loopF (fun s_13 => f12_erases_b13 l1 s_13.1 s_13.2.1 s_13.2.2) FU (μ_13, l2_13, l3_13)) fun r_13 =>
    bnd (f12_acts r_13) fun p_15 =>
    gd (isB p_15.1) <|
    some (p_15.1, p_15.2)
def f12_erases (μ : Sto) (l1 : Int32) : Option (Int32 × Sto) :=
  bnd (f12_begins μ) fun p_17 =>
  stp (uI p_17 2017 42 (0 : Int32)) fun μx_6 =>
  stp (0 : Int32) fun x2_7 =>
  stp (0 : Int32) fun x3_8 =>
  f12_erases_j13 l1 μx_6 x2_7 x3_8
set_option maxHeartbeats 4000000 in
set_option maxRecDepth 100000 in
theorem k12_erases {l : Launch} {K : JK} (hl : l.stackTraces = false) {σ μ : Sto} {o : Int64} {l1 : Int32}  {Qf : Int32 × Sto → Prop} (h : Ok (f12_erases μ l1) Qf) : Con l K yX12_erases (.code yX12_erases cX12_erases 6 (some .boolean) :: TB) 3 0 0 False [.ref (K.2.2 + 2017), .int l1] 2055 (jw K σ μ o) (PR Qf (fun p => some (.int p.1)) (fun p => jw K σ p.2 o)) PN := by
  refine Con.enter (own := RX12) hl (by decide) rfl (Nat.le_of_ble_eq_true rfl) ?_
  intro X hX hR C hret hnt
  generalize hQQ : jQ X K 0 0 (PR Qf (fun p => some (.int p.1)) (fun p => jw K σ p.2 o)) PN False = QQ
  change J X K 6 False QQ 0 0 2055 (jw K σ μ o) 0 [(0, .ref (K.2.2 + 2017)), (1, .int l1)] []
  have hj_13 : (∀ (μ_13 : Sto) (l2_13 : Int32) (l3_13 : Int32), Ok (f12_erases_j13 l1 μ_13 l2_13 l3_13) Qf → J X K 6 False QQ 0 0 2055 (jw K σ μ_13 o) 13 [(0, .ref (K.2.2 + 2017)), (1, .int l1), (2, .int l2_13), (3, .int l3_13)] []) := by
    intro μ_13 l2_13 l3_13 h
    unfold f12_erases_j13 at h
    refine loop_gen (S := Sto × Int32 × Int32) (P := fun s_13 => J X K 6 False QQ 0 0 2055 (jw K σ s_13.1 o) 13 [(0, .ref (K.2.2 + 2017)), (1, .int l1), (2, .int s_13.2.1), (3, .int s_13.2.2)] []) ?_ FU (μ_13, l2_13, l3_13) (Ok.ofbnd h)
    intro B_13 hB_13 hE_13 s_13 h
    obtain ⟨μ_13, l2_13, l3_13⟩ := s_13
    have h : Ok (f12_erases_b13 l1 μ_13 l2_13 l3_13) B_13 := h
    change J X K 6 False QQ 0 0 2055 (jw K σ μ_13 o) 13 [(0, .ref (K.2.2 + 2017)), (1, .int l1), (2, .int l2_13), (3, .int l3_13)] []
    have hj_116 : (∀ (μ_116 : Sto) (l2_116 : Int32) (l3_116 : Int32), Ok (f12_erases_j116 l1 μ_116 l2_116 l3_116) B_13 → J X K 6 False QQ 0 0 2055 (jw K σ μ_116 o) 116 [(0, .ref (K.2.2 + 2017)), (1, .int l1), (2, .int l2_116), (3, .int l3_116)] []) := by
      intro μ_116 l2_116 l3_116 h
      unfold f12_erases_j116 at h
      obtain ⟨x3_1, e_x3_1, h⟩ := Ok.nm h
      refine J_iincE (i := 3) (p := 3) (lv' := [(3, .int x3_1), (0, .ref (K.2.2 + 2017)), (1, .int l1), (2, .int l2_116)]) C e_x3_1 dX12_erases_116 rfl (by decide) (Nat.le_of_ble_eq_true rfl) rfl rfl ?_
      refine J_goto (t := 13) C dX12_erases_119 (by decide) ?_
      refine J.sub [1, 2, 3, 0] rfl ?_
      exact hB_13 (μ_116, l2_116, x3_1) h.osome
    have hj_80 : (∀ (μ_80 : Sto) (l2_80 : Int32) (l3_80 : Int32) (l4_80 : Int32) (s0_80 : Int32), Ok (f12_erases_j80 l1 μ_80 l2_80 l3_80 l4_80 s0_80) B_13 → J X K 6 False QQ 0 0 2055 (jw K σ μ_80 o) 80 [(0, .ref (K.2.2 + 2017)), (1, .int l1), (2, .int l2_80), (3, .int l3_80), (4, .int l4_80)] [.int s0_80]) := by
      intro μ_80 l2_80 l3_80 l4_80 s0_80 h
      unfold f12_erases_j80 at h
      obtain ⟨x5_2, e_x5_2, h⟩ := Ok.nm h
      refine J_istoreE (i := 5) (lv' := [(5, .int x5_2), (0, .ref (K.2.2 + 2017)), (1, .int l1), (2, .int l2_80), (3, .int l3_80), (4, .int l4_80)]) C e_x5_2 dX12_erases_80 (Nat.le_of_ble_eq_true rfl) rfl rfl ?_
      refine J_iload (i := 4) (p := 5) C dX12_erases_82 rfl rfl ?_
      refine J_iload (i := 5) (p := 0) C dX12_erases_84 rfl rfl ?_
      refine J_icmp_ge (t := 116) C dX12_erases_86 (by decide) rfl (fun c_1 => ?_) (fun c_1 => ?_)
      · have h := h.pos c_1
        refine J.sub [1, 2, 3, 4] rfl ?_
        exact hj_116 μ_80 l2_80 l3_80 h
      · have h := h.neg c_1
        refine J_aload_n (i := 0) (p := 1) C dX12_erases_89 rfl rfl rfl ?_
        refine J_iload (i := 4) (p := 5) C dX12_erases_90 rfl rfl ?_
        refine J_iload (i := 5) (p := 0) C dX12_erases_92 rfl rfl ?_
        refine J_iconst (v := 0) C (by decide) dX12_erases_94 rfl ?_
        refine J_iconst (v := 0) C (by decide) dX12_erases_95 rfl ?_
        refine Jm_cV (rest := []) (st9 := fun p_2 => []) C hR hX cv_RX12_240 rfl (Nat.le_of_ble_eq_true rfl) (k12_adds hl  (Ok.ofbnd h)) rfl rfl (Nat.le_of_ble_eq_true rfl) (Nat.le_of_ble_eq_true rfl) (Nat.le_of_ble_eq_true rfl) ⟨(Nat.le_of_ble_eq_true rfl), (Nat.le_of_ble_eq_true rfl)⟩ dX12_erases_96 rfl (fun E n9 w9 hx => JT_n hx) (fun _ => rfl) (fun p_2 h => ?_)
        have h : Ok _ _ := h
        change J X K 6 False QQ 0 0 2055 (jw K σ p_2 o) 99 [(5, .int x5_2), (0, .ref (K.2.2 + 2017)), (1, .int l1), (2, .int l2_80), (3, .int l3_80), (4, .int l4_80)] []
        refine J_aload_n (i := 0) (p := 1) C dX12_erases_99 rfl rfl rfl ?_
        refine J_dup C rfl dX12_erases_100 rfl ?_
        refine Jm_getI C fp_RX12_254 rfl rfl dX12_erases_101 rfl ?_
        refine J_iload (i := 5) (p := 0) C dX12_erases_104 rfl rfl ?_
        refine J_iload (i := 4) (p := 5) C dX12_erases_106 rfl rfl ?_
        refine J_isub C dX12_erases_108 rfl ?_
        refine J_iadd C dX12_erases_109 rfl ?_
        obtain ⟨μx_3, e_μx_3, h⟩ := Ok.nm h
        refine Jm_putI C id fp_RX12_254 fw_11_42 rfl rfl rfl e_μx_3 dX12_erases_110 rfl ?_
        refine J_iload (i := 5) (p := 0) C dX12_erases_113 rfl rfl ?_
        obtain ⟨x2_4, e_x2_4, h⟩ := Ok.nm h
        refine J_istoreE_n (i := 2) (lv' := [(2, .int x2_4), (5, .int x5_2), (0, .ref (K.2.2 + 2017)), (1, .int l1), (3, .int l3_80), (4, .int l4_80)]) C e_x2_4 dX12_erases_115 rfl (Nat.le_of_ble_eq_true rfl) rfl rfl ?_
        refine J.sub [2, 3, 0, 4] rfl ?_
        exact hj_116 μx_3 x2_4 l3_80 h
    have hj_47 : (∀ (μ_47 : Sto) (l2_47 : Int32) (l3_47 : Int32) (s0_47 : Int32) (s1_47 : Int32), Ok (f12_erases_j47 l1 μ_47 l2_47 l3_47 s0_47 s1_47) B_13 → J X K 6 False QQ 0 0 2055 (jw K σ μ_47 o) 47 [(0, .ref (K.2.2 + 2017)), (1, .int l1), (2, .int l2_47), (3, .int l3_47)] [.int s1_47, .int s0_47]) := by
      intro μ_47 l2_47 l3_47 s0_47 s1_47 h
      unfold f12_erases_j47 at h
      refine J_cS (rest := []) (st9 := fun p_3 => [.int p_3]) C hR hX cs_RX12_257 (k12_more hl  (Ok.ofbnd h)) rfl rfl (Nat.le_of_ble_eq_true rfl) (Nat.le_of_ble_eq_true rfl) (Nat.le_of_ble_eq_true rfl) ⟨(Nat.le_of_ble_eq_true rfl), (Nat.le_of_ble_eq_true rfl)⟩ dX12_erases_47 rfl (fun E n9 w9 hx => JT_n hx) (fun _ => rfl) (fun p_3 h => ?_)
      have h : Ok _ _ := h
      change J X K 6 False QQ 0 0 2055 (jw K σ μ_47 o) 50 [(0, .ref (K.2.2 + 2017)), (1, .int l1), (2, .int l2_47), (3, .int l3_47)] [.int p_3]
      obtain ⟨x4_5, e_x4_5, h⟩ := Ok.nm h
      refine J_istoreE (i := 4) (lv' := [(4, .int x4_5), (0, .ref (K.2.2 + 2017)), (1, .int l1), (2, .int l2_47), (3, .int l3_47)]) C e_x4_5 dX12_erases_50 (Nat.le_of_ble_eq_true rfl) rfl rfl ?_
      refine J_iload_n (i := 1) (p := 2) C dX12_erases_52 rfl rfl rfl ?_
      refine J_if_ge (t := 65) C dX12_erases_53 (by decide) rfl (fun c_4 => ?_) (fun c_4 => ?_)
      · have h := h.pos c_4
        refine J_aload_n (i := 0) (p := 1) C dX12_erases_65 rfl rfl rfl ?_
        refine Jm_getI C fp_RX12_138 rfl rfl dX12_erases_66 rfl ?_
        refine J_aload_n (i := 0) (p := 1) C dX12_erases_69 rfl rfl rfl ?_
        refine Jm_getS (o2 := 2) (r2 := 2019) C fp_RX12_13 rfl rfl rfl dX12_erases_70 rfl ?_
        refine J_iload_n (i := 3) (p := 4) C dX12_erases_73 rfl rfl rfl ?_
        obtain ⟨g_5, h⟩ := Ok.ofgd h
        refine Jm_iald C rfl rfl g_5 dX12_erases_74 rfl ?_
        refine J_iload_n (i := 1) (p := 2) C dX12_erases_75 rfl rfl rfl ?_
        refine J_iadd C dX12_erases_76 rfl ?_
        refine J_cS (rest := []) (st9 := fun p_6 => [.int p_6]) C hR hX cs_RX12_261 (k12_less hl  (Ok.ofbnd h)) rfl rfl (Nat.le_of_ble_eq_true rfl) (Nat.le_of_ble_eq_true rfl) (Nat.le_of_ble_eq_true rfl) ⟨(Nat.le_of_ble_eq_true rfl), (Nat.le_of_ble_eq_true rfl)⟩ dX12_erases_77 rfl (fun E n9 w9 hx => JT_n hx) (fun _ => rfl) (fun p_6 h => ?_)
        have h : Ok _ _ := h
        change J X K 6 False QQ 0 0 2055 (jw K σ μ_47 o) 80 [(4, .int x4_5), (0, .ref (K.2.2 + 2017)), (1, .int l1), (2, .int l2_47), (3, .int l3_47)] [.int p_6]
        refine J.sub [1, 2, 3, 4, 0] rfl ?_
        exact hj_80 μ_47 l2_47 l3_47 x4_5 p_6 h
      · have h := h.neg c_4
        refine J_aload_n (i := 0) (p := 1) C dX12_erases_56 rfl rfl rfl ?_
        refine Jm_getS (o2 := 2) (r2 := 2019) C fp_RX12_13 rfl rfl rfl dX12_erases_57 rfl ?_
        refine J_iload_n (i := 3) (p := 4) C dX12_erases_60 rfl rfl rfl ?_
        obtain ⟨g_7, h⟩ := Ok.ofgd h
        refine Jm_iald C rfl rfl g_7 dX12_erases_61 rfl ?_
        refine J_goto (t := 80) C dX12_erases_62 (by decide) ?_
        refine J.sub [1, 2, 3, 4, 0] rfl ?_
        exact hj_80 μ_47 l2_47 l3_47 x4_5 (aI μ_47 2019 (Int32.toNatClampNeg l3_47)) h
    unfold f12_erases_b13 at h
    refine J_iload_n (i := 3) (p := 3) C dX12_erases_13 rfl rfl rfl ?_
    refine J_aload_n (i := 0) (p := 0) C dX12_erases_14 rfl rfl rfl ?_
    refine Jm_getI C fp_RX12_26 rfl rfl dX12_erases_15 rfl ?_
    refine J_icmp_ge (t := 122) C dX12_erases_18 (by decide) rfl (fun c_8 => ?_) (fun c_8 => ?_)
    · have h := h.pos c_8
      have h := hE_13 μ_13 h.osome
      try dsimp only at h
      refine J_aload_n (i := 0) (p := 0) C dX12_erases_122 rfl rfl rfl ?_
      refine Jm_cV (rest := []) (st9 := fun p_9 => [.int p_9.1]) C hR hX cv_RX12_244 rfl (Nat.le_of_ble_eq_true rfl) (k12_acts hl  (Ok.ofbnd h)) rfl rfl (Nat.le_of_ble_eq_true rfl) (Nat.le_of_ble_eq_true rfl) (Nat.le_of_ble_eq_true rfl) ⟨(Nat.le_of_ble_eq_true rfl), (Nat.le_of_ble_eq_true rfl)⟩ dX12_erases_123 rfl (fun E n9 w9 hx => JT_n hx) (fun _ => rfl) (fun p_9 h => ?_)
      have h : Ok _ _ := h
      change J X K 6 False QQ 0 0 2055 (jw K σ p_9.2 o) 126 [(0, .ref (K.2.2 + 2017)), (1, .int l1), (2, .int l2_13), (3, .int l3_13)] [.int p_9.1]
      obtain ⟨g_10, h⟩ := Ok.ofgd h
      rw [← hQQ]
      exact J_zret C hret (narB g_10).1 (Nat.le_of_ble_eq_true rfl) (Nat.le_of_ble_eq_true rfl) ⟨_, h.osome, rfl, rfl, rfl⟩ dX12_erases_126
    · have h := h.neg c_8
      refine J_iload_n (i := 2) (p := 2) C dX12_erases_21 rfl rfl rfl ?_
      refine J_iload_n (i := 1) (p := 1) C dX12_erases_22 rfl rfl rfl ?_
      refine J_if_ge (t := 41) C dX12_erases_23 (by decide) rfl (fun c_11 => ?_) (fun c_11 => ?_)
      · have h := h.pos c_11
        refine J_aload_n (i := 0) (p := 0) C dX12_erases_41 rfl rfl rfl ?_
        refine Jm_getS (o2 := 2) (r2 := 2019) C fp_RX12_13 rfl rfl rfl dX12_erases_42 rfl ?_
        refine J_iload_n (i := 3) (p := 3) C dX12_erases_45 rfl rfl rfl ?_
        obtain ⟨g_12, h⟩ := Ok.ofgd h
        refine Jm_iald C rfl rfl g_12 dX12_erases_46 rfl ?_
        exact hj_47 μ_13 l2_13 l3_13 l2_13 (aI μ_13 2019 (Int32.toNatClampNeg l3_13)) h
      · have h := h.neg c_11
        refine J_iconst (v := 0) C (by decide) dX12_erases_26 rfl ?_
        refine J_aload_n (i := 0) (p := 0) C dX12_erases_27 rfl rfl rfl ?_
        refine Jm_getS (o2 := 2) (r2 := 2019) C fp_RX12_13 rfl rfl rfl dX12_erases_28 rfl ?_
        refine J_iload_n (i := 3) (p := 3) C dX12_erases_31 rfl rfl rfl ?_
        obtain ⟨g_13, h⟩ := Ok.ofgd h
        refine Jm_iald C rfl rfl g_13 dX12_erases_32 rfl ?_
        refine J_iload_n (i := 1) (p := 1) C dX12_erases_33 rfl rfl rfl ?_
        refine J_iadd C dX12_erases_34 rfl ?_
        refine J_cS (rest := [.int l2_13]) (st9 := fun p_14 => [.int p_14, .int l2_13]) C hR hX cs_RX12_257 (k12_more hl  (Ok.ofbnd h)) rfl rfl (Nat.le_of_ble_eq_true rfl) (Nat.le_of_ble_eq_true rfl) (Nat.le_of_ble_eq_true rfl) ⟨(Nat.le_of_ble_eq_true rfl), (Nat.le_of_ble_eq_true rfl)⟩ dX12_erases_35 rfl (fun E n9 w9 hx => JT_n hx) (fun _ => rfl) (fun p_14 h => ?_)
        have h : Ok _ _ := h
        change J X K 6 False QQ 0 0 2055 (jw K σ μ_13 o) 38 [(0, .ref (K.2.2 + 2017)), (1, .int l1), (2, .int l2_13), (3, .int l3_13)] [.int p_14, .int l2_13]
        refine J_goto (t := 47) C dX12_erases_38 (by decide) ?_
        exact hj_47 μ_13 l2_13 l3_13 l2_13 p_14 h
  unfold f12_erases at h
  refine J_aload_n (i := 0) (p := 0) C dX12_erases_0 rfl rfl rfl ?_
  refine Jm_cV (rest := []) (st9 := fun p_17 => []) C hR hX cv_RX12_234 rfl (Nat.le_of_ble_eq_true rfl) (k12_begins hl  (Ok.ofbnd h)) rfl rfl (Nat.le_of_ble_eq_true rfl) (Nat.le_of_ble_eq_true rfl) (Nat.le_of_ble_eq_true rfl) ⟨(Nat.le_of_ble_eq_true rfl), (Nat.le_of_ble_eq_true rfl)⟩ dX12_erases_1 rfl (fun E n9 w9 hx => JT_n hx) (fun _ => rfl) (fun p_17 h => ?_)
  have h : Ok _ _ := h
  change J X K 6 False QQ 0 0 2055 (jw K σ p_17 o) 4 [(0, .ref (K.2.2 + 2017)), (1, .int l1)] []
  refine J_aload_n (i := 0) (p := 0) C dX12_erases_4 rfl rfl rfl ?_
  refine J_iconst (v := 0) C (by decide) dX12_erases_5 rfl ?_
  obtain ⟨μx_6, e_μx_6, h⟩ := Ok.nm h
  refine Jm_putI C id fp_RX12_254 fw_11_42 rfl rfl rfl e_μx_6 dX12_erases_6 rfl ?_
  refine J_iconst (v := 0) C (by decide) dX12_erases_9 rfl ?_
  obtain ⟨x2_7, e_x2_7, h⟩ := Ok.nm h
  refine J_istoreE_n (i := 2) (lv' := [(2, .int x2_7), (0, .ref (K.2.2 + 2017)), (1, .int l1)]) C e_x2_7 dX12_erases_10 rfl (Nat.le_of_ble_eq_true rfl) rfl rfl ?_
  refine J_iconst (v := 0) C (by decide) dX12_erases_11 rfl ?_
  obtain ⟨x3_8, e_x3_8, h⟩ := Ok.nm h
  refine J_istoreE_n (i := 3) (lv' := [(3, .int x3_8), (2, .int x2_7), (0, .ref (K.2.2 + 2017)), (1, .int l1)]) C e_x3_8 dX12_erases_12 rfl (Nat.le_of_ble_eq_true rfl) rfl rfl ?_
  refine J.sub [2, 3, 1, 0] rfl ?_
  exact hj_13 μx_6 x2_7 x3_8 h
def f12_erase (μ : Sto) (l1 : Int32) : Option (Int32 × Sto) :=
  bnd (f12_in l1 (-100 : Int32) (100 : Int32)) fun p_1 =>
  if p_1 = 0 then
    bnd (f12_refuse μ (1 : Int32)) fun p_8 =>
    some (p_8.1, p_8.2)
  else
    bnd (f12_erases μ l1) fun p_3 =>
    if p_3.1 = 0 then
      bnd (f12_refuse p_3.2 (2 : Int32)) fun p_7 =>
      some (p_7.1, p_7.2)
    else
      bnd (f12_steps p_3.2 (1 : Int32) l1 (0 : Int32)) fun p_5 =>
      bnd (f12_told p_5 (fI p_5 2017 42)) fun p_6 =>
      some (p_6.1, p_6.2)
set_option maxHeartbeats 4000000 in
set_option maxRecDepth 100000 in
theorem k12_erase {l : Launch} {K : JK} (hl : l.stackTraces = false) {σ μ : Sto} {o : Int64} {l1 : Int32}  {Qf : Int32 × Sto → Prop} (h : Ok (f12_erase μ l1) Qf) : Con l K yX12_erase (.code yX12_erase cX12_erase 2 (some .int) :: TB) 4 0 0 False [.ref (K.2.2 + 2017), .int l1] 2055 (jw K σ μ o) (PR Qf (fun p => some (.int p.1)) (fun p => jw K σ p.2 o)) PN := by
  refine Con.enter (own := RX12) hl (by decide) rfl (Nat.le_of_ble_eq_true rfl) ?_
  intro X hX hR C hret hnt
  generalize hQQ : jQ X K 0 0 (PR Qf (fun p => some (.int p.1)) (fun p => jw K σ p.2 o)) PN False = QQ
  change J X K 2 False QQ 0 0 2055 (jw K σ μ o) 0 [(0, .ref (K.2.2 + 2017)), (1, .int l1)] []
  unfold f12_erase at h
  refine J_iload_n (i := 1) (p := 1) C dX12_erase_0 rfl rfl rfl ?_
  refine J_bipush (v := -100) C (by decide) dX12_erase_1 rfl ?_
  refine J_bipush (v := 100) C (by decide) dX12_erase_3 rfl ?_
  refine J_cS (rest := []) (st9 := fun p_1 => [.int p_1]) C hR hX cs_RX12_134 (k12_in hl  (Ok.ofbnd h)) rfl rfl (Nat.le_of_ble_eq_true rfl) (Nat.le_of_ble_eq_true rfl) (Nat.le_of_ble_eq_true rfl) ⟨(Nat.le_of_ble_eq_true rfl), (Nat.le_of_ble_eq_true rfl)⟩ dX12_erase_5 rfl (fun E n9 w9 hx => JT_n hx) (fun _ => rfl) (fun p_1 h => ?_)
  have h : Ok _ _ := h
  change J X K 2 False QQ 0 0 2055 (jw K σ μ o) 8 [(0, .ref (K.2.2 + 2017)), (1, .int l1)] [.int p_1]
  refine J_if_ne (t := 17) C dX12_erase_8 (by decide) rfl (fun c_2 => ?_) (fun c_2 => ?_)
  · have h := h.neg c_2
    refine J_aload_n (i := 0) (p := 0) C dX12_erase_17 rfl rfl rfl ?_
    refine J_iload_n (i := 1) (p := 1) C dX12_erase_18 rfl rfl rfl ?_
    refine Jm_cV (rest := []) (st9 := fun p_3 => [.int p_3.1]) C hR hX cv_RX12_264 rfl (Nat.le_of_ble_eq_true rfl) (k12_erases hl  (Ok.ofbnd h)) rfl rfl (Nat.le_of_ble_eq_true rfl) (Nat.le_of_ble_eq_true rfl) (Nat.le_of_ble_eq_true rfl) ⟨(Nat.le_of_ble_eq_true rfl), (Nat.le_of_ble_eq_true rfl)⟩ dX12_erase_19 rfl (fun E n9 w9 hx => JT_n hx) (fun _ => rfl) (fun p_3 h => ?_)
    have h : Ok _ _ := h
    change J X K 2 False QQ 0 0 2055 (jw K σ p_3.2 o) 22 [(0, .ref (K.2.2 + 2017)), (1, .int l1)] [.int p_3.1]
    refine J_if_ne (t := 31) C dX12_erase_22 (by decide) rfl (fun c_4 => ?_) (fun c_4 => ?_)
    · have h := h.neg c_4
      refine J_aload_n (i := 0) (p := 0) C dX12_erase_31 rfl rfl rfl ?_
      refine J_iconst (v := 1) C (by decide) dX12_erase_32 rfl ?_
      refine J_iload_n (i := 1) (p := 1) C dX12_erase_33 rfl rfl rfl ?_
      refine J_iconst (v := 0) C (by decide) dX12_erase_34 rfl ?_
      refine Jm_cV (rest := []) (st9 := fun p_5 => []) C hR hX cv_RX12_250 rfl (Nat.le_of_ble_eq_true rfl) (k12_steps hl  (Ok.ofbnd h)) rfl rfl (Nat.le_of_ble_eq_true rfl) (Nat.le_of_ble_eq_true rfl) (Nat.le_of_ble_eq_true rfl) ⟨(Nat.le_of_ble_eq_true rfl), (Nat.le_of_ble_eq_true rfl)⟩ dX12_erase_35 rfl (fun E n9 w9 hx => JT_n hx) (fun _ => rfl) (fun p_5 h => ?_)
      have h : Ok _ _ := h
      change J X K 2 False QQ 0 0 2055 (jw K σ p_5 o) 38 [(0, .ref (K.2.2 + 2017)), (1, .int l1)] []
      refine J_aload_n (i := 0) (p := 0) C dX12_erase_38 rfl rfl rfl ?_
      refine J_aload_n (i := 0) (p := 0) C dX12_erase_39 rfl rfl rfl ?_
      refine Jm_getI C fp_RX12_254 rfl rfl dX12_erase_40 rfl ?_
      refine Jm_cV (rest := []) (st9 := fun p_6 => [.int p_6.1]) C hR hX cv_RX12_209 rfl (Nat.le_of_ble_eq_true rfl) (k12_told hl  (Ok.ofbnd h)) rfl rfl (Nat.le_of_ble_eq_true rfl) (Nat.le_of_ble_eq_true rfl) (Nat.le_of_ble_eq_true rfl) ⟨(Nat.le_of_ble_eq_true rfl), (Nat.le_of_ble_eq_true rfl)⟩ dX12_erase_43 rfl (fun E n9 w9 hx => JT_n hx) (fun _ => rfl) (fun p_6 h => ?_)
      have h : Ok _ _ := h
      change J X K 2 False QQ 0 0 2055 (jw K σ p_6.2 o) 46 [(0, .ref (K.2.2 + 2017)), (1, .int l1)] [.int p_6.1]
      rw [← hQQ]
      exact J_iret C hret (Nat.le_of_ble_eq_true rfl) (Nat.le_of_ble_eq_true rfl) ⟨_, h.osome, rfl, rfl, rfl⟩ dX12_erase_46
    · have h := h.pos (Decidable.not_not.mp c_4)
      refine J_aload_n (i := 0) (p := 0) C dX12_erase_25 rfl rfl rfl ?_
      refine J_iconst (v := 2) C (by decide) dX12_erase_26 rfl ?_
      refine Jm_cV (rest := []) (st9 := fun p_7 => [.int p_7.1]) C hR hX cv_RX12_206 rfl (Nat.le_of_ble_eq_true rfl) (k12_refuse hl  (Ok.ofbnd h)) rfl rfl (Nat.le_of_ble_eq_true rfl) (Nat.le_of_ble_eq_true rfl) (Nat.le_of_ble_eq_true rfl) ⟨(Nat.le_of_ble_eq_true rfl), (Nat.le_of_ble_eq_true rfl)⟩ dX12_erase_27 rfl (fun E n9 w9 hx => JT_n hx) (fun _ => rfl) (fun p_7 h => ?_)
      have h : Ok _ _ := h
      change J X K 2 False QQ 0 0 2055 (jw K σ p_7.2 o) 30 [(0, .ref (K.2.2 + 2017)), (1, .int l1)] [.int p_7.1]
      rw [← hQQ]
      exact J_iret C hret (Nat.le_of_ble_eq_true rfl) (Nat.le_of_ble_eq_true rfl) ⟨_, h.osome, rfl, rfl, rfl⟩ dX12_erase_30
  · have h := h.pos (Decidable.not_not.mp c_2)
    refine J_aload_n (i := 0) (p := 0) C dX12_erase_11 rfl rfl rfl ?_
    refine J_iconst (v := 1) C (by decide) dX12_erase_12 rfl ?_
    refine Jm_cV (rest := []) (st9 := fun p_8 => [.int p_8.1]) C hR hX cv_RX12_206 rfl (Nat.le_of_ble_eq_true rfl) (k12_refuse hl  (Ok.ofbnd h)) rfl rfl (Nat.le_of_ble_eq_true rfl) (Nat.le_of_ble_eq_true rfl) (Nat.le_of_ble_eq_true rfl) ⟨(Nat.le_of_ble_eq_true rfl), (Nat.le_of_ble_eq_true rfl)⟩ dX12_erase_13 rfl (fun E n9 w9 hx => JT_n hx) (fun _ => rfl) (fun p_8 h => ?_)
    have h : Ok _ _ := h
    change J X K 2 False QQ 0 0 2055 (jw K σ p_8.2 o) 16 [(0, .ref (K.2.2 + 2017)), (1, .int l1)] [.int p_8.1]
    rw [← hQQ]
    exact J_iret C hret (Nat.le_of_ble_eq_true rfl) (Nat.le_of_ble_eq_true rfl) ⟨_, h.osome, rfl, rfl, rfl⟩ dX12_erase_16
def f12_replace_j75 (l1 : Int32) (l2 : Int32) (μ_75 : Sto) (s0_75 : Int32) : Option (Int32 × Sto) :=
  some (s0_75, μ_75)
def f12_replace_j16 (l1 : Int32) (l2 : Int32) (μ_16 : Sto) : Option (Int32 × Sto) :=
  bnd (f12_refuse μ_16 (1 : Int32)) fun p_1 =>
  some (p_1.1, p_1.2)
def f12_replace (μ : Sto) (l1 : Int32) (l2 : Int32) : Option (Int32 × Sto) :=
  bnd (f12_isPlace μ l1) fun p_2 =>
  if p_2 = 0 then
    f12_replace_j16 l1 l2 μ
  else
    bnd (f12_isPlace μ l2) fun p_4 =>
    if p_4 = 0 then
      f12_replace_j16 l1 l2 μ
    else
      if l1 ≤ l2 then
        bnd (f12_begins μ) fun p_7 =>
        bnd (f12_putsTape p_7) fun p_8 =>
        bnd (f12_adds p_8 l1 l2 (0 : Int32) (fI p_8 2017 28)) fun p_9 =>
        bnd (f12_acts p_9) fun p_10 =>
        if p_10.1 = 0 then
          bnd (f12_refuse p_10.2 (3 : Int32)) fun p_12 =>
          f12_replace_j75 l1 l2 p_12.2 p_12.1
        else
          bnd (f12_told p_10.2 (fI p_10.2 2017 5)) fun p_13 =>
          f12_replace_j75 l1 l2 p_13.2 p_13.1
      else
        bnd (f12_refuse μ (2 : Int32)) fun p_14 =>
        some (p_14.1, p_14.2)
set_option maxHeartbeats 4000000 in
set_option maxRecDepth 100000 in
theorem k12_replace {l : Launch} {K : JK} (hl : l.stackTraces = false) {σ μ : Sto} {o : Int64} {l1 : Int32} {l2 : Int32}  {Qf : Int32 × Sto → Prop} (h : Ok (f12_replace μ l1 l2) Qf) : Con l K yX12_replace (.code yX12_replace cX12_replace 3 (some .int) :: TB) 3 0 0 False [.ref (K.2.2 + 2017), .int l1, .int l2] 2055 (jw K σ μ o) (PR Qf (fun p => some (.int p.1)) (fun p => jw K σ p.2 o)) PN := by
  refine Con.enter (own := RX12) hl (by decide) rfl (Nat.le_of_ble_eq_true rfl) ?_
  intro X hX hR C hret hnt
  generalize hQQ : jQ X K 0 0 (PR Qf (fun p => some (.int p.1)) (fun p => jw K σ p.2 o)) PN False = QQ
  change J X K 3 False QQ 0 0 2055 (jw K σ μ o) 0 [(0, .ref (K.2.2 + 2017)), (1, .int l1), (2, .int l2)] []
  have hj_75 : (∀ (μ_75 : Sto) (s0_75 : Int32), Ok (f12_replace_j75 l1 l2 μ_75 s0_75) Qf → J X K 3 False QQ 0 0 2055 (jw K σ μ_75 o) 75 [] [.int s0_75]) := by
    intro μ_75 s0_75 h
    unfold f12_replace_j75 at h
    rw [← hQQ]
    exact J_iret C hret (Nat.le_of_ble_eq_true rfl) (Nat.le_of_ble_eq_true rfl) ⟨_, h.osome, rfl, rfl, rfl⟩ dX12_replace_75
  have hj_16 : (∀ (μ_16 : Sto), Ok (f12_replace_j16 l1 l2 μ_16) Qf → J X K 3 False QQ 0 0 2055 (jw K σ μ_16 o) 16 [(0, .ref (K.2.2 + 2017))] []) := by
    intro μ_16 h
    unfold f12_replace_j16 at h
    refine J_aload_n (i := 0) (p := 0) C dX12_replace_16 rfl rfl rfl ?_
    refine J_iconst (v := 1) C (by decide) dX12_replace_17 rfl ?_
    refine Jm_cV (rest := []) (st9 := fun p_1 => [.int p_1.1]) C hR hX cv_RX12_206 rfl (Nat.le_of_ble_eq_true rfl) (k12_refuse hl  (Ok.ofbnd h)) rfl rfl (Nat.le_of_ble_eq_true rfl) (Nat.le_of_ble_eq_true rfl) (Nat.le_of_ble_eq_true rfl) ⟨(Nat.le_of_ble_eq_true rfl), (Nat.le_of_ble_eq_true rfl)⟩ dX12_replace_18 rfl (fun E n9 w9 hx => JT_n hx) (fun _ => rfl) (fun p_1 h => ?_)
    have h : Ok _ _ := h
    change J X K 3 False QQ 0 0 2055 (jw K σ p_1.2 o) 21 [(0, .ref (K.2.2 + 2017))] [.int p_1.1]
    rw [← hQQ]
    exact J_iret C hret (Nat.le_of_ble_eq_true rfl) (Nat.le_of_ble_eq_true rfl) ⟨_, h.osome, rfl, rfl, rfl⟩ dX12_replace_21
  unfold f12_replace at h
  refine J_aload_n (i := 0) (p := 0) C dX12_replace_0 rfl rfl rfl ?_
  refine J_iload_n (i := 1) (p := 1) C dX12_replace_1 rfl rfl rfl ?_
  refine Jm_cV (rest := []) (st9 := fun p_2 => [.int p_2]) C hR hX cv_RX12_218 rfl (Nat.le_of_ble_eq_true rfl) (k12_isPlace hl  (Ok.ofbnd h)) rfl rfl (Nat.le_of_ble_eq_true rfl) (Nat.le_of_ble_eq_true rfl) (Nat.le_of_ble_eq_true rfl) ⟨(Nat.le_of_ble_eq_true rfl), (Nat.le_of_ble_eq_true rfl)⟩ dX12_replace_2 rfl (fun E n9 w9 hx => JT_n hx) (fun _ => rfl) (fun p_2 h => ?_)
  have h : Ok _ _ := h
  change J X K 3 False QQ 0 0 2055 (jw K σ μ o) 5 [(0, .ref (K.2.2 + 2017)), (1, .int l1), (2, .int l2)] [.int p_2]
  refine J_if_eq (t := 16) C dX12_replace_5 (by decide) rfl (fun c_3 => ?_) (fun c_3 => ?_)
  · have h := h.pos c_3
    refine J.sub [0] rfl ?_
    exact hj_16 μ h
  · have h := h.neg c_3
    refine J_aload_n (i := 0) (p := 0) C dX12_replace_8 rfl rfl rfl ?_
    refine J_iload_n (i := 2) (p := 2) C dX12_replace_9 rfl rfl rfl ?_
    refine Jm_cV (rest := []) (st9 := fun p_4 => [.int p_4]) C hR hX cv_RX12_218 rfl (Nat.le_of_ble_eq_true rfl) (k12_isPlace hl  (Ok.ofbnd h)) rfl rfl (Nat.le_of_ble_eq_true rfl) (Nat.le_of_ble_eq_true rfl) (Nat.le_of_ble_eq_true rfl) ⟨(Nat.le_of_ble_eq_true rfl), (Nat.le_of_ble_eq_true rfl)⟩ dX12_replace_10 rfl (fun E n9 w9 hx => JT_n hx) (fun _ => rfl) (fun p_4 h => ?_)
    have h : Ok _ _ := h
    change J X K 3 False QQ 0 0 2055 (jw K σ μ o) 13 [(0, .ref (K.2.2 + 2017)), (1, .int l1), (2, .int l2)] [.int p_4]
    refine J_if_ne (t := 22) C dX12_replace_13 (by decide) rfl (fun c_5 => ?_) (fun c_5 => ?_)
    · have h := h.neg c_5
      refine J_iload_n (i := 1) (p := 1) C dX12_replace_22 rfl rfl rfl ?_
      refine J_iload_n (i := 2) (p := 2) C dX12_replace_23 rfl rfl rfl ?_
      refine J_icmp_le (t := 33) C dX12_replace_24 (by decide) rfl (fun c_6 => ?_) (fun c_6 => ?_)
      · have h := h.pos c_6
        refine J_aload_n (i := 0) (p := 0) C dX12_replace_33 rfl rfl rfl ?_
        refine Jm_cV (rest := []) (st9 := fun p_7 => []) C hR hX cv_RX12_234 rfl (Nat.le_of_ble_eq_true rfl) (k12_begins hl  (Ok.ofbnd h)) rfl rfl (Nat.le_of_ble_eq_true rfl) (Nat.le_of_ble_eq_true rfl) (Nat.le_of_ble_eq_true rfl) ⟨(Nat.le_of_ble_eq_true rfl), (Nat.le_of_ble_eq_true rfl)⟩ dX12_replace_34 rfl (fun E n9 w9 hx => JT_n hx) (fun _ => rfl) (fun p_7 h => ?_)
        have h : Ok _ _ := h
        change J X K 3 False QQ 0 0 2055 (jw K σ p_7 o) 37 [(0, .ref (K.2.2 + 2017)), (1, .int l1), (2, .int l2)] []
        refine J_aload_n (i := 0) (p := 0) C dX12_replace_37 rfl rfl rfl ?_
        refine Jm_cV (rest := []) (st9 := fun p_8 => []) C hR hX cv_RX12_237 rfl (Nat.le_of_ble_eq_true rfl) (k12_putsTape hl  (Ok.ofbnd h)) rfl rfl (Nat.le_of_ble_eq_true rfl) (Nat.le_of_ble_eq_true rfl) (Nat.le_of_ble_eq_true rfl) ⟨(Nat.le_of_ble_eq_true rfl), (Nat.le_of_ble_eq_true rfl)⟩ dX12_replace_38 rfl (fun E n9 w9 hx => JT_n hx) (fun _ => rfl) (fun p_8 h => ?_)
        have h : Ok _ _ := h
        change J X K 3 False QQ 0 0 2055 (jw K σ p_8 o) 41 [(0, .ref (K.2.2 + 2017)), (1, .int l1), (2, .int l2)] []
        refine J_aload_n (i := 0) (p := 0) C dX12_replace_41 rfl rfl rfl ?_
        refine J_iload_n (i := 1) (p := 1) C dX12_replace_42 rfl rfl rfl ?_
        refine J_iload_n (i := 2) (p := 2) C dX12_replace_43 rfl rfl rfl ?_
        refine J_iconst (v := 0) C (by decide) dX12_replace_44 rfl ?_
        refine J_aload_n (i := 0) (p := 0) C dX12_replace_45 rfl rfl rfl ?_
        refine Jm_getI C fp_RX12_158 rfl rfl dX12_replace_46 rfl ?_
        refine Jm_cV (rest := []) (st9 := fun p_9 => []) C hR hX cv_RX12_240 rfl (Nat.le_of_ble_eq_true rfl) (k12_adds hl  (Ok.ofbnd h)) rfl rfl (Nat.le_of_ble_eq_true rfl) (Nat.le_of_ble_eq_true rfl) (Nat.le_of_ble_eq_true rfl) ⟨(Nat.le_of_ble_eq_true rfl), (Nat.le_of_ble_eq_true rfl)⟩ dX12_replace_49 rfl (fun E n9 w9 hx => JT_n hx) (fun _ => rfl) (fun p_9 h => ?_)
        have h : Ok _ _ := h
        change J X K 3 False QQ 0 0 2055 (jw K σ p_9 o) 52 [(0, .ref (K.2.2 + 2017)), (1, .int l1), (2, .int l2)] []
        refine J_aload_n (i := 0) (p := 0) C dX12_replace_52 rfl rfl rfl ?_
        refine Jm_cV (rest := []) (st9 := fun p_10 => [.int p_10.1]) C hR hX cv_RX12_244 rfl (Nat.le_of_ble_eq_true rfl) (k12_acts hl  (Ok.ofbnd h)) rfl rfl (Nat.le_of_ble_eq_true rfl) (Nat.le_of_ble_eq_true rfl) (Nat.le_of_ble_eq_true rfl) ⟨(Nat.le_of_ble_eq_true rfl), (Nat.le_of_ble_eq_true rfl)⟩ dX12_replace_53 rfl (fun E n9 w9 hx => JT_n hx) (fun _ => rfl) (fun p_10 h => ?_)
        have h : Ok _ _ := h
        change J X K 3 False QQ 0 0 2055 (jw K σ p_10.2 o) 56 [(0, .ref (K.2.2 + 2017)), (1, .int l1), (2, .int l2)] [.int p_10.1]
        refine J_if_eq (t := 70) C dX12_replace_56 (by decide) rfl (fun c_11 => ?_) (fun c_11 => ?_)
        · have h := h.pos c_11
          refine J_aload_n (i := 0) (p := 0) C dX12_replace_70 rfl rfl rfl ?_
          refine J_iconst (v := 3) C (by decide) dX12_replace_71 rfl ?_
          refine Jm_cV (rest := []) (st9 := fun p_12 => [.int p_12.1]) C hR hX cv_RX12_206 rfl (Nat.le_of_ble_eq_true rfl) (k12_refuse hl  (Ok.ofbnd h)) rfl rfl (Nat.le_of_ble_eq_true rfl) (Nat.le_of_ble_eq_true rfl) (Nat.le_of_ble_eq_true rfl) ⟨(Nat.le_of_ble_eq_true rfl), (Nat.le_of_ble_eq_true rfl)⟩ dX12_replace_72 rfl (fun E n9 w9 hx => JT_n hx) (fun _ => rfl) (fun p_12 h => ?_)
          have h : Ok _ _ := h
          change J X K 3 False QQ 0 0 2055 (jw K σ p_12.2 o) 75 [(0, .ref (K.2.2 + 2017)), (1, .int l1), (2, .int l2)] [.int p_12.1]
          refine J.sub [] rfl ?_
          exact hj_75 p_12.2 p_12.1 h
        · have h := h.neg c_11
          refine J_aload_n (i := 0) (p := 0) C dX12_replace_59 rfl rfl rfl ?_
          refine J_aload_n (i := 0) (p := 0) C dX12_replace_60 rfl rfl rfl ?_
          refine Jm_getI C fp_RX12_138 rfl rfl dX12_replace_61 rfl ?_
          refine Jm_cV (rest := []) (st9 := fun p_13 => [.int p_13.1]) C hR hX cv_RX12_209 rfl (Nat.le_of_ble_eq_true rfl) (k12_told hl  (Ok.ofbnd h)) rfl rfl (Nat.le_of_ble_eq_true rfl) (Nat.le_of_ble_eq_true rfl) (Nat.le_of_ble_eq_true rfl) ⟨(Nat.le_of_ble_eq_true rfl), (Nat.le_of_ble_eq_true rfl)⟩ dX12_replace_64 rfl (fun E n9 w9 hx => JT_n hx) (fun _ => rfl) (fun p_13 h => ?_)
          have h : Ok _ _ := h
          change J X K 3 False QQ 0 0 2055 (jw K σ p_13.2 o) 67 [(0, .ref (K.2.2 + 2017)), (1, .int l1), (2, .int l2)] [.int p_13.1]
          refine J_goto (t := 75) C dX12_replace_67 (by decide) ?_
          refine J.sub [] rfl ?_
          exact hj_75 p_13.2 p_13.1 h
      · have h := h.neg c_6
        refine J_aload_n (i := 0) (p := 0) C dX12_replace_27 rfl rfl rfl ?_
        refine J_iconst (v := 2) C (by decide) dX12_replace_28 rfl ?_
        refine Jm_cV (rest := []) (st9 := fun p_14 => [.int p_14.1]) C hR hX cv_RX12_206 rfl (Nat.le_of_ble_eq_true rfl) (k12_refuse hl  (Ok.ofbnd h)) rfl rfl (Nat.le_of_ble_eq_true rfl) (Nat.le_of_ble_eq_true rfl) (Nat.le_of_ble_eq_true rfl) ⟨(Nat.le_of_ble_eq_true rfl), (Nat.le_of_ble_eq_true rfl)⟩ dX12_replace_29 rfl (fun E n9 w9 hx => JT_n hx) (fun _ => rfl) (fun p_14 h => ?_)
        have h : Ok _ _ := h
        change J X K 3 False QQ 0 0 2055 (jw K σ p_14.2 o) 32 [(0, .ref (K.2.2 + 2017)), (1, .int l1), (2, .int l2)] [.int p_14.1]
        rw [← hQQ]
        exact J_iret C hret (Nat.le_of_ble_eq_true rfl) (Nat.le_of_ble_eq_true rfl) ⟨_, h.osome, rfl, rfl, rfl⟩ dX12_replace_32
    · have h := h.pos (Decidable.not_not.mp c_5)
      refine J.sub [0] rfl ?_
      exact hj_16 μ h
def f12_cut_b99 (l1 : Int32) (l2 : Int32) (μ_99 : Sto) (l3_99 : Int32) : Option ((Sto × Int32) ⊕ Sto) :=
  if (fI μ_99 2017 12) ≤ l3_99 then
    some (.inr μ_99)
  else
    gd (inb l3_99 3000) <|
    gd (inb l3_99 12000) <|
    stp (uA μ_99 2024 (Int32.toNatClampNeg l3_99) (aI μ_99 2043 (Int32.toNatClampNeg l3_99))) fun μx_1 =>
    stp (l3_99 + (1 : Int32)) fun x3_2 =>
    some (.inl (μx_1, x3_2))
def f12_cut_j99 (l1 : Int32) (l2 : Int32) (μ_99 : Sto) (l3_99 : Int32) : Option (Int32 × Sto) :=
  bnd (loopF (fun s_99 => f12_cut_b99 l1 l2 s_99.1 s_99.2) FU (μ_99, l3_99)) fun r_99 =>
    bnd (f12_told r_99 (fI r_99 2017 12)) fun p_5 =>
    some (p_5.1, p_5.2)
def f12_cut_b35 (l1 : Int32) (l2 : Int32) (μ_35 : Sto) (l3_35 : Int32) : Option ((Sto × Int32) ⊕ Sto) :=
  if l2 ≤ l3_35 then
    some (.inr μ_35)
  else
    gd (inb l3_35 3000) <|
    gd (inb (l3_35 - l1) 3000) <|
    stp (uA μ_35 2043 (Int32.toNatClampNeg (l3_35 - l1)) (aI μ_35 2018 (Int32.toNatClampNeg l3_35))) fun μx_6 =>
    stp (l3_35 + (1 : Int32)) fun x3_7 =>
    some (.inl (μx_6, x3_7))
def f12_cut_j35 (l1 : Int32) (l2 : Int32) (μ_35 : Sto) (l3_35 : Int32) : Option (Int32 × Sto) :=
  bnd (loopF (fun s_35 => f12_cut_b35 l1 l2 s_35.1 s_35.2) FU (μ_35, l3_35)) fun r_35 =>
    bnd (f12_begins r_35) fun p_14 =>
    bnd (f12_adds p_14 l1 l2 (0 : Int32) (0 : Int32)) fun p_15 =>
    bnd (f12_acts p_15) fun p_16 =>
    if p_16.1 = 0 then
      bnd (f12_refuse p_16.2 (3 : Int32)) fun p_18 =>
      some (p_18.1, p_18.2)
    else
      stp (uI p_16.2 2017 13 (0 : Int32)) fun μx_8 =>
      stp (uI μx_8 2017 12 (l2 - l1)) fun μx_9 =>
      stp (0 : Int32) fun x3_10 =>
      f12_cut_j99 l1 l2 μx_9 x3_10
def f12_cut_j16 (l1 : Int32) (l2 : Int32) (μ_16 : Sto) : Option (Int32 × Sto) :=
  bnd (f12_refuse μ_16 (1 : Int32)) fun p_19 =>
  some (p_19.1, p_19.2)
def f12_cut (μ : Sto) (l1 : Int32) (l2 : Int32) : Option (Int32 × Sto) :=
  bnd (f12_isPlace μ l1) fun p_20 =>
  if p_20 = 0 then
    f12_cut_j16 l1 l2 μ
  else
    bnd (f12_isPlace μ l2) fun p_22 =>
    if p_22 = 0 then
      f12_cut_j16 l1 l2 μ
    else
      if l1 ≤ l2 then
        stp l1 fun x3_11 =>
        f12_cut_j35 l1 l2 μ x3_11
      else
        bnd (f12_refuse μ (2 : Int32)) fun p_25 =>
        some (p_25.1, p_25.2)
set_option maxHeartbeats 4000000 in
set_option maxRecDepth 100000 in
theorem k12_cut {l : Launch} {K : JK} (hl : l.stackTraces = false) {σ μ : Sto} {o : Int64} {l1 : Int32} {l2 : Int32}  {Qf : Int32 × Sto → Prop} (h : Ok (f12_cut μ l1 l2) Qf) : Con l K yX12_cut (.code yX12_cut cX12_cut 4 (some .int) :: TB) 3 0 0 False [.ref (K.2.2 + 2017), .int l1, .int l2] 2055 (jw K σ μ o) (PR Qf (fun p => some (.int p.1)) (fun p => jw K σ p.2 o)) PN := by
  refine Con.enter (own := RX12) hl (by decide) rfl (Nat.le_of_ble_eq_true rfl) ?_
  intro X hX hR C hret hnt
  generalize hQQ : jQ X K 0 0 (PR Qf (fun p => some (.int p.1)) (fun p => jw K σ p.2 o)) PN False = QQ
  change J X K 4 False QQ 0 0 2055 (jw K σ μ o) 0 [(0, .ref (K.2.2 + 2017)), (1, .int l1), (2, .int l2)] []
  have hj_99 : (∀ (μ_99 : Sto) (l3_99 : Int32), Ok (f12_cut_j99 l1 l2 μ_99 l3_99) Qf → J X K 4 False QQ 0 0 2055 (jw K σ μ_99 o) 99 [(0, .ref (K.2.2 + 2017)), (3, .int l3_99)] []) := by
    intro μ_99 l3_99 h
    unfold f12_cut_j99 at h
    refine loop_gen (S := Sto × Int32) (P := fun s_99 => J X K 4 False QQ 0 0 2055 (jw K σ s_99.1 o) 99 [(0, .ref (K.2.2 + 2017)), (3, .int s_99.2)] []) ?_ FU (μ_99, l3_99) (Ok.ofbnd h)
    intro B_99 hB_99 hE_99 s_99 h
    obtain ⟨μ_99, l3_99⟩ := s_99
    have h : Ok (f12_cut_b99 l1 l2 μ_99 l3_99) B_99 := h
    change J X K 4 False QQ 0 0 2055 (jw K σ μ_99 o) 99 [(0, .ref (K.2.2 + 2017)), (3, .int l3_99)] []
    unfold f12_cut_b99 at h
    refine J_iload_n (i := 3) (p := 1) C dX12_cut_99 rfl rfl rfl ?_
    refine J_aload_n (i := 0) (p := 0) C dX12_cut_100 rfl rfl rfl ?_
    refine Jm_getI C fp_RX12_215 rfl rfl dX12_cut_101 rfl ?_
    refine J_icmp_ge (t := 125) C dX12_cut_104 (by decide) rfl (fun c_1 => ?_) (fun c_1 => ?_)
    · have h := h.pos c_1
      have h := hE_99 μ_99 h.osome
      try dsimp only at h
      refine J_aload_n (i := 0) (p := 0) C dX12_cut_125 rfl rfl rfl ?_
      refine J_aload_n (i := 0) (p := 0) C dX12_cut_126 rfl rfl rfl ?_
      refine Jm_getI C fp_RX12_215 rfl rfl dX12_cut_127 rfl ?_
      refine Jm_cV (rest := []) (st9 := fun p_2 => [.int p_2.1]) C hR hX cv_RX12_209 rfl (Nat.le_of_ble_eq_true rfl) (k12_told hl  (Ok.ofbnd h)) rfl rfl (Nat.le_of_ble_eq_true rfl) (Nat.le_of_ble_eq_true rfl) (Nat.le_of_ble_eq_true rfl) ⟨(Nat.le_of_ble_eq_true rfl), (Nat.le_of_ble_eq_true rfl)⟩ dX12_cut_130 rfl (fun E n9 w9 hx => JT_n hx) (fun _ => rfl) (fun p_2 h => ?_)
      have h : Ok _ _ := h
      change J X K 4 False QQ 0 0 2055 (jw K σ p_2.2 o) 133 [(0, .ref (K.2.2 + 2017)), (3, .int l3_99)] [.int p_2.1]
      rw [← hQQ]
      exact J_iret C hret (Nat.le_of_ble_eq_true rfl) (Nat.le_of_ble_eq_true rfl) ⟨_, h.osome, rfl, rfl, rfl⟩ dX12_cut_133
    · have h := h.neg c_1
      refine J_aload_n (i := 0) (p := 0) C dX12_cut_107 rfl rfl rfl ?_
      refine Jm_getS (o2 := 7) (r2 := 2024) C fp_RX12_33 rfl rfl rfl dX12_cut_108 rfl ?_
      refine J_iload_n (i := 3) (p := 1) C dX12_cut_111 rfl rfl rfl ?_
      refine J_aload_n (i := 0) (p := 0) C dX12_cut_112 rfl rfl rfl ?_
      refine Jm_getS (o2 := 26) (r2 := 2043) C fp_RX12_98 rfl rfl rfl dX12_cut_113 rfl ?_
      refine J_iload_n (i := 3) (p := 1) C dX12_cut_116 rfl rfl rfl ?_
      obtain ⟨g_3, h⟩ := Ok.ofgd h
      refine Jm_iald C rfl rfl g_3 dX12_cut_117 rfl ?_
      obtain ⟨g_4, h⟩ := Ok.ofgd h
      obtain ⟨μx_1, e_μx_1, h⟩ := Ok.nm h
      refine Jm_iast C id rfl rfl g_4 e_μx_1 dX12_cut_118 rfl ?_
      obtain ⟨x3_2, e_x3_2, h⟩ := Ok.nm h
      refine J_iincE (i := 3) (p := 1) (lv' := [(3, .int x3_2), (0, .ref (K.2.2 + 2017))]) C e_x3_2 dX12_cut_119 rfl (by decide) (Nat.le_of_ble_eq_true rfl) rfl rfl ?_
      refine J_goto (t := 99) C dX12_cut_122 (by decide) ?_
      refine J.sub [1, 0] rfl ?_
      exact hB_99 (μx_1, x3_2) h.osome
  have hj_35 : (∀ (μ_35 : Sto) (l3_35 : Int32), Ok (f12_cut_j35 l1 l2 μ_35 l3_35) Qf → J X K 4 False QQ 0 0 2055 (jw K σ μ_35 o) 35 [(0, .ref (K.2.2 + 2017)), (1, .int l1), (2, .int l2), (3, .int l3_35)] []) := by
    intro μ_35 l3_35 h
    unfold f12_cut_j35 at h
    refine loop_gen (S := Sto × Int32) (P := fun s_35 => J X K 4 False QQ 0 0 2055 (jw K σ s_35.1 o) 35 [(0, .ref (K.2.2 + 2017)), (1, .int l1), (2, .int l2), (3, .int s_35.2)] []) ?_ FU (μ_35, l3_35) (Ok.ofbnd h)
    intro B_35 hB_35 hE_35 s_35 h
    obtain ⟨μ_35, l3_35⟩ := s_35
    have h : Ok (f12_cut_b35 l1 l2 μ_35 l3_35) B_35 := h
    change J X K 4 False QQ 0 0 2055 (jw K σ μ_35 o) 35 [(0, .ref (K.2.2 + 2017)), (1, .int l1), (2, .int l2), (3, .int l3_35)] []
    unfold f12_cut_b35 at h
    refine J_iload_n (i := 3) (p := 3) C dX12_cut_35 rfl rfl rfl ?_
    refine J_iload_n (i := 2) (p := 2) C dX12_cut_36 rfl rfl rfl ?_
    refine J_icmp_ge (t := 60) C dX12_cut_37 (by decide) rfl (fun c_6 => ?_) (fun c_6 => ?_)
    · have h := h.pos c_6
      have h := hE_35 μ_35 h.osome
      try dsimp only at h
      refine J_aload_n (i := 0) (p := 0) C dX12_cut_60 rfl rfl rfl ?_
      refine Jm_cV (rest := []) (st9 := fun p_7 => []) C hR hX cv_RX12_234 rfl (Nat.le_of_ble_eq_true rfl) (k12_begins hl  (Ok.ofbnd h)) rfl rfl (Nat.le_of_ble_eq_true rfl) (Nat.le_of_ble_eq_true rfl) (Nat.le_of_ble_eq_true rfl) ⟨(Nat.le_of_ble_eq_true rfl), (Nat.le_of_ble_eq_true rfl)⟩ dX12_cut_61 rfl (fun E n9 w9 hx => JT_n hx) (fun _ => rfl) (fun p_7 h => ?_)
      have h : Ok _ _ := h
      change J X K 4 False QQ 0 0 2055 (jw K σ p_7 o) 64 [(0, .ref (K.2.2 + 2017)), (1, .int l1), (2, .int l2), (3, .int l3_35)] []
      refine J_aload_n (i := 0) (p := 0) C dX12_cut_64 rfl rfl rfl ?_
      refine J_iload_n (i := 1) (p := 1) C dX12_cut_65 rfl rfl rfl ?_
      refine J_iload_n (i := 2) (p := 2) C dX12_cut_66 rfl rfl rfl ?_
      refine J_iconst (v := 0) C (by decide) dX12_cut_67 rfl ?_
      refine J_iconst (v := 0) C (by decide) dX12_cut_68 rfl ?_
      refine Jm_cV (rest := []) (st9 := fun p_8 => []) C hR hX cv_RX12_240 rfl (Nat.le_of_ble_eq_true rfl) (k12_adds hl  (Ok.ofbnd h)) rfl rfl (Nat.le_of_ble_eq_true rfl) (Nat.le_of_ble_eq_true rfl) (Nat.le_of_ble_eq_true rfl) ⟨(Nat.le_of_ble_eq_true rfl), (Nat.le_of_ble_eq_true rfl)⟩ dX12_cut_69 rfl (fun E n9 w9 hx => JT_n hx) (fun _ => rfl) (fun p_8 h => ?_)
      have h : Ok _ _ := h
      change J X K 4 False QQ 0 0 2055 (jw K σ p_8 o) 72 [(0, .ref (K.2.2 + 2017)), (1, .int l1), (2, .int l2), (3, .int l3_35)] []
      refine J_aload_n (i := 0) (p := 0) C dX12_cut_72 rfl rfl rfl ?_
      refine Jm_cV (rest := []) (st9 := fun p_9 => [.int p_9.1]) C hR hX cv_RX12_244 rfl (Nat.le_of_ble_eq_true rfl) (k12_acts hl  (Ok.ofbnd h)) rfl rfl (Nat.le_of_ble_eq_true rfl) (Nat.le_of_ble_eq_true rfl) (Nat.le_of_ble_eq_true rfl) ⟨(Nat.le_of_ble_eq_true rfl), (Nat.le_of_ble_eq_true rfl)⟩ dX12_cut_73 rfl (fun E n9 w9 hx => JT_n hx) (fun _ => rfl) (fun p_9 h => ?_)
      have h : Ok _ _ := h
      change J X K 4 False QQ 0 0 2055 (jw K σ p_9.2 o) 76 [(0, .ref (K.2.2 + 2017)), (1, .int l1), (2, .int l2), (3, .int l3_35)] [.int p_9.1]
      refine J_if_ne (t := 85) C dX12_cut_76 (by decide) rfl (fun c_10 => ?_) (fun c_10 => ?_)
      · have h := h.neg c_10
        refine J_aload_n (i := 0) (p := 0) C dX12_cut_85 rfl rfl rfl ?_
        refine J_iconst (v := 0) C (by decide) dX12_cut_86 rfl ?_
        obtain ⟨μx_3, e_μx_3, h⟩ := Ok.nm h
        refine Jm_putI C id fp_RX12_212 fw_11_13 rfl rfl rfl e_μx_3 dX12_cut_87 rfl ?_
        refine J_aload_n (i := 0) (p := 0) C dX12_cut_90 rfl rfl rfl ?_
        refine J_iload_n (i := 2) (p := 2) C dX12_cut_91 rfl rfl rfl ?_
        refine J_iload_n (i := 1) (p := 1) C dX12_cut_92 rfl rfl rfl ?_
        refine J_isub C dX12_cut_93 rfl ?_
        obtain ⟨μx_4, e_μx_4, h⟩ := Ok.nm h
        refine Jm_putI C id fp_RX12_215 fw_11_12 rfl rfl rfl e_μx_4 dX12_cut_94 rfl ?_
        refine J_iconst (v := 0) C (by decide) dX12_cut_97 rfl ?_
        obtain ⟨x3_5, e_x3_5, h⟩ := Ok.nm h
        refine J_istoreE_n (i := 3) (lv' := [(3, .int x3_5), (0, .ref (K.2.2 + 2017)), (1, .int l1), (2, .int l2)]) C e_x3_5 dX12_cut_98 rfl (Nat.le_of_ble_eq_true rfl) rfl rfl ?_
        refine J.sub [1, 0] rfl ?_
        exact hj_99 μx_4 x3_5 h
      · have h := h.pos (Decidable.not_not.mp c_10)
        refine J_aload_n (i := 0) (p := 0) C dX12_cut_79 rfl rfl rfl ?_
        refine J_iconst (v := 3) C (by decide) dX12_cut_80 rfl ?_
        refine Jm_cV (rest := []) (st9 := fun p_11 => [.int p_11.1]) C hR hX cv_RX12_206 rfl (Nat.le_of_ble_eq_true rfl) (k12_refuse hl  (Ok.ofbnd h)) rfl rfl (Nat.le_of_ble_eq_true rfl) (Nat.le_of_ble_eq_true rfl) (Nat.le_of_ble_eq_true rfl) ⟨(Nat.le_of_ble_eq_true rfl), (Nat.le_of_ble_eq_true rfl)⟩ dX12_cut_81 rfl (fun E n9 w9 hx => JT_n hx) (fun _ => rfl) (fun p_11 h => ?_)
        have h : Ok _ _ := h
        change J X K 4 False QQ 0 0 2055 (jw K σ p_11.2 o) 84 [(0, .ref (K.2.2 + 2017)), (1, .int l1), (2, .int l2), (3, .int l3_35)] [.int p_11.1]
        rw [← hQQ]
        exact J_iret C hret (Nat.le_of_ble_eq_true rfl) (Nat.le_of_ble_eq_true rfl) ⟨_, h.osome, rfl, rfl, rfl⟩ dX12_cut_84
    · have h := h.neg c_6
      refine J_aload_n (i := 0) (p := 0) C dX12_cut_40 rfl rfl rfl ?_
      refine Jm_getS (o2 := 26) (r2 := 2043) C fp_RX12_98 rfl rfl rfl dX12_cut_41 rfl ?_
      refine J_iload_n (i := 3) (p := 3) C dX12_cut_44 rfl rfl rfl ?_
      refine J_iload_n (i := 1) (p := 1) C dX12_cut_45 rfl rfl rfl ?_
      refine J_isub C dX12_cut_46 rfl ?_
      refine J_aload_n (i := 0) (p := 0) C dX12_cut_47 rfl rfl rfl ?_
      refine Jm_getS (o2 := 1) (r2 := 2018) C fp_RX12_7 rfl rfl rfl dX12_cut_48 rfl ?_
      refine J_iload_n (i := 3) (p := 3) C dX12_cut_51 rfl rfl rfl ?_
      obtain ⟨g_12, h⟩ := Ok.ofgd h
      refine Jm_iald C rfl rfl g_12 dX12_cut_52 rfl ?_
      obtain ⟨g_13, h⟩ := Ok.ofgd h
      obtain ⟨μx_6, e_μx_6, h⟩ := Ok.nm h
      refine Jm_iast C id rfl rfl g_13 e_μx_6 dX12_cut_53 rfl ?_
      obtain ⟨x3_7, e_x3_7, h⟩ := Ok.nm h
      refine J_iincE (i := 3) (p := 3) (lv' := [(3, .int x3_7), (0, .ref (K.2.2 + 2017)), (1, .int l1), (2, .int l2)]) C e_x3_7 dX12_cut_54 rfl (by decide) (Nat.le_of_ble_eq_true rfl) rfl rfl ?_
      refine J_goto (t := 35) C dX12_cut_57 (by decide) ?_
      refine J.sub [1, 2, 3, 0] rfl ?_
      exact hB_35 (μx_6, x3_7) h.osome
  have hj_16 : (∀ (μ_16 : Sto), Ok (f12_cut_j16 l1 l2 μ_16) Qf → J X K 4 False QQ 0 0 2055 (jw K σ μ_16 o) 16 [(0, .ref (K.2.2 + 2017))] []) := by
    intro μ_16 h
    unfold f12_cut_j16 at h
    refine J_aload_n (i := 0) (p := 0) C dX12_cut_16 rfl rfl rfl ?_
    refine J_iconst (v := 1) C (by decide) dX12_cut_17 rfl ?_
    refine Jm_cV (rest := []) (st9 := fun p_19 => [.int p_19.1]) C hR hX cv_RX12_206 rfl (Nat.le_of_ble_eq_true rfl) (k12_refuse hl  (Ok.ofbnd h)) rfl rfl (Nat.le_of_ble_eq_true rfl) (Nat.le_of_ble_eq_true rfl) (Nat.le_of_ble_eq_true rfl) ⟨(Nat.le_of_ble_eq_true rfl), (Nat.le_of_ble_eq_true rfl)⟩ dX12_cut_18 rfl (fun E n9 w9 hx => JT_n hx) (fun _ => rfl) (fun p_19 h => ?_)
    have h : Ok _ _ := h
    change J X K 4 False QQ 0 0 2055 (jw K σ p_19.2 o) 21 [(0, .ref (K.2.2 + 2017))] [.int p_19.1]
    rw [← hQQ]
    exact J_iret C hret (Nat.le_of_ble_eq_true rfl) (Nat.le_of_ble_eq_true rfl) ⟨_, h.osome, rfl, rfl, rfl⟩ dX12_cut_21
  unfold f12_cut at h
  refine J_aload_n (i := 0) (p := 0) C dX12_cut_0 rfl rfl rfl ?_
  refine J_iload_n (i := 1) (p := 1) C dX12_cut_1 rfl rfl rfl ?_
  refine Jm_cV (rest := []) (st9 := fun p_20 => [.int p_20]) C hR hX cv_RX12_218 rfl (Nat.le_of_ble_eq_true rfl) (k12_isPlace hl  (Ok.ofbnd h)) rfl rfl (Nat.le_of_ble_eq_true rfl) (Nat.le_of_ble_eq_true rfl) (Nat.le_of_ble_eq_true rfl) ⟨(Nat.le_of_ble_eq_true rfl), (Nat.le_of_ble_eq_true rfl)⟩ dX12_cut_2 rfl (fun E n9 w9 hx => JT_n hx) (fun _ => rfl) (fun p_20 h => ?_)
  have h : Ok _ _ := h
  change J X K 4 False QQ 0 0 2055 (jw K σ μ o) 5 [(0, .ref (K.2.2 + 2017)), (1, .int l1), (2, .int l2)] [.int p_20]
  refine J_if_eq (t := 16) C dX12_cut_5 (by decide) rfl (fun c_21 => ?_) (fun c_21 => ?_)
  · have h := h.pos c_21
    refine J.sub [0] rfl ?_
    exact hj_16 μ h
  · have h := h.neg c_21
    refine J_aload_n (i := 0) (p := 0) C dX12_cut_8 rfl rfl rfl ?_
    refine J_iload_n (i := 2) (p := 2) C dX12_cut_9 rfl rfl rfl ?_
    refine Jm_cV (rest := []) (st9 := fun p_22 => [.int p_22]) C hR hX cv_RX12_218 rfl (Nat.le_of_ble_eq_true rfl) (k12_isPlace hl  (Ok.ofbnd h)) rfl rfl (Nat.le_of_ble_eq_true rfl) (Nat.le_of_ble_eq_true rfl) (Nat.le_of_ble_eq_true rfl) ⟨(Nat.le_of_ble_eq_true rfl), (Nat.le_of_ble_eq_true rfl)⟩ dX12_cut_10 rfl (fun E n9 w9 hx => JT_n hx) (fun _ => rfl) (fun p_22 h => ?_)
    have h : Ok _ _ := h
    change J X K 4 False QQ 0 0 2055 (jw K σ μ o) 13 [(0, .ref (K.2.2 + 2017)), (1, .int l1), (2, .int l2)] [.int p_22]
    refine J_if_ne (t := 22) C dX12_cut_13 (by decide) rfl (fun c_23 => ?_) (fun c_23 => ?_)
    · have h := h.neg c_23
      refine J_iload_n (i := 1) (p := 1) C dX12_cut_22 rfl rfl rfl ?_
      refine J_iload_n (i := 2) (p := 2) C dX12_cut_23 rfl rfl rfl ?_
      refine J_icmp_le (t := 33) C dX12_cut_24 (by decide) rfl (fun c_24 => ?_) (fun c_24 => ?_)
      · have h := h.pos c_24
        refine J_iload_n (i := 1) (p := 1) C dX12_cut_33 rfl rfl rfl ?_
        obtain ⟨x3_11, e_x3_11, h⟩ := Ok.nm h
        refine J_istoreE_n (i := 3) (lv' := [(3, .int x3_11), (0, .ref (K.2.2 + 2017)), (1, .int l1), (2, .int l2)]) C e_x3_11 dX12_cut_34 rfl (Nat.le_of_ble_eq_true rfl) rfl rfl ?_
        refine J.sub [1, 2, 3, 0] rfl ?_
        exact hj_35 μ x3_11 h
      · have h := h.neg c_24
        refine J_aload_n (i := 0) (p := 0) C dX12_cut_27 rfl rfl rfl ?_
        refine J_iconst (v := 2) C (by decide) dX12_cut_28 rfl ?_
        refine Jm_cV (rest := []) (st9 := fun p_25 => [.int p_25.1]) C hR hX cv_RX12_206 rfl (Nat.le_of_ble_eq_true rfl) (k12_refuse hl  (Ok.ofbnd h)) rfl rfl (Nat.le_of_ble_eq_true rfl) (Nat.le_of_ble_eq_true rfl) (Nat.le_of_ble_eq_true rfl) ⟨(Nat.le_of_ble_eq_true rfl), (Nat.le_of_ble_eq_true rfl)⟩ dX12_cut_29 rfl (fun E n9 w9 hx => JT_n hx) (fun _ => rfl) (fun p_25 h => ?_)
        have h : Ok _ _ := h
        change J X K 4 False QQ 0 0 2055 (jw K σ p_25.2 o) 32 [(0, .ref (K.2.2 + 2017)), (1, .int l1), (2, .int l2)] [.int p_25.1]
        rw [← hQQ]
        exact J_iret C hret (Nat.le_of_ble_eq_true rfl) (Nat.le_of_ble_eq_true rfl) ⟨_, h.osome, rfl, rfl, rfl⟩ dX12_cut_32
    · have h := h.pos (Decidable.not_not.mp c_23)
      refine J.sub [0] rfl ?_
      exact hj_16 μ h
def f12_blockLetters_j69 (l1 : Int32) (l2 : Int32) (μ : Sto) (l4_11 : Int32) (l5_69 : Int32) (l7_69 : Int32) (s0_69 : Int32) (s1_69 : Int32) (s2_69 : Int32) : Option ((Int32 × Int32) ⊕ Int32) :=
  bnd (f12_more (0 : Int32) (l2 - l7_69)) fun p_1 =>
  stp (s0_69 + ((s1_69 + s2_69) + p_1)) fun x3_1 =>
  stp (l5_69 + (1 : Int32)) fun x5_2 =>
  some (.inl (x3_1, x5_2))
def f12_blockLetters_j50 (l1 : Int32) (l2 : Int32) (μ : Sto) (l4_11 : Int32) (l3_50 : Int32) (l5_50 : Int32) (l6_50 : Int32) (s0_50 : Int32) : Option ((Int32 × Int32) ⊕ Int32) :=
  stp s0_50 fun x7_3 =>
  if l4_11 ≤ l6_50 then
    f12_blockLetters_j69 l1 l2 μ l4_11 l5_50 x7_3 l3_50 (fI μ 2017 14) (1 : Int32)
  else
    f12_blockLetters_j69 l1 l2 μ l4_11 l5_50 x7_3 l3_50 (fI μ 2017 14) (0 : Int32)
def f12_blockLetters_b11 (l1 : Int32) (l2 : Int32) (μ : Sto) (l3_11 : Int32) (l4_11 : Int32) (l5_11 : Int32) : Option ((Int32 × Int32) ⊕ Int32) :=
  if (fI μ 2017 13) ≤ l5_11 then
    some (.inr l3_11)
  else
    stp (l1 + l5_11) fun x6_4 =>
    if l4_11 ≤ x6_4 then
      f12_blockLetters_j50 l1 l2 μ l4_11 l3_11 l5_11 x6_4 (0 : Int32)
    else
      bnd (f12_endOf μ x6_4) fun p_5 =>
      bnd (f12_beginOf μ x6_4) fun p_6 =>
      f12_blockLetters_j50 l1 l2 μ l4_11 l3_11 l5_11 x6_4 (p_5 - p_6)
def f12_blockLetters_j11 (l1 : Int32) (l2 : Int32) (μ : Sto) (l3_11 : Int32) (l4_11 : Int32) (l5_11 : Int32) : Option (Int32) :=
  bnd (loopF (fun s_11 => f12_blockLetters_b11 l1 l2 μ s_11.1 l4_11 s_11.2) FU (l3_11, l5_11)) fun r_11 =>
    some r_11
def f12_blockLetters (μ : Sto) (l1 : Int32) (l2 : Int32) : Option (Int32) :=
  stp (0 : Int32) fun x3_5 =>
  bnd (f12_lines μ) fun p_7 =>
  stp p_7 fun x4_6 =>
  stp (0 : Int32) fun x5_7 =>
  f12_blockLetters_j11 l1 l2 μ x3_5 x4_6 x5_7
set_option maxHeartbeats 4000000 in
set_option maxRecDepth 100000 in
theorem k12_blockLetters {l : Launch} {K : JK} (hl : l.stackTraces = false) {σ μ : Sto} {o : Int64} {l1 : Int32} {l2 : Int32}  {Qf : Int32 → Prop} (h : Ok (f12_blockLetters μ l1 l2) Qf) : Con l K yX12_blockLetters (.code yX12_blockLetters cX12_blockLetters 8 (some .int) :: TB) 2 0 0 False [.ref (K.2.2 + 2017), .int l1, .int l2] 2055 (jw K σ μ o) (PR Qf (fun p => some (.int p)) (fun p => jw K σ μ o)) PN := by
  refine Con.enter (own := RX12) hl (by decide) rfl (Nat.le_of_ble_eq_true rfl) ?_
  intro X hX hR C hret hnt
  generalize hQQ : jQ X K 0 0 (PR Qf (fun p => some (.int p)) (fun p => jw K σ μ o)) PN False = QQ
  change J X K 8 False QQ 0 0 2055 (jw K σ μ o) 0 [(0, .ref (K.2.2 + 2017)), (1, .int l1), (2, .int l2)] []
  have hj_11 : (∀ (l3_11 : Int32) (l4_11 : Int32) (l5_11 : Int32), Ok (f12_blockLetters_j11 l1 l2 μ l3_11 l4_11 l5_11) Qf → J X K 8 False QQ 0 0 2055 (jw K σ μ o) 11 [(0, .ref (K.2.2 + 2017)), (1, .int l1), (2, .int l2), (3, .int l3_11), (4, .int l4_11), (5, .int l5_11)] []) := by
    intro l3_11 l4_11 l5_11 h
    unfold f12_blockLetters_j11 at h
    refine loop_gen (S := Int32 × Int32) (P := fun s_11 => J X K 8 False QQ 0 0 2055 (jw K σ μ o) 11 [(0, .ref (K.2.2 + 2017)), (1, .int l1), (2, .int l2), (3, .int s_11.1), (4, .int l4_11), (5, .int s_11.2)] []) ?_ FU (l3_11, l5_11) (Ok.ofbnd h)
    intro B_11 hB_11 hE_11 s_11 h
    obtain ⟨l3_11, l5_11⟩ := s_11
    have h : Ok (f12_blockLetters_b11 l1 l2 μ l3_11 l4_11 l5_11) B_11 := h
    change J X K 8 False QQ 0 0 2055 (jw K σ μ o) 11 [(0, .ref (K.2.2 + 2017)), (1, .int l1), (2, .int l2), (3, .int l3_11), (4, .int l4_11), (5, .int l5_11)] []
    have hj_69 : (∀ (l5_69 : Int32) (l7_69 : Int32) (s0_69 : Int32) (s1_69 : Int32) (s2_69 : Int32), Ok (f12_blockLetters_j69 l1 l2 μ l4_11 l5_69 l7_69 s0_69 s1_69 s2_69) B_11 → J X K 8 False QQ 0 0 2055 (jw K σ μ o) 69 [(0, .ref (K.2.2 + 2017)), (1, .int l1), (2, .int l2), (4, .int l4_11), (5, .int l5_69), (7, .int l7_69)] [.int s2_69, .int s1_69, .int s0_69]) := by
      intro l5_69 l7_69 s0_69 s1_69 s2_69 h
      unfold f12_blockLetters_j69 at h
      refine J_iadd C dX12_blockLetters_69 rfl ?_
      refine J_iconst (v := 0) C (by decide) dX12_blockLetters_70 rfl ?_
      refine J_iload_n (i := 2) (p := 2) C dX12_blockLetters_71 rfl rfl rfl ?_
      refine J_iload (i := 7) (p := 5) C dX12_blockLetters_72 rfl rfl ?_
      refine J_isub C dX12_blockLetters_74 rfl ?_
      refine J_cS (rest := [.int (s1_69 + s2_69), .int s0_69]) (st9 := fun p_1 => [.int p_1, .int (s1_69 + s2_69), .int s0_69]) C hR hX cs_RX12_257 (k12_more hl  (Ok.ofbnd h)) rfl rfl (Nat.le_of_ble_eq_true rfl) (Nat.le_of_ble_eq_true rfl) (Nat.le_of_ble_eq_true rfl) ⟨(Nat.le_of_ble_eq_true rfl), (Nat.le_of_ble_eq_true rfl)⟩ dX12_blockLetters_75 rfl (fun E n9 w9 hx => JT_n hx) (fun _ => rfl) (fun p_1 h => ?_)
      have h : Ok _ _ := h
      change J X K 8 False QQ 0 0 2055 (jw K σ μ o) 78 [(0, .ref (K.2.2 + 2017)), (1, .int l1), (2, .int l2), (4, .int l4_11), (5, .int l5_69), (7, .int l7_69)] [.int p_1, .int (s1_69 + s2_69), .int s0_69]
      refine J_iadd C dX12_blockLetters_78 rfl ?_
      refine J_iadd C dX12_blockLetters_79 rfl ?_
      obtain ⟨x3_1, e_x3_1, h⟩ := Ok.nm h
      refine J_istoreE_n (i := 3) (lv' := [(3, .int x3_1), (0, .ref (K.2.2 + 2017)), (1, .int l1), (2, .int l2), (4, .int l4_11), (5, .int l5_69), (7, .int l7_69)]) C e_x3_1 dX12_blockLetters_80 rfl (Nat.le_of_ble_eq_true rfl) rfl rfl ?_
      obtain ⟨x5_2, e_x5_2, h⟩ := Ok.nm h
      refine J_iincE (i := 5) (p := 5) (lv' := [(5, .int x5_2), (3, .int x3_1), (0, .ref (K.2.2 + 2017)), (1, .int l1), (2, .int l2), (4, .int l4_11), (7, .int l7_69)]) C e_x5_2 dX12_blockLetters_81 rfl (by decide) (Nat.le_of_ble_eq_true rfl) rfl rfl ?_
      refine J_goto (t := 11) C dX12_blockLetters_84 (by decide) ?_
      refine J.sub [2, 3, 4, 1, 5, 0] rfl ?_
      exact hB_11 (x3_1, x5_2) h.osome
    have hj_50 : (∀ (l3_50 : Int32) (l5_50 : Int32) (l6_50 : Int32) (s0_50 : Int32), Ok (f12_blockLetters_j50 l1 l2 μ l4_11 l3_50 l5_50 l6_50 s0_50) B_11 → J X K 8 False QQ 0 0 2055 (jw K σ μ o) 50 [(0, .ref (K.2.2 + 2017)), (1, .int l1), (2, .int l2), (3, .int l3_50), (4, .int l4_11), (5, .int l5_50), (6, .int l6_50)] [.int s0_50]) := by
      intro l3_50 l5_50 l6_50 s0_50 h
      unfold f12_blockLetters_j50 at h
      obtain ⟨x7_3, e_x7_3, h⟩ := Ok.nm h
      refine J_istoreE (i := 7) (lv' := [(7, .int x7_3), (0, .ref (K.2.2 + 2017)), (1, .int l1), (2, .int l2), (3, .int l3_50), (4, .int l4_11), (5, .int l5_50), (6, .int l6_50)]) C e_x7_3 dX12_blockLetters_50 (Nat.le_of_ble_eq_true rfl) rfl rfl ?_
      refine J_iload_n (i := 3) (p := 4) C dX12_blockLetters_52 rfl rfl rfl ?_
      refine J_aload_n (i := 0) (p := 1) C dX12_blockLetters_53 rfl rfl rfl ?_
      refine Jm_getI C fp_RX12_231 rfl rfl dX12_blockLetters_54 rfl ?_
      refine J_iload (i := 6) (p := 7) C dX12_blockLetters_57 rfl rfl ?_
      refine J_iload (i := 4) (p := 5) C dX12_blockLetters_59 rfl rfl ?_
      refine J_icmp_ge (t := 68) C dX12_blockLetters_61 (by decide) rfl (fun c_2 => ?_) (fun c_2 => ?_)
      · have h := h.pos c_2
        refine J_iconst (v := 1) C (by decide) dX12_blockLetters_68 rfl ?_
        refine J.sub [1, 2, 3, 5, 6, 0] rfl ?_
        exact hj_69 l5_50 x7_3 l3_50 (fI μ 2017 14) (1 : Int32) h
      · have h := h.neg c_2
        refine J_iconst (v := 0) C (by decide) dX12_blockLetters_64 rfl ?_
        refine J_goto (t := 69) C dX12_blockLetters_65 (by decide) ?_
        refine J.sub [1, 2, 3, 5, 6, 0] rfl ?_
        exact hj_69 l5_50 x7_3 l3_50 (fI μ 2017 14) (0 : Int32) h
    unfold f12_blockLetters_b11 at h
    refine J_iload (i := 5) (p := 5) C dX12_blockLetters_11 rfl rfl ?_
    refine J_aload_n (i := 0) (p := 0) C dX12_blockLetters_13 rfl rfl rfl ?_
    refine Jm_getI C fp_RX12_212 rfl rfl dX12_blockLetters_14 rfl ?_
    refine J_icmp_ge (t := 87) C dX12_blockLetters_17 (by decide) rfl (fun c_3 => ?_) (fun c_3 => ?_)
    · have h := h.pos c_3
      have h := hE_11 l3_11 h.osome
      try dsimp only at h
      refine J_iload_n (i := 3) (p := 3) C dX12_blockLetters_87 rfl rfl rfl ?_
      rw [← hQQ]
      exact J_iret C hret (Nat.le_of_ble_eq_true rfl) (Nat.le_of_ble_eq_true rfl) ⟨_, h.osome, rfl, rfl, rfl⟩ dX12_blockLetters_88
    · have h := h.neg c_3
      refine J_iload_n (i := 1) (p := 1) C dX12_blockLetters_20 rfl rfl rfl ?_
      refine J_iload (i := 5) (p := 5) C dX12_blockLetters_21 rfl rfl ?_
      refine J_iadd C dX12_blockLetters_23 rfl ?_
      obtain ⟨x6_4, e_x6_4, h⟩ := Ok.nm h
      refine J_istoreE (i := 6) (lv' := [(6, .int x6_4), (0, .ref (K.2.2 + 2017)), (1, .int l1), (2, .int l2), (3, .int l3_11), (4, .int l4_11), (5, .int l5_11)]) C e_x6_4 dX12_blockLetters_24 (Nat.le_of_ble_eq_true rfl) rfl rfl ?_
      refine J_iload (i := 6) (p := 0) C dX12_blockLetters_26 rfl rfl ?_
      refine J_iload (i := 4) (p := 5) C dX12_blockLetters_28 rfl rfl ?_
      refine J_icmp_ge (t := 49) C dX12_blockLetters_30 (by decide) rfl (fun c_4 => ?_) (fun c_4 => ?_)
      · have h := h.pos c_4
        refine J_iconst (v := 0) C (by decide) dX12_blockLetters_49 rfl ?_
        refine J.sub [1, 2, 3, 4, 5, 6, 0] rfl ?_
        exact hj_50 l3_11 l5_11 x6_4 (0 : Int32) h
      · have h := h.neg c_4
        refine J_aload_n (i := 0) (p := 1) C dX12_blockLetters_33 rfl rfl rfl ?_
        refine J_iload (i := 6) (p := 0) C dX12_blockLetters_34 rfl rfl ?_
        refine Jm_cV (rest := []) (st9 := fun p_5 => [.int p_5]) C hR hX cv_RX12_228 rfl (Nat.le_of_ble_eq_true rfl) (k12_endOf hl  (Ok.ofbnd h)) rfl rfl (Nat.le_of_ble_eq_true rfl) (Nat.le_of_ble_eq_true rfl) (Nat.le_of_ble_eq_true rfl) ⟨(Nat.le_of_ble_eq_true rfl), (Nat.le_of_ble_eq_true rfl)⟩ dX12_blockLetters_36 rfl (fun E n9 w9 hx => JT_n hx) (fun _ => rfl) (fun p_5 h => ?_)
        have h : Ok _ _ := h
        change J X K 8 False QQ 0 0 2055 (jw K σ μ o) 39 [(6, .int x6_4), (0, .ref (K.2.2 + 2017)), (1, .int l1), (2, .int l2), (3, .int l3_11), (4, .int l4_11), (5, .int l5_11)] [.int p_5]
        refine J_aload_n (i := 0) (p := 1) C dX12_blockLetters_39 rfl rfl rfl ?_
        refine J_iload (i := 6) (p := 0) C dX12_blockLetters_40 rfl rfl ?_
        refine Jm_cV (rest := [.int p_5]) (st9 := fun p_6 => [.int p_6, .int p_5]) C hR hX cv_RX12_145 rfl (Nat.le_of_ble_eq_true rfl) (k12_beginOf hl  (Ok.ofbnd h)) rfl rfl (Nat.le_of_ble_eq_true rfl) (Nat.le_of_ble_eq_true rfl) (Nat.le_of_ble_eq_true rfl) ⟨(Nat.le_of_ble_eq_true rfl), (Nat.le_of_ble_eq_true rfl)⟩ dX12_blockLetters_42 rfl (fun E n9 w9 hx => JT_n hx) (fun _ => rfl) (fun p_6 h => ?_)
        have h : Ok _ _ := h
        change J X K 8 False QQ 0 0 2055 (jw K σ μ o) 45 [(6, .int x6_4), (0, .ref (K.2.2 + 2017)), (1, .int l1), (2, .int l2), (3, .int l3_11), (4, .int l4_11), (5, .int l5_11)] [.int p_6, .int p_5]
        refine J_isub C dX12_blockLetters_45 rfl ?_
        refine J_goto (t := 50) C dX12_blockLetters_46 (by decide) ?_
        refine J.sub [1, 2, 3, 4, 5, 6, 0] rfl ?_
        exact hj_50 l3_11 l5_11 x6_4 (p_5 - p_6) h
  unfold f12_blockLetters at h
  refine J_iconst (v := 0) C (by decide) dX12_blockLetters_0 rfl ?_
  obtain ⟨x3_5, e_x3_5, h⟩ := Ok.nm h
  refine J_istoreE_n (i := 3) (lv' := [(3, .int x3_5), (0, .ref (K.2.2 + 2017)), (1, .int l1), (2, .int l2)]) C e_x3_5 dX12_blockLetters_1 rfl (Nat.le_of_ble_eq_true rfl) rfl rfl ?_
  refine J_aload_n (i := 0) (p := 1) C dX12_blockLetters_2 rfl rfl rfl ?_
  refine Jm_cV (rest := []) (st9 := fun p_7 => [.int p_7]) C hR hX cv_RX12_141 rfl (Nat.le_of_ble_eq_true rfl) (k12_lines hl  (Ok.ofbnd h)) rfl rfl (Nat.le_of_ble_eq_true rfl) (Nat.le_of_ble_eq_true rfl) (Nat.le_of_ble_eq_true rfl) ⟨(Nat.le_of_ble_eq_true rfl), (Nat.le_of_ble_eq_true rfl)⟩ dX12_blockLetters_3 rfl (fun E n9 w9 hx => JT_n hx) (fun _ => rfl) (fun p_7 h => ?_)
  have h : Ok _ _ := h
  change J X K 8 False QQ 0 0 2055 (jw K σ μ o) 6 [(3, .int x3_5), (0, .ref (K.2.2 + 2017)), (1, .int l1), (2, .int l2)] [.int p_7]
  obtain ⟨x4_6, e_x4_6, h⟩ := Ok.nm h
  refine J_istoreE (i := 4) (lv' := [(4, .int x4_6), (3, .int x3_5), (0, .ref (K.2.2 + 2017)), (1, .int l1), (2, .int l2)]) C e_x4_6 dX12_blockLetters_6 (Nat.le_of_ble_eq_true rfl) rfl rfl ?_
  refine J_iconst (v := 0) C (by decide) dX12_blockLetters_8 rfl ?_
  obtain ⟨x5_7, e_x5_7, h⟩ := Ok.nm h
  refine J_istoreE (i := 5) (lv' := [(5, .int x5_7), (4, .int x4_6), (3, .int x3_5), (0, .ref (K.2.2 + 2017)), (1, .int l1), (2, .int l2)]) C e_x5_7 dX12_blockLetters_9 (Nat.le_of_ble_eq_true rfl) rfl rfl ?_
  refine J.sub [3, 4, 5, 2, 1, 0] rfl ?_
  exact hj_11 x3_5 x4_6 x5_7 h
def f12_pastesBlock_j266 (l1_60 : Int32) (l2_60 : Int32) (l3_60 : Int32) (μ_266 : Sto) (l4_266 : Int32) (l5_266 : Int32) (l6_266 : Int32) : Option ((Sto × Int32 × Int32 × Int32) ⊕ Sto) :=
  stp (l6_266 + (1 : Int32)) fun x6_1 =>
  some (.inl (μ_266, l4_266, l5_266, x6_1))
def f12_pastesBlock_j242 (l1_60 : Int32) (l2_60 : Int32) (l3_60 : Int32) (μ_242 : Sto) (l4_242 : Int32) (l5_242 : Int32) (l6_242 : Int32) (s0_242 : Int32) : Option ((Sto × Int32 × Int32 × Int32) ⊕ Sto) :=
  stp s0_242 fun x9_2 =>
  if x9_2 = 0 then
    bnd (f12_adds μ_242 l5_242 l5_242 l4_242 ((fI μ_242 2017 28) - l4_242)) fun p_2 =>
    f12_pastesBlock_j266 l1_60 l2_60 l3_60 p_2 l4_242 l5_242 l6_242
  else
    f12_pastesBlock_j266 l1_60 l2_60 l3_60 μ_242 l4_242 l5_242 l6_242
def f12_pastesBlock_j241 (l1_60 : Int32) (l2_60 : Int32) (l3_60 : Int32) (μ_241 : Sto) (l4_241 : Int32) (l5_241 : Int32) (l6_241 : Int32) : Option ((Sto × Int32 × Int32 × Int32) ⊕ Sto) :=
  f12_pastesBlock_j242 l1_60 l2_60 l3_60 μ_241 l4_241 l5_241 l6_241 (0 : Int32)
def f12_pastesBlock_b175 (l1_60 : Int32) (l2_60 : Int32) (l3_60 : Int32) (μ_175 : Sto) (l4_175 : Int32) (l5_175 : Int32) (l6_175 : Int32) (l7_175 : Int32) (l9_175 : Int32) : Option ((Sto × Int32) ⊕ Sto) :=
  if (fI μ_175 2017 14) ≤ l9_175 then
    some (.inr μ_175)
  else
    gd (inb (((fI μ_175 2017 14) * l6_175) + l9_175) 12000) <|
    bnd (f12_puts μ_175 (aI μ_175 2024 (Int32.toNatClampNeg (((fI μ_175 2017 14) * l6_175) + l9_175)))) fun p_8 =>
    stp (l9_175 + (1 : Int32)) fun x9_3 =>
    some (.inl (p_8, x9_3))
def f12_pastesBlock_j175 (l1_60 : Int32) (l2_60 : Int32) (l3_60 : Int32) (μ_175 : Sto) (l4_175 : Int32) (l5_175 : Int32) (l6_175 : Int32) (l7_175 : Int32) (l9_175 : Int32) : Option ((Sto × Int32 × Int32 × Int32) ⊕ Sto) :=
  bnd (loopF (fun s_175 => f12_pastesBlock_b175 l1_60 l2_60 l3_60 s_175.1 l4_175 l5_175 l6_175 l7_175 s_175.2) FU (μ_175, l9_175)) fun r_175 =>
    if (l7_175 + (1 : Int32)) < l3_60 then
      f12_pastesBlock_j241 l1_60 l2_60 l3_60 r_175 l4_175 l5_175 l6_175
    else
      if l5_175 = (fI r_175 2017 5) then
        if (fI r_175 2017 13) ≤ (l6_175 + (1 : Int32)) then
          f12_pastesBlock_j241 l1_60 l2_60 l3_60 r_175 l4_175 l5_175 l6_175
        else
          f12_pastesBlock_j242 l1_60 l2_60 l3_60 r_175 l4_175 l5_175 l6_175 (1 : Int32)
      else
        f12_pastesBlock_j241 l1_60 l2_60 l3_60 r_175 l4_175 l5_175 l6_175
def f12_pastesBlock_b154 (l1_60 : Int32) (l2_60 : Int32) (l3_60 : Int32) (μ_154 : Sto) (l4_154 : Int32) (l5_154 : Int32) (l6_154 : Int32) (l7_154 : Int32) (l9_154 : Int32) : Option ((Sto × Int32) ⊕ Sto) :=
  if l2_60 ≤ l9_154 then
    some (.inr μ_154)
  else
    bnd (f12_puts μ_154 (32 : Int32)) fun p_13 =>
    stp (l9_154 + (1 : Int32)) fun x9_5 =>
    some (.inl (p_13, x9_5))
def f12_pastesBlock_j154 (l1_60 : Int32) (l2_60 : Int32) (l3_60 : Int32) (μ_154 : Sto) (l4_154 : Int32) (l5_154 : Int32) (l6_154 : Int32) (l7_154 : Int32) (l9_154 : Int32) : Option ((Sto × Int32 × Int32 × Int32) ⊕ Sto) :=
  bnd (loopF (fun s_154 => f12_pastesBlock_b154 l1_60 l2_60 l3_60 s_154.1 l4_154 l5_154 l6_154 l7_154 s_154.2) FU (μ_154, l9_154)) fun r_154 =>
    stp (0 : Int32) fun x9_6 =>
    f12_pastesBlock_j175 l1_60 l2_60 l3_60 r_154 l4_154 l5_154 l6_154 l7_154 x9_6
def f12_pastesBlock_j150 (l1_60 : Int32) (l2_60 : Int32) (l3_60 : Int32) (μ_150 : Sto) (l4_150 : Int32) (l5_150 : Int32) (l6_150 : Int32) (l7_150 : Int32) (l8_150 : Int32) : Option ((Sto × Int32 × Int32 × Int32) ⊕ Sto) :=
  stp l8_150 fun x9_7 =>
  f12_pastesBlock_j154 l1_60 l2_60 l3_60 μ_150 l4_150 l5_150 l6_150 l7_150 x9_7
def f12_pastesBlock_j144 (l1_60 : Int32) (l2_60 : Int32) (l3_60 : Int32) (μ_144 : Sto) (l4_144 : Int32) (l5_144 : Int32) (l6_144 : Int32) (l7_144 : Int32) (l8_144 : Int32) : Option ((Sto × Int32 × Int32 × Int32) ⊕ Sto) :=
  bnd (f12_puts μ_144 (10 : Int32)) fun p_14 =>
  f12_pastesBlock_j150 l1_60 l2_60 l3_60 p_14 l4_144 l5_144 l6_144 l7_144 l8_144
def f12_pastesBlock_b60 (μ_60 : Sto) (l1_60 : Int32) (l2_60 : Int32) (l3_60 : Int32) (l4_60 : Int32) (l5_60 : Int32) (l6_60 : Int32) : Option ((Sto × Int32 × Int32 × Int32) ⊕ Sto) :=
  if (fI μ_60 2017 13) ≤ l6_60 then
    some (.inr μ_60)
  else
    stp (l1_60 + l6_60) fun x7_8 =>
    stp (0 : Int32) fun x8_9 =>
    if l3_60 ≤ x7_8 then
      if (fI μ_60 2017 5) ≤ l5_60 then
        f12_pastesBlock_j144 l1_60 l2_60 l3_60 μ_60 l4_60 l5_60 l6_60 x7_8 x8_9
      else
        stp (fI μ_60 2017 28) fun x4_10 =>
        stp (fI μ_60 2017 5) fun x5_11 =>
        f12_pastesBlock_j144 l1_60 l2_60 l3_60 μ_60 x4_10 x5_11 l6_60 x7_8 x8_9
    else
      bnd (f12_endOf μ_60 x7_8) fun p_20 =>
      bnd (f12_beginOf μ_60 x7_8) fun p_21 =>
      stp (p_20 - p_21) fun x8_12 =>
      stp (fI μ_60 2017 28) fun x4_13 =>
      bnd (f12_beginOf μ_60 x7_8) fun p_22 =>
      bnd (f12_less x8_12 l2_60) fun p_23 =>
      stp (p_22 + p_23) fun x5_14 =>
      f12_pastesBlock_j150 l1_60 l2_60 l3_60 μ_60 x4_13 x5_14 l6_60 x7_8 x8_12
def f12_pastesBlock_j60 (μ_60 : Sto) (l1_60 : Int32) (l2_60 : Int32) (l3_60 : Int32) (l4_60 : Int32) (l5_60 : Int32) (l6_60 : Int32) : Option (Int32 × Sto) :=
  bnd (loopF (fun s_60 => f12_pastesBlock_b60 s_60.1 l1_60 l2_60 l3_60 s_60.2.1 s_60.2.2.1 s_60.2.2.2) FU (μ_60, l4_60, l5_60, l6_60)) fun r_60 =>
    bnd (f12_acts r_60) fun p_24 =>
    gd (isB p_24.1) <|
    some (p_24.1, p_24.2)
def f12_pastesBlock (μ : Sto) : Option (Int32 × Sto) :=
  gd (inb (0 : Int32) 8) <|
  bnd (f12_lineAt μ (aI μ 2019 (Int32.toNatClampNeg (0 : Int32)))) fun p_27 =>
  stp p_27 fun x1_15 =>
  gd (inb (0 : Int32) 8) <|
  bnd (f12_beginOf μ x1_15) fun p_29 =>
  stp ((aI μ 2019 (Int32.toNatClampNeg (0 : Int32))) - p_29) fun x2_16 =>
  bnd (f12_blockLetters μ x1_15 x2_16) fun p_30 =>
  if ((fI μ 2017 5) + p_30) ≤ (3000 : Int32) then
    bnd (f12_lines μ) fun p_32 =>
    stp p_32 fun x3_17 =>
    stp (0 : Int32) fun x4_18 =>
    stp (fI μ 2017 5) fun x5_19 =>
    stp (0 : Int32) fun x6_20 =>
    f12_pastesBlock_j60 μ x1_15 x2_16 x3_17 x4_18 x5_19 x6_20
  else
    some ((0 : Int32), μ)
set_option maxHeartbeats 4000000 in
set_option maxRecDepth 100000 in
theorem k12_pastesBlock {l : Launch} {K : JK} (hl : l.stackTraces = false) {σ μ : Sto} {o : Int64}   {Qf : Int32 × Sto → Prop} (h : Ok (f12_pastesBlock μ) Qf) : Con l K yX12_pastesBlock (.code yX12_pastesBlock cX12_pastesBlock 10 (some .boolean) :: TB) 3 0 0 False [.ref (K.2.2 + 2017)] 2055 (jw K σ μ o) (PR Qf (fun p => some (.int p.1)) (fun p => jw K σ p.2 o)) PN := by
  refine Con.enter (own := RX12) hl (by decide) rfl (Nat.le_of_ble_eq_true rfl) ?_
  intro X hX hR C hret hnt
  generalize hQQ : jQ X K 0 0 (PR Qf (fun p => some (.int p.1)) (fun p => jw K σ p.2 o)) PN False = QQ
  change J X K 10 False QQ 0 0 2055 (jw K σ μ o) 0 [(0, .ref (K.2.2 + 2017))] []
  have hj_60 : (∀ (μ_60 : Sto) (l1_60 : Int32) (l2_60 : Int32) (l3_60 : Int32) (l4_60 : Int32) (l5_60 : Int32) (l6_60 : Int32), Ok (f12_pastesBlock_j60 μ_60 l1_60 l2_60 l3_60 l4_60 l5_60 l6_60) Qf → J X K 10 False QQ 0 0 2055 (jw K σ μ_60 o) 60 [(0, .ref (K.2.2 + 2017)), (1, .int l1_60), (2, .int l2_60), (3, .int l3_60), (4, .int l4_60), (5, .int l5_60), (6, .int l6_60)] []) := by
    intro μ_60 l1_60 l2_60 l3_60 l4_60 l5_60 l6_60 h
    unfold f12_pastesBlock_j60 at h
    refine loop_gen (S := Sto × Int32 × Int32 × Int32) (P := fun s_60 => J X K 10 False QQ 0 0 2055 (jw K σ s_60.1 o) 60 [(0, .ref (K.2.2 + 2017)), (1, .int l1_60), (2, .int l2_60), (3, .int l3_60), (4, .int s_60.2.1), (5, .int s_60.2.2.1), (6, .int s_60.2.2.2)] []) ?_ FU (μ_60, l4_60, l5_60, l6_60) (Ok.ofbnd h)
    intro B_60 hB_60 hE_60 s_60 h
    obtain ⟨μ_60, l4_60, l5_60, l6_60⟩ := s_60
    have h : Ok (f12_pastesBlock_b60 μ_60 l1_60 l2_60 l3_60 l4_60 l5_60 l6_60) B_60 := h
    change J X K 10 False QQ 0 0 2055 (jw K σ μ_60 o) 60 [(0, .ref (K.2.2 + 2017)), (1, .int l1_60), (2, .int l2_60), (3, .int l3_60), (4, .int l4_60), (5, .int l5_60), (6, .int l6_60)] []
    have hj_266 : (∀ (μ_266 : Sto) (l4_266 : Int32) (l5_266 : Int32) (l6_266 : Int32), Ok (f12_pastesBlock_j266 l1_60 l2_60 l3_60 μ_266 l4_266 l5_266 l6_266) B_60 → J X K 10 False QQ 0 0 2055 (jw K σ μ_266 o) 266 [(0, .ref (K.2.2 + 2017)), (1, .int l1_60), (2, .int l2_60), (3, .int l3_60), (4, .int l4_266), (5, .int l5_266), (6, .int l6_266)] []) := by
      intro μ_266 l4_266 l5_266 l6_266 h
      unfold f12_pastesBlock_j266 at h
      obtain ⟨x6_1, e_x6_1, h⟩ := Ok.nm h
      refine J_iincE (i := 6) (p := 6) (lv' := [(6, .int x6_1), (0, .ref (K.2.2 + 2017)), (1, .int l1_60), (2, .int l2_60), (3, .int l3_60), (4, .int l4_266), (5, .int l5_266)]) C e_x6_1 dX12_pastesBlock_266 rfl (by decide) (Nat.le_of_ble_eq_true rfl) rfl rfl ?_
      refine J_goto (t := 60) C dX12_pastesBlock_269 (by decide) ?_
      refine J.sub [1, 2, 3, 4, 5, 6, 0] rfl ?_
      exact hB_60 (μ_266, l4_266, l5_266, x6_1) h.osome
    have hj_242 : (∀ (μ_242 : Sto) (l4_242 : Int32) (l5_242 : Int32) (l6_242 : Int32) (s0_242 : Int32), Ok (f12_pastesBlock_j242 l1_60 l2_60 l3_60 μ_242 l4_242 l5_242 l6_242 s0_242) B_60 → J X K 10 False QQ 0 0 2055 (jw K σ μ_242 o) 242 [(0, .ref (K.2.2 + 2017)), (1, .int l1_60), (2, .int l2_60), (3, .int l3_60), (4, .int l4_242), (5, .int l5_242), (6, .int l6_242)] [.int s0_242]) := by
      intro μ_242 l4_242 l5_242 l6_242 s0_242 h
      unfold f12_pastesBlock_j242 at h
      obtain ⟨x9_2, e_x9_2, h⟩ := Ok.nm h
      refine J_istoreE (i := 9) (lv' := [(9, .int x9_2), (0, .ref (K.2.2 + 2017)), (1, .int l1_60), (2, .int l2_60), (3, .int l3_60), (4, .int l4_242), (5, .int l5_242), (6, .int l6_242)]) C e_x9_2 dX12_pastesBlock_242 (Nat.le_of_ble_eq_true rfl) rfl rfl ?_
      refine J_iload (i := 9) (p := 0) C dX12_pastesBlock_244 rfl rfl ?_
      refine J_if_ne (t := 266) C dX12_pastesBlock_246 (by decide) rfl (fun c_1 => ?_) (fun c_1 => ?_)
      · have h := h.neg c_1
        refine J.sub [1, 2, 3, 4, 5, 6, 7] rfl ?_
        exact hj_266 μ_242 l4_242 l5_242 l6_242 h
      · have h := h.pos (Decidable.not_not.mp c_1)
        refine J_aload_n (i := 0) (p := 1) C dX12_pastesBlock_249 rfl rfl rfl ?_
        refine J_iload (i := 5) (p := 6) C dX12_pastesBlock_250 rfl rfl ?_
        refine J_iload (i := 5) (p := 6) C dX12_pastesBlock_252 rfl rfl ?_
        refine J_iload (i := 4) (p := 5) C dX12_pastesBlock_254 rfl rfl ?_
        refine J_aload_n (i := 0) (p := 1) C dX12_pastesBlock_256 rfl rfl rfl ?_
        refine Jm_getI C fp_RX12_158 rfl rfl dX12_pastesBlock_257 rfl ?_
        refine J_iload (i := 4) (p := 5) C dX12_pastesBlock_260 rfl rfl ?_
        refine J_isub C dX12_pastesBlock_262 rfl ?_
        refine Jm_cV (rest := []) (st9 := fun p_2 => []) C hR hX cv_RX12_240 rfl (Nat.le_of_ble_eq_true rfl) (k12_adds hl  (Ok.ofbnd h)) rfl rfl (Nat.le_of_ble_eq_true rfl) (Nat.le_of_ble_eq_true rfl) (Nat.le_of_ble_eq_true rfl) ⟨(Nat.le_of_ble_eq_true rfl), (Nat.le_of_ble_eq_true rfl)⟩ dX12_pastesBlock_263 rfl (fun E n9 w9 hx => JT_n hx) (fun _ => rfl) (fun p_2 h => ?_)
        have h : Ok _ _ := h
        change J X K 10 False QQ 0 0 2055 (jw K σ p_2 o) 266 [(9, .int x9_2), (0, .ref (K.2.2 + 2017)), (1, .int l1_60), (2, .int l2_60), (3, .int l3_60), (4, .int l4_242), (5, .int l5_242), (6, .int l6_242)] []
        refine J.sub [1, 2, 3, 4, 5, 6, 7] rfl ?_
        exact hj_266 p_2 l4_242 l5_242 l6_242 h
    have hj_241 : (∀ (μ_241 : Sto) (l4_241 : Int32) (l5_241 : Int32) (l6_241 : Int32), Ok (f12_pastesBlock_j241 l1_60 l2_60 l3_60 μ_241 l4_241 l5_241 l6_241) B_60 → J X K 10 False QQ 0 0 2055 (jw K σ μ_241 o) 241 [(0, .ref (K.2.2 + 2017)), (1, .int l1_60), (2, .int l2_60), (3, .int l3_60), (4, .int l4_241), (5, .int l5_241), (6, .int l6_241)] []) := by
      intro μ_241 l4_241 l5_241 l6_241 h
      unfold f12_pastesBlock_j241 at h
      refine J_iconst (v := 0) C (by decide) dX12_pastesBlock_241 rfl ?_
      exact hj_242 μ_241 l4_241 l5_241 l6_241 (0 : Int32) h
    have hj_175 : (∀ (μ_175 : Sto) (l4_175 : Int32) (l5_175 : Int32) (l6_175 : Int32) (l7_175 : Int32) (l9_175 : Int32), Ok (f12_pastesBlock_j175 l1_60 l2_60 l3_60 μ_175 l4_175 l5_175 l6_175 l7_175 l9_175) B_60 → J X K 10 False QQ 0 0 2055 (jw K σ μ_175 o) 175 [(0, .ref (K.2.2 + 2017)), (1, .int l1_60), (2, .int l2_60), (3, .int l3_60), (4, .int l4_175), (5, .int l5_175), (6, .int l6_175), (7, .int l7_175), (9, .int l9_175)] []) := by
      intro μ_175 l4_175 l5_175 l6_175 l7_175 l9_175 h
      unfold f12_pastesBlock_j175 at h
      refine loop_gen (S := Sto × Int32) (P := fun s_175 => J X K 10 False QQ 0 0 2055 (jw K σ s_175.1 o) 175 [(0, .ref (K.2.2 + 2017)), (1, .int l1_60), (2, .int l2_60), (3, .int l3_60), (4, .int l4_175), (5, .int l5_175), (6, .int l6_175), (7, .int l7_175), (9, .int s_175.2)] []) ?_ FU (μ_175, l9_175) (Ok.ofbnd h)
      intro B_175 hB_175 hE_175 s_175 h
      obtain ⟨μ_175, l9_175⟩ := s_175
      have h : Ok (f12_pastesBlock_b175 l1_60 l2_60 l3_60 μ_175 l4_175 l5_175 l6_175 l7_175 l9_175) B_175 := h
      change J X K 10 False QQ 0 0 2055 (jw K σ μ_175 o) 175 [(0, .ref (K.2.2 + 2017)), (1, .int l1_60), (2, .int l2_60), (3, .int l3_60), (4, .int l4_175), (5, .int l5_175), (6, .int l6_175), (7, .int l7_175), (9, .int l9_175)] []
      unfold f12_pastesBlock_b175 at h
      refine J_iload (i := 9) (p := 8) C dX12_pastesBlock_175 rfl rfl ?_
      refine J_aload_n (i := 0) (p := 0) C dX12_pastesBlock_177 rfl rfl rfl ?_
      refine Jm_getI C fp_RX12_231 rfl rfl dX12_pastesBlock_178 rfl ?_
      refine J_icmp_ge (t := 209) C dX12_pastesBlock_181 (by decide) rfl (fun c_3 => ?_) (fun c_3 => ?_)
      · have h := h.pos c_3
        have h := hE_175 μ_175 h.osome
        try dsimp only at h
        refine J_iload (i := 7) (p := 7) C dX12_pastesBlock_209 rfl rfl ?_
        refine J_iconst (v := 1) C (by decide) dX12_pastesBlock_211 rfl ?_
        refine J_iadd C dX12_pastesBlock_212 rfl ?_
        refine J_iload_n (i := 3) (p := 3) C dX12_pastesBlock_213 rfl rfl rfl ?_
        refine J_icmp_lt (t := 241) C dX12_pastesBlock_214 (by decide) rfl (fun c_4 => ?_) (fun c_4 => ?_)
        · have h := h.pos c_4
          refine J.sub [0, 1, 2, 3, 4, 5, 6] rfl ?_
          exact hj_241 μ_175 l4_175 l5_175 l6_175 h
        · have h := h.neg c_4
          refine J_iload (i := 5) (p := 5) C dX12_pastesBlock_217 rfl rfl ?_
          refine J_aload_n (i := 0) (p := 0) C dX12_pastesBlock_219 rfl rfl rfl ?_
          refine Jm_getI C fp_RX12_138 rfl rfl dX12_pastesBlock_220 rfl ?_
          refine J_icmp_ne (t := 241) C dX12_pastesBlock_223 (by decide) rfl (fun c_5 => ?_) (fun c_5 => ?_)
          · have h := h.neg c_5
            refine J.sub [0, 1, 2, 3, 4, 5, 6] rfl ?_
            exact hj_241 μ_175 l4_175 l5_175 l6_175 h
          · have h := h.pos (Decidable.not_not.mp c_5)
            refine J_iload (i := 6) (p := 6) C dX12_pastesBlock_226 rfl rfl ?_
            refine J_iconst (v := 1) C (by decide) dX12_pastesBlock_228 rfl ?_
            refine J_iadd C dX12_pastesBlock_229 rfl ?_
            refine J_aload_n (i := 0) (p := 0) C dX12_pastesBlock_230 rfl rfl rfl ?_
            refine Jm_getI C fp_RX12_212 rfl rfl dX12_pastesBlock_231 rfl ?_
            refine J_icmp_ge (t := 241) C dX12_pastesBlock_234 (by decide) rfl (fun c_6 => ?_) (fun c_6 => ?_)
            · have h := h.pos c_6
              refine J.sub [0, 1, 2, 3, 4, 5, 6] rfl ?_
              exact hj_241 μ_175 l4_175 l5_175 l6_175 h
            · have h := h.neg c_6
              refine J_iconst (v := 1) C (by decide) dX12_pastesBlock_237 rfl ?_
              refine J_goto (t := 242) C dX12_pastesBlock_238 (by decide) ?_
              refine J.sub [0, 1, 2, 3, 4, 5, 6] rfl ?_
              exact hj_242 μ_175 l4_175 l5_175 l6_175 (1 : Int32) h
      · have h := h.neg c_3
        refine J_aload_n (i := 0) (p := 0) C dX12_pastesBlock_184 rfl rfl rfl ?_
        refine J_aload_n (i := 0) (p := 0) C dX12_pastesBlock_185 rfl rfl rfl ?_
        refine Jm_getS (o2 := 7) (r2 := 2024) C fp_RX12_33 rfl rfl rfl dX12_pastesBlock_186 rfl ?_
        refine J_aload_n (i := 0) (p := 0) C dX12_pastesBlock_189 rfl rfl rfl ?_
        refine Jm_getI C fp_RX12_231 rfl rfl dX12_pastesBlock_190 rfl ?_
        refine J_iload (i := 6) (p := 6) C dX12_pastesBlock_193 rfl rfl ?_
        refine J_imul C dX12_pastesBlock_195 rfl ?_
        refine J_iload (i := 9) (p := 8) C dX12_pastesBlock_196 rfl rfl ?_
        refine J_iadd C dX12_pastesBlock_198 rfl ?_
        obtain ⟨g_7, h⟩ := Ok.ofgd h
        refine Jm_iald C rfl rfl g_7 dX12_pastesBlock_199 rfl ?_
        refine Jm_cV (rest := []) (st9 := fun p_8 => []) C hR hX cv_RX12_164 rfl (Nat.le_of_ble_eq_true rfl) (k12_puts hl  (Ok.ofbnd h)) rfl rfl (Nat.le_of_ble_eq_true rfl) (Nat.le_of_ble_eq_true rfl) (Nat.le_of_ble_eq_true rfl) ⟨(Nat.le_of_ble_eq_true rfl), (Nat.le_of_ble_eq_true rfl)⟩ dX12_pastesBlock_200 rfl (fun E n9 w9 hx => JT_n hx) (fun _ => rfl) (fun p_8 h => ?_)
        have h : Ok _ _ := h
        change J X K 10 False QQ 0 0 2055 (jw K σ p_8 o) 203 [(0, .ref (K.2.2 + 2017)), (1, .int l1_60), (2, .int l2_60), (3, .int l3_60), (4, .int l4_175), (5, .int l5_175), (6, .int l6_175), (7, .int l7_175), (9, .int l9_175)] []
        obtain ⟨x9_3, e_x9_3, h⟩ := Ok.nm h
        refine J_iincE (i := 9) (p := 8) (lv' := [(9, .int x9_3), (0, .ref (K.2.2 + 2017)), (1, .int l1_60), (2, .int l2_60), (3, .int l3_60), (4, .int l4_175), (5, .int l5_175), (6, .int l6_175), (7, .int l7_175)]) C e_x9_3 dX12_pastesBlock_203 rfl (by decide) (Nat.le_of_ble_eq_true rfl) rfl rfl ?_
        refine J_goto (t := 175) C dX12_pastesBlock_206 (by decide) ?_
        refine J.sub [1, 2, 3, 4, 5, 6, 7, 8, 0] rfl ?_
        exact hB_175 (p_8, x9_3) h.osome
    have hj_154 : (∀ (μ_154 : Sto) (l4_154 : Int32) (l5_154 : Int32) (l6_154 : Int32) (l7_154 : Int32) (l9_154 : Int32), Ok (f12_pastesBlock_j154 l1_60 l2_60 l3_60 μ_154 l4_154 l5_154 l6_154 l7_154 l9_154) B_60 → J X K 10 False QQ 0 0 2055 (jw K σ μ_154 o) 154 [(0, .ref (K.2.2 + 2017)), (1, .int l1_60), (2, .int l2_60), (3, .int l3_60), (4, .int l4_154), (5, .int l5_154), (6, .int l6_154), (7, .int l7_154), (9, .int l9_154)] []) := by
      intro μ_154 l4_154 l5_154 l6_154 l7_154 l9_154 h
      unfold f12_pastesBlock_j154 at h
      refine loop_gen (S := Sto × Int32) (P := fun s_154 => J X K 10 False QQ 0 0 2055 (jw K σ s_154.1 o) 154 [(0, .ref (K.2.2 + 2017)), (1, .int l1_60), (2, .int l2_60), (3, .int l3_60), (4, .int l4_154), (5, .int l5_154), (6, .int l6_154), (7, .int l7_154), (9, .int s_154.2)] []) ?_ FU (μ_154, l9_154) (Ok.ofbnd h)
      intro B_154 hB_154 hE_154 s_154 h
      obtain ⟨μ_154, l9_154⟩ := s_154
      have h : Ok (f12_pastesBlock_b154 l1_60 l2_60 l3_60 μ_154 l4_154 l5_154 l6_154 l7_154 l9_154) B_154 := h
      change J X K 10 False QQ 0 0 2055 (jw K σ μ_154 o) 154 [(0, .ref (K.2.2 + 2017)), (1, .int l1_60), (2, .int l2_60), (3, .int l3_60), (4, .int l4_154), (5, .int l5_154), (6, .int l6_154), (7, .int l7_154), (9, .int l9_154)] []
      unfold f12_pastesBlock_b154 at h
      refine J_iload (i := 9) (p := 8) C dX12_pastesBlock_154 rfl rfl ?_
      refine J_iload_n (i := 2) (p := 2) C dX12_pastesBlock_156 rfl rfl rfl ?_
      refine J_icmp_ge (t := 172) C dX12_pastesBlock_157 (by decide) rfl (fun c_12 => ?_) (fun c_12 => ?_)
      · have h := h.pos c_12
        have h := hE_154 μ_154 h.osome
        try dsimp only at h
        refine J_iconst (v := 0) C (by decide) dX12_pastesBlock_172 rfl ?_
        obtain ⟨x9_4, e_x9_4, h⟩ := Ok.nm h
        refine J_istoreE (i := 9) (lv' := [(9, .int x9_4), (0, .ref (K.2.2 + 2017)), (1, .int l1_60), (2, .int l2_60), (3, .int l3_60), (4, .int l4_154), (5, .int l5_154), (6, .int l6_154), (7, .int l7_154)]) C e_x9_4 dX12_pastesBlock_173 (Nat.le_of_ble_eq_true rfl) rfl rfl ?_
        refine J.sub [1, 2, 3, 4, 5, 6, 7, 8, 0] rfl ?_
        exact hj_175 μ_154 l4_154 l5_154 l6_154 l7_154 x9_4 h
      · have h := h.neg c_12
        refine J_aload_n (i := 0) (p := 0) C dX12_pastesBlock_160 rfl rfl rfl ?_
        refine J_bipush (v := 32) C (by decide) dX12_pastesBlock_161 rfl ?_
        refine Jm_cV (rest := []) (st9 := fun p_13 => []) C hR hX cv_RX12_164 rfl (Nat.le_of_ble_eq_true rfl) (k12_puts hl  (Ok.ofbnd h)) rfl rfl (Nat.le_of_ble_eq_true rfl) (Nat.le_of_ble_eq_true rfl) (Nat.le_of_ble_eq_true rfl) ⟨(Nat.le_of_ble_eq_true rfl), (Nat.le_of_ble_eq_true rfl)⟩ dX12_pastesBlock_163 rfl (fun E n9 w9 hx => JT_n hx) (fun _ => rfl) (fun p_13 h => ?_)
        have h : Ok _ _ := h
        change J X K 10 False QQ 0 0 2055 (jw K σ p_13 o) 166 [(0, .ref (K.2.2 + 2017)), (1, .int l1_60), (2, .int l2_60), (3, .int l3_60), (4, .int l4_154), (5, .int l5_154), (6, .int l6_154), (7, .int l7_154), (9, .int l9_154)] []
        obtain ⟨x9_5, e_x9_5, h⟩ := Ok.nm h
        refine J_iincE (i := 9) (p := 8) (lv' := [(9, .int x9_5), (0, .ref (K.2.2 + 2017)), (1, .int l1_60), (2, .int l2_60), (3, .int l3_60), (4, .int l4_154), (5, .int l5_154), (6, .int l6_154), (7, .int l7_154)]) C e_x9_5 dX12_pastesBlock_166 rfl (by decide) (Nat.le_of_ble_eq_true rfl) rfl rfl ?_
        refine J_goto (t := 154) C dX12_pastesBlock_169 (by decide) ?_
        refine J.sub [1, 2, 3, 4, 5, 6, 7, 8, 0] rfl ?_
        exact hB_154 (p_13, x9_5) h.osome
    have hj_150 : (∀ (μ_150 : Sto) (l4_150 : Int32) (l5_150 : Int32) (l6_150 : Int32) (l7_150 : Int32) (l8_150 : Int32), Ok (f12_pastesBlock_j150 l1_60 l2_60 l3_60 μ_150 l4_150 l5_150 l6_150 l7_150 l8_150) B_60 → J X K 10 False QQ 0 0 2055 (jw K σ μ_150 o) 150 [(0, .ref (K.2.2 + 2017)), (1, .int l1_60), (2, .int l2_60), (3, .int l3_60), (4, .int l4_150), (5, .int l5_150), (6, .int l6_150), (7, .int l7_150), (8, .int l8_150)] []) := by
      intro μ_150 l4_150 l5_150 l6_150 l7_150 l8_150 h
      unfold f12_pastesBlock_j150 at h
      refine J_iload (i := 8) (p := 8) C dX12_pastesBlock_150 rfl rfl ?_
      obtain ⟨x9_7, e_x9_7, h⟩ := Ok.nm h
      refine J_istoreE (i := 9) (lv' := [(9, .int x9_7), (0, .ref (K.2.2 + 2017)), (1, .int l1_60), (2, .int l2_60), (3, .int l3_60), (4, .int l4_150), (5, .int l5_150), (6, .int l6_150), (7, .int l7_150), (8, .int l8_150)]) C e_x9_7 dX12_pastesBlock_152 (Nat.le_of_ble_eq_true rfl) rfl rfl ?_
      refine J.sub [1, 2, 3, 4, 5, 6, 7, 8, 0] rfl ?_
      exact hj_154 μ_150 l4_150 l5_150 l6_150 l7_150 x9_7 h
    have hj_144 : (∀ (μ_144 : Sto) (l4_144 : Int32) (l5_144 : Int32) (l6_144 : Int32) (l7_144 : Int32) (l8_144 : Int32), Ok (f12_pastesBlock_j144 l1_60 l2_60 l3_60 μ_144 l4_144 l5_144 l6_144 l7_144 l8_144) B_60 → J X K 10 False QQ 0 0 2055 (jw K σ μ_144 o) 144 [(0, .ref (K.2.2 + 2017)), (1, .int l1_60), (2, .int l2_60), (3, .int l3_60), (4, .int l4_144), (5, .int l5_144), (6, .int l6_144), (7, .int l7_144), (8, .int l8_144)] []) := by
      intro μ_144 l4_144 l5_144 l6_144 l7_144 l8_144 h
      unfold f12_pastesBlock_j144 at h
      refine J_aload_n (i := 0) (p := 0) C dX12_pastesBlock_144 rfl rfl rfl ?_
      refine J_bipush (v := 10) C (by decide) dX12_pastesBlock_145 rfl ?_
      refine Jm_cV (rest := []) (st9 := fun p_14 => []) C hR hX cv_RX12_164 rfl (Nat.le_of_ble_eq_true rfl) (k12_puts hl  (Ok.ofbnd h)) rfl rfl (Nat.le_of_ble_eq_true rfl) (Nat.le_of_ble_eq_true rfl) (Nat.le_of_ble_eq_true rfl) ⟨(Nat.le_of_ble_eq_true rfl), (Nat.le_of_ble_eq_true rfl)⟩ dX12_pastesBlock_147 rfl (fun E n9 w9 hx => JT_n hx) (fun _ => rfl) (fun p_14 h => ?_)
      have h : Ok _ _ := h
      change J X K 10 False QQ 0 0 2055 (jw K σ p_14 o) 150 [(0, .ref (K.2.2 + 2017)), (1, .int l1_60), (2, .int l2_60), (3, .int l3_60), (4, .int l4_144), (5, .int l5_144), (6, .int l6_144), (7, .int l7_144), (8, .int l8_144)] []
      exact hj_150 p_14 l4_144 l5_144 l6_144 l7_144 l8_144 h
    unfold f12_pastesBlock_b60 at h
    refine J_iload (i := 6) (p := 6) C dX12_pastesBlock_60 rfl rfl ?_
    refine J_aload_n (i := 0) (p := 0) C dX12_pastesBlock_62 rfl rfl rfl ?_
    refine Jm_getI C fp_RX12_212 rfl rfl dX12_pastesBlock_63 rfl ?_
    refine J_icmp_ge (t := 272) C dX12_pastesBlock_66 (by decide) rfl (fun c_15 => ?_) (fun c_15 => ?_)
    · have h := h.pos c_15
      have h := hE_60 μ_60 h.osome
      try dsimp only at h
      refine J_aload_n (i := 0) (p := 0) C dX12_pastesBlock_272 rfl rfl rfl ?_
      refine Jm_cV (rest := []) (st9 := fun p_16 => [.int p_16.1]) C hR hX cv_RX12_244 rfl (Nat.le_of_ble_eq_true rfl) (k12_acts hl  (Ok.ofbnd h)) rfl rfl (Nat.le_of_ble_eq_true rfl) (Nat.le_of_ble_eq_true rfl) (Nat.le_of_ble_eq_true rfl) ⟨(Nat.le_of_ble_eq_true rfl), (Nat.le_of_ble_eq_true rfl)⟩ dX12_pastesBlock_273 rfl (fun E n9 w9 hx => JT_n hx) (fun _ => rfl) (fun p_16 h => ?_)
      have h : Ok _ _ := h
      change J X K 10 False QQ 0 0 2055 (jw K σ p_16.2 o) 276 [(0, .ref (K.2.2 + 2017)), (1, .int l1_60), (2, .int l2_60), (3, .int l3_60), (4, .int l4_60), (5, .int l5_60), (6, .int l6_60)] [.int p_16.1]
      obtain ⟨g_17, h⟩ := Ok.ofgd h
      rw [← hQQ]
      exact J_zret C hret (narB g_17).1 (Nat.le_of_ble_eq_true rfl) (Nat.le_of_ble_eq_true rfl) ⟨_, h.osome, rfl, rfl, rfl⟩ dX12_pastesBlock_276
    · have h := h.neg c_15
      refine J_iload_n (i := 1) (p := 1) C dX12_pastesBlock_69 rfl rfl rfl ?_
      refine J_iload (i := 6) (p := 6) C dX12_pastesBlock_70 rfl rfl ?_
      refine J_iadd C dX12_pastesBlock_72 rfl ?_
      obtain ⟨x7_8, e_x7_8, h⟩ := Ok.nm h
      refine J_istoreE (i := 7) (lv' := [(7, .int x7_8), (0, .ref (K.2.2 + 2017)), (1, .int l1_60), (2, .int l2_60), (3, .int l3_60), (4, .int l4_60), (5, .int l5_60), (6, .int l6_60)]) C e_x7_8 dX12_pastesBlock_73 (Nat.le_of_ble_eq_true rfl) rfl rfl ?_
      refine J_iconst (v := 0) C (by decide) dX12_pastesBlock_75 rfl ?_
      obtain ⟨x8_9, e_x8_9, h⟩ := Ok.nm h
      refine J_istoreE (i := 8) (lv' := [(8, .int x8_9), (7, .int x7_8), (0, .ref (K.2.2 + 2017)), (1, .int l1_60), (2, .int l2_60), (3, .int l3_60), (4, .int l4_60), (5, .int l5_60), (6, .int l6_60)]) C e_x8_9 dX12_pastesBlock_76 (Nat.le_of_ble_eq_true rfl) rfl rfl ?_
      refine J_iload (i := 7) (p := 1) C dX12_pastesBlock_78 rfl rfl ?_
      refine J_iload_n (i := 3) (p := 5) C dX12_pastesBlock_80 rfl rfl rfl ?_
      refine J_icmp_ge (t := 123) C dX12_pastesBlock_81 (by decide) rfl (fun c_18 => ?_) (fun c_18 => ?_)
      · have h := h.pos c_18
        refine J_iload (i := 5) (p := 7) C dX12_pastesBlock_123 rfl rfl ?_
        refine J_aload_n (i := 0) (p := 2) C dX12_pastesBlock_125 rfl rfl rfl ?_
        refine Jm_getI C fp_RX12_138 rfl rfl dX12_pastesBlock_126 rfl ?_
        refine J_icmp_ge (t := 144) C dX12_pastesBlock_129 (by decide) rfl (fun c_19 => ?_) (fun c_19 => ?_)
        · have h := h.pos c_19
          refine J.sub [2, 3, 4, 5, 6, 7, 8, 1, 0] rfl ?_
          exact hj_144 μ_60 l4_60 l5_60 l6_60 x7_8 x8_9 h
        · have h := h.neg c_19
          refine J_aload_n (i := 0) (p := 2) C dX12_pastesBlock_132 rfl rfl rfl ?_
          refine Jm_getI C fp_RX12_158 rfl rfl dX12_pastesBlock_133 rfl ?_
          obtain ⟨x4_10, e_x4_10, h⟩ := Ok.nm h
          refine J_istoreE (i := 4) (lv' := [(4, .int x4_10), (8, .int x8_9), (7, .int x7_8), (0, .ref (K.2.2 + 2017)), (1, .int l1_60), (2, .int l2_60), (3, .int l3_60), (5, .int l5_60), (6, .int l6_60)]) C e_x4_10 dX12_pastesBlock_136 (Nat.le_of_ble_eq_true rfl) rfl rfl ?_
          refine J_aload_n (i := 0) (p := 3) C dX12_pastesBlock_138 rfl rfl rfl ?_
          refine Jm_getI C fp_RX12_138 rfl rfl dX12_pastesBlock_139 rfl ?_
          obtain ⟨x5_11, e_x5_11, h⟩ := Ok.nm h
          refine J_istoreE (i := 5) (lv' := [(5, .int x5_11), (4, .int x4_10), (8, .int x8_9), (7, .int x7_8), (0, .ref (K.2.2 + 2017)), (1, .int l1_60), (2, .int l2_60), (3, .int l3_60), (6, .int l6_60)]) C e_x5_11 dX12_pastesBlock_142 (Nat.le_of_ble_eq_true rfl) rfl rfl ?_
          refine J.sub [4, 5, 6, 7, 1, 0, 8, 3, 2] rfl ?_
          exact hj_144 μ_60 x4_10 x5_11 l6_60 x7_8 x8_9 h
      · have h := h.neg c_18
        refine J_aload_n (i := 0) (p := 2) C dX12_pastesBlock_84 rfl rfl rfl ?_
        refine J_iload (i := 7) (p := 1) C dX12_pastesBlock_85 rfl rfl ?_
        refine Jm_cV (rest := []) (st9 := fun p_20 => [.int p_20]) C hR hX cv_RX12_228 rfl (Nat.le_of_ble_eq_true rfl) (k12_endOf hl  (Ok.ofbnd h)) rfl rfl (Nat.le_of_ble_eq_true rfl) (Nat.le_of_ble_eq_true rfl) (Nat.le_of_ble_eq_true rfl) ⟨(Nat.le_of_ble_eq_true rfl), (Nat.le_of_ble_eq_true rfl)⟩ dX12_pastesBlock_87 rfl (fun E n9 w9 hx => JT_n hx) (fun _ => rfl) (fun p_20 h => ?_)
        have h : Ok _ _ := h
        change J X K 10 False QQ 0 0 2055 (jw K σ μ_60 o) 90 [(8, .int x8_9), (7, .int x7_8), (0, .ref (K.2.2 + 2017)), (1, .int l1_60), (2, .int l2_60), (3, .int l3_60), (4, .int l4_60), (5, .int l5_60), (6, .int l6_60)] [.int p_20]
        refine J_aload_n (i := 0) (p := 2) C dX12_pastesBlock_90 rfl rfl rfl ?_
        refine J_iload (i := 7) (p := 1) C dX12_pastesBlock_91 rfl rfl ?_
        refine Jm_cV (rest := [.int p_20]) (st9 := fun p_21 => [.int p_21, .int p_20]) C hR hX cv_RX12_145 rfl (Nat.le_of_ble_eq_true rfl) (k12_beginOf hl  (Ok.ofbnd h)) rfl rfl (Nat.le_of_ble_eq_true rfl) (Nat.le_of_ble_eq_true rfl) (Nat.le_of_ble_eq_true rfl) ⟨(Nat.le_of_ble_eq_true rfl), (Nat.le_of_ble_eq_true rfl)⟩ dX12_pastesBlock_93 rfl (fun E n9 w9 hx => JT_n hx) (fun _ => rfl) (fun p_21 h => ?_)
        have h : Ok _ _ := h
        change J X K 10 False QQ 0 0 2055 (jw K σ μ_60 o) 96 [(8, .int x8_9), (7, .int x7_8), (0, .ref (K.2.2 + 2017)), (1, .int l1_60), (2, .int l2_60), (3, .int l3_60), (4, .int l4_60), (5, .int l5_60), (6, .int l6_60)] [.int p_21, .int p_20]
        refine J_isub C dX12_pastesBlock_96 rfl ?_
        obtain ⟨x8_12, e_x8_12, h⟩ := Ok.nm h
        refine J_istoreE (i := 8) (lv' := [(8, .int x8_12), (7, .int x7_8), (0, .ref (K.2.2 + 2017)), (1, .int l1_60), (2, .int l2_60), (3, .int l3_60), (4, .int l4_60), (5, .int l5_60), (6, .int l6_60)]) C e_x8_12 dX12_pastesBlock_97 (Nat.le_of_ble_eq_true rfl) rfl rfl ?_
        refine J_aload_n (i := 0) (p := 2) C dX12_pastesBlock_99 rfl rfl rfl ?_
        refine Jm_getI C fp_RX12_158 rfl rfl dX12_pastesBlock_100 rfl ?_
        obtain ⟨x4_13, e_x4_13, h⟩ := Ok.nm h
        refine J_istoreE (i := 4) (lv' := [(4, .int x4_13), (8, .int x8_12), (7, .int x7_8), (0, .ref (K.2.2 + 2017)), (1, .int l1_60), (2, .int l2_60), (3, .int l3_60), (5, .int l5_60), (6, .int l6_60)]) C e_x4_13 dX12_pastesBlock_103 (Nat.le_of_ble_eq_true rfl) rfl rfl ?_
        refine J_aload_n (i := 0) (p := 3) C dX12_pastesBlock_105 rfl rfl rfl ?_
        refine J_iload (i := 7) (p := 2) C dX12_pastesBlock_106 rfl rfl ?_
        refine Jm_cV (rest := []) (st9 := fun p_22 => [.int p_22]) C hR hX cv_RX12_145 rfl (Nat.le_of_ble_eq_true rfl) (k12_beginOf hl  (Ok.ofbnd h)) rfl rfl (Nat.le_of_ble_eq_true rfl) (Nat.le_of_ble_eq_true rfl) (Nat.le_of_ble_eq_true rfl) ⟨(Nat.le_of_ble_eq_true rfl), (Nat.le_of_ble_eq_true rfl)⟩ dX12_pastesBlock_108 rfl (fun E n9 w9 hx => JT_n hx) (fun _ => rfl) (fun p_22 h => ?_)
        have h : Ok _ _ := h
        change J X K 10 False QQ 0 0 2055 (jw K σ μ_60 o) 111 [(4, .int x4_13), (8, .int x8_12), (7, .int x7_8), (0, .ref (K.2.2 + 2017)), (1, .int l1_60), (2, .int l2_60), (3, .int l3_60), (5, .int l5_60), (6, .int l6_60)] [.int p_22]
        refine J_iload (i := 8) (p := 1) C dX12_pastesBlock_111 rfl rfl ?_
        refine J_iload_n (i := 2) (p := 5) C dX12_pastesBlock_113 rfl rfl rfl ?_
        refine J_cS (rest := [.int p_22]) (st9 := fun p_23 => [.int p_23, .int p_22]) C hR hX cs_RX12_261 (k12_less hl  (Ok.ofbnd h)) rfl rfl (Nat.le_of_ble_eq_true rfl) (Nat.le_of_ble_eq_true rfl) (Nat.le_of_ble_eq_true rfl) ⟨(Nat.le_of_ble_eq_true rfl), (Nat.le_of_ble_eq_true rfl)⟩ dX12_pastesBlock_114 rfl (fun E n9 w9 hx => JT_n hx) (fun _ => rfl) (fun p_23 h => ?_)
        have h : Ok _ _ := h
        change J X K 10 False QQ 0 0 2055 (jw K σ μ_60 o) 117 [(4, .int x4_13), (8, .int x8_12), (7, .int x7_8), (0, .ref (K.2.2 + 2017)), (1, .int l1_60), (2, .int l2_60), (3, .int l3_60), (5, .int l5_60), (6, .int l6_60)] [.int p_23, .int p_22]
        refine J_iadd C dX12_pastesBlock_117 rfl ?_
        obtain ⟨x5_14, e_x5_14, h⟩ := Ok.nm h
        refine J_istoreE (i := 5) (lv' := [(5, .int x5_14), (4, .int x4_13), (8, .int x8_12), (7, .int x7_8), (0, .ref (K.2.2 + 2017)), (1, .int l1_60), (2, .int l2_60), (3, .int l3_60), (6, .int l6_60)]) C e_x5_14 dX12_pastesBlock_118 (Nat.le_of_ble_eq_true rfl) rfl rfl ?_
        refine J_goto (t := 150) C dX12_pastesBlock_120 (by decide) ?_
        refine J.sub [4, 5, 6, 7, 1, 0, 8, 3, 2] rfl ?_
        exact hj_150 μ_60 x4_13 x5_14 l6_60 x7_8 x8_12 h
  unfold f12_pastesBlock at h
  refine J_aload_n (i := 0) (p := 0) C dX12_pastesBlock_0 rfl rfl rfl ?_
  refine J_aload_n (i := 0) (p := 0) C dX12_pastesBlock_1 rfl rfl rfl ?_
  refine Jm_getS (o2 := 2) (r2 := 2019) C fp_RX12_13 rfl rfl rfl dX12_pastesBlock_2 rfl ?_
  refine J_iconst (v := 0) C (by decide) dX12_pastesBlock_5 rfl ?_
  obtain ⟨g_26, h⟩ := Ok.ofgd h
  refine Jm_iald C rfl rfl g_26 dX12_pastesBlock_6 rfl ?_
  refine Jm_cV (rest := []) (st9 := fun p_27 => [.int p_27]) C hR hX cv_RX12_149 rfl (Nat.le_of_ble_eq_true rfl) (k12_lineAt hl  (Ok.ofbnd h)) rfl rfl (Nat.le_of_ble_eq_true rfl) (Nat.le_of_ble_eq_true rfl) (Nat.le_of_ble_eq_true rfl) ⟨(Nat.le_of_ble_eq_true rfl), (Nat.le_of_ble_eq_true rfl)⟩ dX12_pastesBlock_7 rfl (fun E n9 w9 hx => JT_n hx) (fun _ => rfl) (fun p_27 h => ?_)
  have h : Ok _ _ := h
  change J X K 10 False QQ 0 0 2055 (jw K σ μ o) 10 [(0, .ref (K.2.2 + 2017))] [.int p_27]
  obtain ⟨x1_15, e_x1_15, h⟩ := Ok.nm h
  refine J_istoreE_n (i := 1) (lv' := [(1, .int x1_15), (0, .ref (K.2.2 + 2017))]) C e_x1_15 dX12_pastesBlock_10 rfl (Nat.le_of_ble_eq_true rfl) rfl rfl ?_
  refine J_aload_n (i := 0) (p := 1) C dX12_pastesBlock_11 rfl rfl rfl ?_
  refine Jm_getS (o2 := 2) (r2 := 2019) C fp_RX12_13 rfl rfl rfl dX12_pastesBlock_12 rfl ?_
  refine J_iconst (v := 0) C (by decide) dX12_pastesBlock_15 rfl ?_
  obtain ⟨g_28, h⟩ := Ok.ofgd h
  refine Jm_iald C rfl rfl g_28 dX12_pastesBlock_16 rfl ?_
  refine J_aload_n (i := 0) (p := 1) C dX12_pastesBlock_17 rfl rfl rfl ?_
  refine J_iload_n (i := 1) (p := 0) C dX12_pastesBlock_18 rfl rfl rfl ?_
  refine Jm_cV (rest := [.int (aI μ 2019 (Int32.toNatClampNeg (0 : Int32)))]) (st9 := fun p_29 => [.int p_29, .int (aI μ 2019 (Int32.toNatClampNeg (0 : Int32)))]) C hR hX cv_RX12_145 rfl (Nat.le_of_ble_eq_true rfl) (k12_beginOf hl  (Ok.ofbnd h)) rfl rfl (Nat.le_of_ble_eq_true rfl) (Nat.le_of_ble_eq_true rfl) (Nat.le_of_ble_eq_true rfl) ⟨(Nat.le_of_ble_eq_true rfl), (Nat.le_of_ble_eq_true rfl)⟩ dX12_pastesBlock_19 rfl (fun E n9 w9 hx => JT_n hx) (fun _ => rfl) (fun p_29 h => ?_)
  have h : Ok _ _ := h
  change J X K 10 False QQ 0 0 2055 (jw K σ μ o) 22 [(1, .int x1_15), (0, .ref (K.2.2 + 2017))] [.int p_29, .int (aI μ 2019 (Int32.toNatClampNeg (0 : Int32)))]
  refine J_isub C dX12_pastesBlock_22 rfl ?_
  obtain ⟨x2_16, e_x2_16, h⟩ := Ok.nm h
  refine J_istoreE_n (i := 2) (lv' := [(2, .int x2_16), (1, .int x1_15), (0, .ref (K.2.2 + 2017))]) C e_x2_16 dX12_pastesBlock_23 rfl (Nat.le_of_ble_eq_true rfl) rfl rfl ?_
  refine J_aload_n (i := 0) (p := 2) C dX12_pastesBlock_24 rfl rfl rfl ?_
  refine Jm_getI C fp_RX12_138 rfl rfl dX12_pastesBlock_25 rfl ?_
  refine J_aload_n (i := 0) (p := 2) C dX12_pastesBlock_28 rfl rfl rfl ?_
  refine J_iload_n (i := 1) (p := 1) C dX12_pastesBlock_29 rfl rfl rfl ?_
  refine J_iload_n (i := 2) (p := 0) C dX12_pastesBlock_30 rfl rfl rfl ?_
  refine Jm_cV (rest := [.int (fI μ 2017 5)]) (st9 := fun p_30 => [.int p_30, .int (fI μ 2017 5)]) C hR hX cv_RX12_267 rfl (Nat.le_of_ble_eq_true rfl) (k12_blockLetters hl  (Ok.ofbnd h)) rfl rfl (Nat.le_of_ble_eq_true rfl) (Nat.le_of_ble_eq_true rfl) (Nat.le_of_ble_eq_true rfl) ⟨(Nat.le_of_ble_eq_true rfl), (Nat.le_of_ble_eq_true rfl)⟩ dX12_pastesBlock_31 rfl (fun E n9 w9 hx => JT_n hx) (fun _ => rfl) (fun p_30 h => ?_)
  have h : Ok _ _ := h
  change J X K 10 False QQ 0 0 2055 (jw K σ μ o) 34 [(2, .int x2_16), (1, .int x1_15), (0, .ref (K.2.2 + 2017))] [.int p_30, .int (fI μ 2017 5)]
  refine J_iadd C dX12_pastesBlock_34 rfl ?_
  refine J_sipush (v := 3000) C (by decide) dX12_pastesBlock_35 rfl ?_
  refine J_icmp_le (t := 43) C dX12_pastesBlock_38 (by decide) rfl (fun c_31 => ?_) (fun c_31 => ?_)
  · have h := h.pos c_31
    refine J_aload_n (i := 0) (p := 2) C dX12_pastesBlock_43 rfl rfl rfl ?_
    refine Jm_cV (rest := []) (st9 := fun p_32 => [.int p_32]) C hR hX cv_RX12_141 rfl (Nat.le_of_ble_eq_true rfl) (k12_lines hl  (Ok.ofbnd h)) rfl rfl (Nat.le_of_ble_eq_true rfl) (Nat.le_of_ble_eq_true rfl) (Nat.le_of_ble_eq_true rfl) ⟨(Nat.le_of_ble_eq_true rfl), (Nat.le_of_ble_eq_true rfl)⟩ dX12_pastesBlock_44 rfl (fun E n9 w9 hx => JT_n hx) (fun _ => rfl) (fun p_32 h => ?_)
    have h : Ok _ _ := h
    change J X K 10 False QQ 0 0 2055 (jw K σ μ o) 47 [(2, .int x2_16), (1, .int x1_15), (0, .ref (K.2.2 + 2017))] [.int p_32]
    obtain ⟨x3_17, e_x3_17, h⟩ := Ok.nm h
    refine J_istoreE_n (i := 3) (lv' := [(3, .int x3_17), (2, .int x2_16), (1, .int x1_15), (0, .ref (K.2.2 + 2017))]) C e_x3_17 dX12_pastesBlock_47 rfl (Nat.le_of_ble_eq_true rfl) rfl rfl ?_
    refine J_iconst (v := 0) C (by decide) dX12_pastesBlock_48 rfl ?_
    obtain ⟨x4_18, e_x4_18, h⟩ := Ok.nm h
    refine J_istoreE (i := 4) (lv' := [(4, .int x4_18), (3, .int x3_17), (2, .int x2_16), (1, .int x1_15), (0, .ref (K.2.2 + 2017))]) C e_x4_18 dX12_pastesBlock_49 (Nat.le_of_ble_eq_true rfl) rfl rfl ?_
    refine J_aload_n (i := 0) (p := 4) C dX12_pastesBlock_51 rfl rfl rfl ?_
    refine Jm_getI C fp_RX12_138 rfl rfl dX12_pastesBlock_52 rfl ?_
    obtain ⟨x5_19, e_x5_19, h⟩ := Ok.nm h
    refine J_istoreE (i := 5) (lv' := [(5, .int x5_19), (4, .int x4_18), (3, .int x3_17), (2, .int x2_16), (1, .int x1_15), (0, .ref (K.2.2 + 2017))]) C e_x5_19 dX12_pastesBlock_55 (Nat.le_of_ble_eq_true rfl) rfl rfl ?_
    refine J_iconst (v := 0) C (by decide) dX12_pastesBlock_57 rfl ?_
    obtain ⟨x6_20, e_x6_20, h⟩ := Ok.nm h
    refine J_istoreE (i := 6) (lv' := [(6, .int x6_20), (5, .int x5_19), (4, .int x4_18), (3, .int x3_17), (2, .int x2_16), (1, .int x1_15), (0, .ref (K.2.2 + 2017))]) C e_x6_20 dX12_pastesBlock_58 (Nat.le_of_ble_eq_true rfl) rfl rfl ?_
    refine J.sub [6, 5, 4, 3, 2, 1, 0] rfl ?_
    exact hj_60 μ x1_15 x2_16 x3_17 x4_18 x5_19 x6_20 h
  · have h := h.neg c_31
    refine J_iconst (v := 0) C (by decide) dX12_pastesBlock_41 rfl ?_
    rw [← hQQ]
    exact J_zret C hret rfl (Nat.le_of_ble_eq_true rfl) (Nat.le_of_ble_eq_true rfl) ⟨_, h.osome, rfl, rfl, rfl⟩ dX12_pastesBlock_42
def f12_pastes_b56 (μ_56 : Sto) (l1_56 : Int32) : Option ((Sto × Int32) ⊕ Sto) :=
  if (fI μ_56 2017 6) ≤ l1_56 then
    some (.inr μ_56)
  else
    gd (inb l1_56 8) <|
    gd (inb l1_56 8) <|
    bnd (f12_adds μ_56 (aI μ_56 2019 (Int32.toNatClampNeg l1_56)) (aI μ_56 2019 (Int32.toNatClampNeg l1_56)) (0 : Int32) (fI μ_56 2017 28)) fun p_6 =>
    stp (l1_56 + (1 : Int32)) fun x1_1 =>
    some (.inl (p_6, x1_1))
def f12_pastes_j56 (μ_56 : Sto) (l1_56 : Int32) : Option (Int32 × Sto) :=
  bnd (loopF (fun s_56 => f12_pastes_b56 s_56.1 s_56.2) FU (μ_56, l1_56)) fun r_56 =>
    bnd (f12_acts r_56) fun p_7 =>
    gd (isB p_7.1) <|
    some (p_7.1, p_7.2)
def f12_pastes_b30 (μ_30 : Sto) (l1_30 : Int32) : Option ((Sto × Int32) ⊕ Sto) :=
  if (fI μ_30 2017 12) ≤ l1_30 then
    some (.inr μ_30)
  else
    gd (inb l1_30 12000) <|
    bnd (f12_puts μ_30 (aI μ_30 2024 (Int32.toNatClampNeg l1_30))) fun p_11 =>
    stp (l1_30 + (1 : Int32)) fun x1_3 =>
    some (.inl (p_11, x1_3))
def f12_pastes_j30 (μ_30 : Sto) (l1_30 : Int32) : Option (Int32 × Sto) :=
  bnd (loopF (fun s_30 => f12_pastes_b30 s_30.1 s_30.2) FU (μ_30, l1_30)) fun r_30 =>
    stp (0 : Int32) fun x1_4 =>
    f12_pastes_j56 r_30 x1_4
def f12_pastes (μ : Sto) : Option (Int32 × Sto) :=
  bnd (f12_begins μ) fun p_12 =>
  if (fI p_12 2017 13) ≤ 0 then
    if (fI p_12 2017 12) ≤ (3000 : Int32) then
      stp (0 : Int32) fun x1_5 =>
      f12_pastes_j30 p_12 x1_5
    else
      some ((0 : Int32), p_12)
  else
    bnd (f12_pastesBlock p_12) fun p_15 =>
    gd (isB p_15.1) <|
    some (p_15.1, p_15.2)
set_option maxHeartbeats 4000000 in
set_option maxRecDepth 100000 in
theorem k12_pastes {l : Launch} {K : JK} (hl : l.stackTraces = false) {σ μ : Sto} {o : Int64}   {Qf : Int32 × Sto → Prop} (h : Ok (f12_pastes μ) Qf) : Con l K yX12_pastes (.code yX12_pastes cX12_pastes 2 (some .boolean) :: TB) 4 0 0 False [.ref (K.2.2 + 2017)] 2055 (jw K σ μ o) (PR Qf (fun p => some (.int p.1)) (fun p => jw K σ p.2 o)) PN := by
  refine Con.enter (own := RX12) hl (by decide) rfl (Nat.le_of_ble_eq_true rfl) ?_
  intro X hX hR C hret hnt
  generalize hQQ : jQ X K 0 0 (PR Qf (fun p => some (.int p.1)) (fun p => jw K σ p.2 o)) PN False = QQ
  change J X K 2 False QQ 0 0 2055 (jw K σ μ o) 0 [(0, .ref (K.2.2 + 2017))] []
  have hj_56 : (∀ (μ_56 : Sto) (l1_56 : Int32), Ok (f12_pastes_j56 μ_56 l1_56) Qf → J X K 2 False QQ 0 0 2055 (jw K σ μ_56 o) 56 [(0, .ref (K.2.2 + 2017)), (1, .int l1_56)] []) := by
    intro μ_56 l1_56 h
    unfold f12_pastes_j56 at h
    refine loop_gen (S := Sto × Int32) (P := fun s_56 => J X K 2 False QQ 0 0 2055 (jw K σ s_56.1 o) 56 [(0, .ref (K.2.2 + 2017)), (1, .int s_56.2)] []) ?_ FU (μ_56, l1_56) (Ok.ofbnd h)
    intro B_56 hB_56 hE_56 s_56 h
    obtain ⟨μ_56, l1_56⟩ := s_56
    have h : Ok (f12_pastes_b56 μ_56 l1_56) B_56 := h
    change J X K 2 False QQ 0 0 2055 (jw K σ μ_56 o) 56 [(0, .ref (K.2.2 + 2017)), (1, .int l1_56)] []
    unfold f12_pastes_b56 at h
    refine J_iload_n (i := 1) (p := 1) C dX12_pastes_56 rfl rfl rfl ?_
    refine J_aload_n (i := 0) (p := 0) C dX12_pastes_57 rfl rfl rfl ?_
    refine Jm_getI C fp_RX12_26 rfl rfl dX12_pastes_58 rfl ?_
    refine J_icmp_ge (t := 91) C dX12_pastes_61 (by decide) rfl (fun c_1 => ?_) (fun c_1 => ?_)
    · have h := h.pos c_1
      have h := hE_56 μ_56 h.osome
      try dsimp only at h
      refine J_aload_n (i := 0) (p := 0) C dX12_pastes_91 rfl rfl rfl ?_
      refine Jm_cV (rest := []) (st9 := fun p_2 => [.int p_2.1]) C hR hX cv_RX12_244 rfl (Nat.le_of_ble_eq_true rfl) (k12_acts hl  (Ok.ofbnd h)) rfl rfl (Nat.le_of_ble_eq_true rfl) (Nat.le_of_ble_eq_true rfl) (Nat.le_of_ble_eq_true rfl) ⟨(Nat.le_of_ble_eq_true rfl), (Nat.le_of_ble_eq_true rfl)⟩ dX12_pastes_92 rfl (fun E n9 w9 hx => JT_n hx) (fun _ => rfl) (fun p_2 h => ?_)
      have h : Ok _ _ := h
      change J X K 2 False QQ 0 0 2055 (jw K σ p_2.2 o) 95 [(0, .ref (K.2.2 + 2017)), (1, .int l1_56)] [.int p_2.1]
      obtain ⟨g_3, h⟩ := Ok.ofgd h
      rw [← hQQ]
      exact J_zret C hret (narB g_3).1 (Nat.le_of_ble_eq_true rfl) (Nat.le_of_ble_eq_true rfl) ⟨_, h.osome, rfl, rfl, rfl⟩ dX12_pastes_95
    · have h := h.neg c_1
      refine J_aload_n (i := 0) (p := 0) C dX12_pastes_64 rfl rfl rfl ?_
      refine J_aload_n (i := 0) (p := 0) C dX12_pastes_65 rfl rfl rfl ?_
      refine Jm_getS (o2 := 2) (r2 := 2019) C fp_RX12_13 rfl rfl rfl dX12_pastes_66 rfl ?_
      refine J_iload_n (i := 1) (p := 1) C dX12_pastes_69 rfl rfl rfl ?_
      obtain ⟨g_4, h⟩ := Ok.ofgd h
      refine Jm_iald C rfl rfl g_4 dX12_pastes_70 rfl ?_
      refine J_aload_n (i := 0) (p := 0) C dX12_pastes_71 rfl rfl rfl ?_
      refine Jm_getS (o2 := 2) (r2 := 2019) C fp_RX12_13 rfl rfl rfl dX12_pastes_72 rfl ?_
      refine J_iload_n (i := 1) (p := 1) C dX12_pastes_75 rfl rfl rfl ?_
      obtain ⟨g_5, h⟩ := Ok.ofgd h
      refine Jm_iald C rfl rfl g_5 dX12_pastes_76 rfl ?_
      refine J_iconst (v := 0) C (by decide) dX12_pastes_77 rfl ?_
      refine J_aload_n (i := 0) (p := 0) C dX12_pastes_78 rfl rfl rfl ?_
      refine Jm_getI C fp_RX12_158 rfl rfl dX12_pastes_79 rfl ?_
      refine Jm_cV (rest := []) (st9 := fun p_6 => []) C hR hX cv_RX12_240 rfl (Nat.le_of_ble_eq_true rfl) (k12_adds hl  (Ok.ofbnd h)) rfl rfl (Nat.le_of_ble_eq_true rfl) (Nat.le_of_ble_eq_true rfl) (Nat.le_of_ble_eq_true rfl) ⟨(Nat.le_of_ble_eq_true rfl), (Nat.le_of_ble_eq_true rfl)⟩ dX12_pastes_82 rfl (fun E n9 w9 hx => JT_n hx) (fun _ => rfl) (fun p_6 h => ?_)
      have h : Ok _ _ := h
      change J X K 2 False QQ 0 0 2055 (jw K σ p_6 o) 85 [(0, .ref (K.2.2 + 2017)), (1, .int l1_56)] []
      obtain ⟨x1_1, e_x1_1, h⟩ := Ok.nm h
      refine J_iincE (i := 1) (p := 1) (lv' := [(1, .int x1_1), (0, .ref (K.2.2 + 2017))]) C e_x1_1 dX12_pastes_85 rfl (by decide) (Nat.le_of_ble_eq_true rfl) rfl rfl ?_
      refine J_goto (t := 56) C dX12_pastes_88 (by decide) ?_
      refine J.sub [1, 0] rfl ?_
      exact hB_56 (p_6, x1_1) h.osome
  have hj_30 : (∀ (μ_30 : Sto) (l1_30 : Int32), Ok (f12_pastes_j30 μ_30 l1_30) Qf → J X K 2 False QQ 0 0 2055 (jw K σ μ_30 o) 30 [(0, .ref (K.2.2 + 2017)), (1, .int l1_30)] []) := by
    intro μ_30 l1_30 h
    unfold f12_pastes_j30 at h
    refine loop_gen (S := Sto × Int32) (P := fun s_30 => J X K 2 False QQ 0 0 2055 (jw K σ s_30.1 o) 30 [(0, .ref (K.2.2 + 2017)), (1, .int s_30.2)] []) ?_ FU (μ_30, l1_30) (Ok.ofbnd h)
    intro B_30 hB_30 hE_30 s_30 h
    obtain ⟨μ_30, l1_30⟩ := s_30
    have h : Ok (f12_pastes_b30 μ_30 l1_30) B_30 := h
    change J X K 2 False QQ 0 0 2055 (jw K σ μ_30 o) 30 [(0, .ref (K.2.2 + 2017)), (1, .int l1_30)] []
    unfold f12_pastes_b30 at h
    refine J_iload_n (i := 1) (p := 1) C dX12_pastes_30 rfl rfl rfl ?_
    refine J_aload_n (i := 0) (p := 0) C dX12_pastes_31 rfl rfl rfl ?_
    refine Jm_getI C fp_RX12_215 rfl rfl dX12_pastes_32 rfl ?_
    refine J_icmp_ge (t := 54) C dX12_pastes_35 (by decide) rfl (fun c_9 => ?_) (fun c_9 => ?_)
    · have h := h.pos c_9
      have h := hE_30 μ_30 h.osome
      try dsimp only at h
      refine J_iconst (v := 0) C (by decide) dX12_pastes_54 rfl ?_
      obtain ⟨x1_2, e_x1_2, h⟩ := Ok.nm h
      refine J_istoreE_n (i := 1) (lv' := [(1, .int x1_2), (0, .ref (K.2.2 + 2017))]) C e_x1_2 dX12_pastes_55 rfl (Nat.le_of_ble_eq_true rfl) rfl rfl ?_
      refine J.sub [1, 0] rfl ?_
      exact hj_56 μ_30 x1_2 h
    · have h := h.neg c_9
      refine J_aload_n (i := 0) (p := 0) C dX12_pastes_38 rfl rfl rfl ?_
      refine J_aload_n (i := 0) (p := 0) C dX12_pastes_39 rfl rfl rfl ?_
      refine Jm_getS (o2 := 7) (r2 := 2024) C fp_RX12_33 rfl rfl rfl dX12_pastes_40 rfl ?_
      refine J_iload_n (i := 1) (p := 1) C dX12_pastes_43 rfl rfl rfl ?_
      obtain ⟨g_10, h⟩ := Ok.ofgd h
      refine Jm_iald C rfl rfl g_10 dX12_pastes_44 rfl ?_
      refine Jm_cV (rest := []) (st9 := fun p_11 => []) C hR hX cv_RX12_164 rfl (Nat.le_of_ble_eq_true rfl) (k12_puts hl  (Ok.ofbnd h)) rfl rfl (Nat.le_of_ble_eq_true rfl) (Nat.le_of_ble_eq_true rfl) (Nat.le_of_ble_eq_true rfl) ⟨(Nat.le_of_ble_eq_true rfl), (Nat.le_of_ble_eq_true rfl)⟩ dX12_pastes_45 rfl (fun E n9 w9 hx => JT_n hx) (fun _ => rfl) (fun p_11 h => ?_)
      have h : Ok _ _ := h
      change J X K 2 False QQ 0 0 2055 (jw K σ p_11 o) 48 [(0, .ref (K.2.2 + 2017)), (1, .int l1_30)] []
      obtain ⟨x1_3, e_x1_3, h⟩ := Ok.nm h
      refine J_iincE (i := 1) (p := 1) (lv' := [(1, .int x1_3), (0, .ref (K.2.2 + 2017))]) C e_x1_3 dX12_pastes_48 rfl (by decide) (Nat.le_of_ble_eq_true rfl) rfl rfl ?_
      refine J_goto (t := 30) C dX12_pastes_51 (by decide) ?_
      refine J.sub [1, 0] rfl ?_
      exact hB_30 (p_11, x1_3) h.osome
  unfold f12_pastes at h
  refine J_aload_n (i := 0) (p := 0) C dX12_pastes_0 rfl rfl rfl ?_
  refine Jm_cV (rest := []) (st9 := fun p_12 => []) C hR hX cv_RX12_234 rfl (Nat.le_of_ble_eq_true rfl) (k12_begins hl  (Ok.ofbnd h)) rfl rfl (Nat.le_of_ble_eq_true rfl) (Nat.le_of_ble_eq_true rfl) (Nat.le_of_ble_eq_true rfl) ⟨(Nat.le_of_ble_eq_true rfl), (Nat.le_of_ble_eq_true rfl)⟩ dX12_pastes_1 rfl (fun E n9 w9 hx => JT_n hx) (fun _ => rfl) (fun p_12 h => ?_)
  have h : Ok _ _ := h
  change J X K 2 False QQ 0 0 2055 (jw K σ p_12 o) 4 [(0, .ref (K.2.2 + 2017))] []
  refine J_aload_n (i := 0) (p := 0) C dX12_pastes_4 rfl rfl rfl ?_
  refine Jm_getI C fp_RX12_212 rfl rfl dX12_pastes_5 rfl ?_
  refine J_if_le (t := 16) C dX12_pastes_8 (by decide) rfl (fun c_13 => ?_) (fun c_13 => ?_)
  · have h := h.pos c_13
    refine J_aload_n (i := 0) (p := 0) C dX12_pastes_16 rfl rfl rfl ?_
    refine Jm_getI C fp_RX12_215 rfl rfl dX12_pastes_17 rfl ?_
    refine J_sipush (v := 3000) C (by decide) dX12_pastes_20 rfl ?_
    refine J_icmp_le (t := 28) C dX12_pastes_23 (by decide) rfl (fun c_14 => ?_) (fun c_14 => ?_)
    · have h := h.pos c_14
      refine J_iconst (v := 0) C (by decide) dX12_pastes_28 rfl ?_
      obtain ⟨x1_5, e_x1_5, h⟩ := Ok.nm h
      refine J_istoreE_n (i := 1) (lv' := [(1, .int x1_5), (0, .ref (K.2.2 + 2017))]) C e_x1_5 dX12_pastes_29 rfl (Nat.le_of_ble_eq_true rfl) rfl rfl ?_
      refine J.sub [1, 0] rfl ?_
      exact hj_30 p_12 x1_5 h
    · have h := h.neg c_14
      refine J_iconst (v := 0) C (by decide) dX12_pastes_26 rfl ?_
      rw [← hQQ]
      exact J_zret C hret rfl (Nat.le_of_ble_eq_true rfl) (Nat.le_of_ble_eq_true rfl) ⟨_, h.osome, rfl, rfl, rfl⟩ dX12_pastes_27
  · have h := h.neg c_13
    refine J_aload_n (i := 0) (p := 0) C dX12_pastes_11 rfl rfl rfl ?_
    refine Jm_cV (rest := []) (st9 := fun p_15 => [.int p_15.1]) C hR hX cv_RX12_270 rfl (Nat.le_of_ble_eq_true rfl) (k12_pastesBlock hl  (Ok.ofbnd h)) rfl rfl (Nat.le_of_ble_eq_true rfl) (Nat.le_of_ble_eq_true rfl) (Nat.le_of_ble_eq_true rfl) ⟨(Nat.le_of_ble_eq_true rfl), (Nat.le_of_ble_eq_true rfl)⟩ dX12_pastes_12 rfl (fun E n9 w9 hx => JT_n hx) (fun _ => rfl) (fun p_15 h => ?_)
    have h : Ok _ _ := h
    change J X K 2 False QQ 0 0 2055 (jw K σ p_15.2 o) 15 [(0, .ref (K.2.2 + 2017))] [.int p_15.1]
    obtain ⟨g_16, h⟩ := Ok.ofgd h
    rw [← hQQ]
    exact J_zret C hret (narB g_16).1 (Nat.le_of_ble_eq_true rfl) (Nat.le_of_ble_eq_true rfl) ⟨_, h.osome, rfl, rfl, rfl⟩ dX12_pastes_15
def f12_paste (μ : Sto) : Option (Int32 × Sto) :=
  bnd (f12_pastes μ) fun p_1 =>
  if p_1.1 = 0 then
    bnd (f12_refuse p_1.2 (1 : Int32)) fun p_5 =>
    some (p_5.1, p_5.2)
  else
    bnd (f12_steps p_1.2 (3 : Int32) (0 : Int32) (0 : Int32)) fun p_3 =>
    bnd (f12_told p_3 (fI p_3 2017 5)) fun p_4 =>
    some (p_4.1, p_4.2)
set_option maxHeartbeats 4000000 in
set_option maxRecDepth 100000 in
theorem k12_paste {l : Launch} {K : JK} (hl : l.stackTraces = false) {σ μ : Sto} {o : Int64}   {Qf : Int32 × Sto → Prop} (h : Ok (f12_paste μ) Qf) : Con l K yX12_paste (.code yX12_paste cX12_paste 1 (some .int) :: TB) 5 0 0 False [.ref (K.2.2 + 2017)] 2055 (jw K σ μ o) (PR Qf (fun p => some (.int p.1)) (fun p => jw K σ p.2 o)) PN := by
  refine Con.enter (own := RX12) hl (by decide) rfl (Nat.le_of_ble_eq_true rfl) ?_
  intro X hX hR C hret hnt
  generalize hQQ : jQ X K 0 0 (PR Qf (fun p => some (.int p.1)) (fun p => jw K σ p.2 o)) PN False = QQ
  change J X K 1 False QQ 0 0 2055 (jw K σ μ o) 0 [(0, .ref (K.2.2 + 2017))] []
  unfold f12_paste at h
  refine J_aload_n (i := 0) (p := 0) C dX12_paste_0 rfl rfl rfl ?_
  refine Jm_cV (rest := []) (st9 := fun p_1 => [.int p_1.1]) C hR hX cv_RX12_273 rfl (Nat.le_of_ble_eq_true rfl) (k12_pastes hl  (Ok.ofbnd h)) rfl rfl (Nat.le_of_ble_eq_true rfl) (Nat.le_of_ble_eq_true rfl) (Nat.le_of_ble_eq_true rfl) ⟨(Nat.le_of_ble_eq_true rfl), (Nat.le_of_ble_eq_true rfl)⟩ dX12_paste_1 rfl (fun E n9 w9 hx => JT_n hx) (fun _ => rfl) (fun p_1 h => ?_)
  have h : Ok _ _ := h
  change J X K 1 False QQ 0 0 2055 (jw K σ p_1.2 o) 4 [(0, .ref (K.2.2 + 2017))] [.int p_1.1]
  refine J_if_ne (t := 13) C dX12_paste_4 (by decide) rfl (fun c_2 => ?_) (fun c_2 => ?_)
  · have h := h.neg c_2
    refine J_aload_n (i := 0) (p := 0) C dX12_paste_13 rfl rfl rfl ?_
    refine J_iconst (v := 3) C (by decide) dX12_paste_14 rfl ?_
    refine J_iconst (v := 0) C (by decide) dX12_paste_15 rfl ?_
    refine J_iconst (v := 0) C (by decide) dX12_paste_16 rfl ?_
    refine Jm_cV (rest := []) (st9 := fun p_3 => []) C hR hX cv_RX12_250 rfl (Nat.le_of_ble_eq_true rfl) (k12_steps hl  (Ok.ofbnd h)) rfl rfl (Nat.le_of_ble_eq_true rfl) (Nat.le_of_ble_eq_true rfl) (Nat.le_of_ble_eq_true rfl) ⟨(Nat.le_of_ble_eq_true rfl), (Nat.le_of_ble_eq_true rfl)⟩ dX12_paste_17 rfl (fun E n9 w9 hx => JT_n hx) (fun _ => rfl) (fun p_3 h => ?_)
    have h : Ok _ _ := h
    change J X K 1 False QQ 0 0 2055 (jw K σ p_3 o) 20 [(0, .ref (K.2.2 + 2017))] []
    refine J_aload_n (i := 0) (p := 0) C dX12_paste_20 rfl rfl rfl ?_
    refine J_aload_n (i := 0) (p := 0) C dX12_paste_21 rfl rfl rfl ?_
    refine Jm_getI C fp_RX12_138 rfl rfl dX12_paste_22 rfl ?_
    refine Jm_cV (rest := []) (st9 := fun p_4 => [.int p_4.1]) C hR hX cv_RX12_209 rfl (Nat.le_of_ble_eq_true rfl) (k12_told hl  (Ok.ofbnd h)) rfl rfl (Nat.le_of_ble_eq_true rfl) (Nat.le_of_ble_eq_true rfl) (Nat.le_of_ble_eq_true rfl) ⟨(Nat.le_of_ble_eq_true rfl), (Nat.le_of_ble_eq_true rfl)⟩ dX12_paste_25 rfl (fun E n9 w9 hx => JT_n hx) (fun _ => rfl) (fun p_4 h => ?_)
    have h : Ok _ _ := h
    change J X K 1 False QQ 0 0 2055 (jw K σ p_4.2 o) 28 [(0, .ref (K.2.2 + 2017))] [.int p_4.1]
    rw [← hQQ]
    exact J_iret C hret (Nat.le_of_ble_eq_true rfl) (Nat.le_of_ble_eq_true rfl) ⟨_, h.osome, rfl, rfl, rfl⟩ dX12_paste_28
  · have h := h.pos (Decidable.not_not.mp c_2)
    refine J_aload_n (i := 0) (p := 0) C dX12_paste_7 rfl rfl rfl ?_
    refine J_iconst (v := 1) C (by decide) dX12_paste_8 rfl ?_
    refine Jm_cV (rest := []) (st9 := fun p_5 => [.int p_5.1]) C hR hX cv_RX12_206 rfl (Nat.le_of_ble_eq_true rfl) (k12_refuse hl  (Ok.ofbnd h)) rfl rfl (Nat.le_of_ble_eq_true rfl) (Nat.le_of_ble_eq_true rfl) (Nat.le_of_ble_eq_true rfl) ⟨(Nat.le_of_ble_eq_true rfl), (Nat.le_of_ble_eq_true rfl)⟩ dX12_paste_9 rfl (fun E n9 w9 hx => JT_n hx) (fun _ => rfl) (fun p_5 h => ?_)
    have h : Ok _ _ := h
    change J X K 1 False QQ 0 0 2055 (jw K σ p_5.2 o) 12 [(0, .ref (K.2.2 + 2017))] [.int p_5.1]
    rw [← hQQ]
    exact J_iret C hret (Nat.le_of_ble_eq_true rfl) (Nat.le_of_ble_eq_true rfl) ⟨_, h.osome, rfl, rfl, rfl⟩ dX12_paste_12
def f12_indent_j205 (l1 : Int32) (l2 : Int32) (l3 : Int32) (μ_205 : Sto) (s0_205 : Int32) : Option (Int32 × Sto) :=
  some (s0_205, μ_205)
def f12_indent_j172 (l1 : Int32) (l2 : Int32) (l3 : Int32) (μ_172 : Sto) (l4_172 : Int32) : Option ((Sto × Int32) ⊕ Sto) :=
  stp (l4_172 + (1 : Int32)) fun x4_1 =>
  some (.inl (μ_172, x4_1))
def f12_indent_j131 (l1 : Int32) (l2 : Int32) (l3 : Int32) (μ_131 : Sto) (l4_131 : Int32) (l5_131 : Int32) (l6_131 : Int32) : Option ((Sto × Int32) ⊕ Sto) :=
  if 0 ≤ l3 then
    bnd (f12_endOf μ_131 l4_131) fun p_2 =>
    if p_2 ≤ l5_131 then
      f12_indent_j172 l1 l2 l3 μ_131 l4_131
    else
      bnd (f12_adds μ_131 l5_131 l5_131 (0 : Int32) (fI μ_131 2017 28)) fun p_4 =>
      f12_indent_j172 l1 l2 l3 p_4 l4_131
  else
    bnd (f12_adds μ_131 l5_131 l6_131 (0 : Int32) (0 : Int32)) fun p_5 =>
    f12_indent_j172 l1 l2 l3 p_5 l4_131
def f12_indent_b94 (l1 : Int32) (l2 : Int32) (l3 : Int32) (μ_94 : Sto) (l4_94 : Int32) (l5_94 : Int32) (l6_94 : Int32) : Option (Int32 ⊕ Int32) :=
  if (l5_94 - l3) ≤ l6_94 then
    some (.inr l6_94)
  else
    if (fI μ_94 2017 5) ≤ l6_94 then
      some (.inr l6_94)
    else
      gd (inb l6_94 3000) <|
      bnd (f12_isSpace (aI μ_94 2018 (Int32.toNatClampNeg l6_94))) fun p_9 =>
      if p_9 = 0 then
        some (.inr l6_94)
      else
        stp (l6_94 + (1 : Int32)) fun x6_2 =>
        some (.inl x6_2)
def f12_indent_j94 (l1 : Int32) (l2 : Int32) (l3 : Int32) (μ_94 : Sto) (l4_94 : Int32) (l5_94 : Int32) (l6_94 : Int32) : Option ((Sto × Int32) ⊕ Sto) :=
  bnd (loopF (fun s_94 => f12_indent_b94 l1 l2 l3 μ_94 l4_94 l5_94 s_94) FU l6_94) fun r_94 =>
    f12_indent_j131 l1 l2 l3 μ_94 l4_94 l5_94 r_94
def f12_indent_b76 (l1 : Int32) (l2 : Int32) (l3 : Int32) (μ_76 : Sto) (l4_76 : Int32) : Option ((Sto × Int32) ⊕ Sto) :=
  if l2 < l4_76 then
    some (.inr μ_76)
  else
    bnd (f12_beginOf μ_76 l4_76) fun p_16 =>
    stp p_16 fun x5_4 =>
    stp x5_4 fun x6_5 =>
    f12_indent_j94 l1 l2 l3 μ_76 l4_76 x5_4 x6_5
def f12_indent_j76 (l1 : Int32) (l2 : Int32) (l3 : Int32) (μ_76 : Sto) (l4_76 : Int32) : Option (Int32 × Sto) :=
  bnd (loopF (fun s_76 => f12_indent_b76 l1 l2 l3 s_76.1 s_76.2) FU (μ_76, l4_76)) fun r_76 =>
    stp (fI r_76 2017 27) fun x4_6 =>
    bnd (f12_acts r_76) fun p_17 =>
    if p_17.1 = 0 then
      bnd (f12_refuse p_17.2 (3 : Int32)) fun p_19 =>
      f12_indent_j205 l1 l2 l3 p_19.2 p_19.1
    else
      bnd (f12_told p_17.2 x4_6) fun p_20 =>
      f12_indent_j205 l1 l2 l3 p_20.2 p_20.1
def f12_indent_b55 (l1 : Int32) (l2 : Int32) (l3 : Int32) (μ_55 : Sto) (l4_55 : Int32) : Option ((Sto × Int32) ⊕ Sto) :=
  if l3 ≤ l4_55 then
    some (.inr μ_55)
  else
    bnd (f12_puts μ_55 (32 : Int32)) fun p_22 =>
    stp (l4_55 + (1 : Int32)) fun x4_8 =>
    some (.inl (p_22, x4_8))
def f12_indent_j55 (l1 : Int32) (l2 : Int32) (l3 : Int32) (μ_55 : Sto) (l4_55 : Int32) : Option (Int32 × Sto) :=
  bnd (loopF (fun s_55 => f12_indent_b55 l1 l2 l3 s_55.1 s_55.2) FU (μ_55, l4_55)) fun r_55 =>
    stp l1 fun x4_9 =>
    f12_indent_j76 l1 l2 l3 r_55 x4_9
def f12_indent_j42 (l1 : Int32) (l2 : Int32) (l3 : Int32) (μ_42 : Sto) : Option (Int32 × Sto) :=
  bnd (f12_refuse μ_42 (2 : Int32)) fun p_23 =>
  some (p_23.1, p_23.2)
def f12_indent_j16 (l1 : Int32) (l2 : Int32) (l3 : Int32) (μ_16 : Sto) : Option (Int32 × Sto) :=
  bnd (f12_refuse μ_16 (1 : Int32)) fun p_24 =>
  some (p_24.1, p_24.2)
def f12_indent (μ : Sto) (l1 : Int32) (l2 : Int32) (l3 : Int32) : Option (Int32 × Sto) :=
  bnd (f12_isLine μ l1) fun p_25 =>
  if p_25 = 0 then
    f12_indent_j16 l1 l2 l3 μ
  else
    bnd (f12_isLine μ l2) fun p_27 =>
    if p_27 = 0 then
      f12_indent_j16 l1 l2 l3 μ
    else
      if l2 < l1 then
        f12_indent_j42 l1 l2 l3 μ
      else
        if l3 = 0 then
          f12_indent_j42 l1 l2 l3 μ
        else
          bnd (f12_in l3 (-8 : Int32) (8 : Int32)) fun p_31 =>
          if p_31 = 0 then
            f12_indent_j42 l1 l2 l3 μ
          else
            bnd (f12_begins μ) fun p_33 =>
            stp (0 : Int32) fun x4_10 =>
            f12_indent_j55 l1 l2 l3 p_33 x4_10
set_option maxHeartbeats 4000000 in
set_option maxRecDepth 100000 in
theorem k12_indent {l : Launch} {K : JK} (hl : l.stackTraces = false) {σ μ : Sto} {o : Int64} {l1 : Int32} {l2 : Int32} {l3 : Int32}  {Qf : Int32 × Sto → Prop} (h : Ok (f12_indent μ l1 l2 l3) Qf) : Con l K yX12_indent (.code yX12_indent cX12_indent 7 (some .int) :: TB) 3 0 0 False [.ref (K.2.2 + 2017), .int l1, .int l2, .int l3] 2055 (jw K σ μ o) (PR Qf (fun p => some (.int p.1)) (fun p => jw K σ p.2 o)) PN := by
  refine Con.enter (own := RX12) hl (by decide) rfl (Nat.le_of_ble_eq_true rfl) ?_
  intro X hX hR C hret hnt
  generalize hQQ : jQ X K 0 0 (PR Qf (fun p => some (.int p.1)) (fun p => jw K σ p.2 o)) PN False = QQ
  change J X K 7 False QQ 0 0 2055 (jw K σ μ o) 0 [(0, .ref (K.2.2 + 2017)), (1, .int l1), (2, .int l2), (3, .int l3)] []
  have hj_205 : (∀ (μ_205 : Sto) (s0_205 : Int32), Ok (f12_indent_j205 l1 l2 l3 μ_205 s0_205) Qf → J X K 7 False QQ 0 0 2055 (jw K σ μ_205 o) 205 [] [.int s0_205]) := by
    intro μ_205 s0_205 h
    unfold f12_indent_j205 at h
    rw [← hQQ]
    exact J_iret C hret (Nat.le_of_ble_eq_true rfl) (Nat.le_of_ble_eq_true rfl) ⟨_, h.osome, rfl, rfl, rfl⟩ dX12_indent_205
  have hj_76 : (∀ (μ_76 : Sto) (l4_76 : Int32), Ok (f12_indent_j76 l1 l2 l3 μ_76 l4_76) Qf → J X K 7 False QQ 0 0 2055 (jw K σ μ_76 o) 76 [(0, .ref (K.2.2 + 2017)), (2, .int l2), (3, .int l3), (4, .int l4_76)] []) := by
    intro μ_76 l4_76 h
    unfold f12_indent_j76 at h
    refine loop_gen (S := Sto × Int32) (P := fun s_76 => J X K 7 False QQ 0 0 2055 (jw K σ s_76.1 o) 76 [(0, .ref (K.2.2 + 2017)), (2, .int l2), (3, .int l3), (4, .int s_76.2)] []) ?_ FU (μ_76, l4_76) (Ok.ofbnd h)
    intro B_76 hB_76 hE_76 s_76 h
    obtain ⟨μ_76, l4_76⟩ := s_76
    have h : Ok (f12_indent_b76 l1 l2 l3 μ_76 l4_76) B_76 := h
    change J X K 7 False QQ 0 0 2055 (jw K σ μ_76 o) 76 [(0, .ref (K.2.2 + 2017)), (2, .int l2), (3, .int l3), (4, .int l4_76)] []
    have hj_172 : (∀ (μ_172 : Sto) (l4_172 : Int32), Ok (f12_indent_j172 l1 l2 l3 μ_172 l4_172) B_76 → J X K 7 False QQ 0 0 2055 (jw K σ μ_172 o) 172 [(0, .ref (K.2.2 + 2017)), (2, .int l2), (3, .int l3), (4, .int l4_172)] []) := by
      intro μ_172 l4_172 h
      unfold f12_indent_j172 at h
      obtain ⟨x4_1, e_x4_1, h⟩ := Ok.nm h
      refine J_iincE (i := 4) (p := 3) (lv' := [(4, .int x4_1), (0, .ref (K.2.2 + 2017)), (2, .int l2), (3, .int l3)]) C e_x4_1 dX12_indent_172 rfl (by decide) (Nat.le_of_ble_eq_true rfl) rfl rfl ?_
      refine J_goto (t := 76) C dX12_indent_175 (by decide) ?_
      refine J.sub [1, 2, 3, 0] rfl ?_
      exact hB_76 (μ_172, x4_1) h.osome
    have hj_131 : (∀ (μ_131 : Sto) (l4_131 : Int32) (l5_131 : Int32) (l6_131 : Int32), Ok (f12_indent_j131 l1 l2 l3 μ_131 l4_131 l5_131 l6_131) B_76 → J X K 7 False QQ 0 0 2055 (jw K σ μ_131 o) 131 [(0, .ref (K.2.2 + 2017)), (2, .int l2), (3, .int l3), (4, .int l4_131), (5, .int l5_131), (6, .int l6_131)] []) := by
      intro μ_131 l4_131 l5_131 l6_131 h
      unfold f12_indent_j131 at h
      refine J_iload_n (i := 3) (p := 2) C dX12_indent_131 rfl rfl rfl ?_
      refine J_if_ge (t := 148) C dX12_indent_132 (by decide) rfl (fun c_1 => ?_) (fun c_1 => ?_)
      · have h := h.pos c_1
        refine J_aload_n (i := 0) (p := 0) C dX12_indent_148 rfl rfl rfl ?_
        refine J_iload (i := 4) (p := 3) C dX12_indent_149 rfl rfl ?_
        refine Jm_cV (rest := []) (st9 := fun p_2 => [.int p_2]) C hR hX cv_RX12_228 rfl (Nat.le_of_ble_eq_true rfl) (k12_endOf hl  (Ok.ofbnd h)) rfl rfl (Nat.le_of_ble_eq_true rfl) (Nat.le_of_ble_eq_true rfl) (Nat.le_of_ble_eq_true rfl) ⟨(Nat.le_of_ble_eq_true rfl), (Nat.le_of_ble_eq_true rfl)⟩ dX12_indent_151 rfl (fun E n9 w9 hx => JT_n hx) (fun _ => rfl) (fun p_2 h => ?_)
        have h : Ok _ _ := h
        change J X K 7 False QQ 0 0 2055 (jw K σ μ_131 o) 154 [(0, .ref (K.2.2 + 2017)), (2, .int l2), (3, .int l3), (4, .int l4_131), (5, .int l5_131), (6, .int l6_131)] [.int p_2]
        refine J_iload (i := 5) (p := 4) C dX12_indent_154 rfl rfl ?_
        refine J_icmp_le (t := 172) C dX12_indent_156 (by decide) rfl (fun c_3 => ?_) (fun c_3 => ?_)
        · have h := h.pos c_3
          refine J.sub [0, 1, 2, 3] rfl ?_
          exact hj_172 μ_131 l4_131 h
        · have h := h.neg c_3
          refine J_aload_n (i := 0) (p := 0) C dX12_indent_159 rfl rfl rfl ?_
          refine J_iload (i := 5) (p := 4) C dX12_indent_160 rfl rfl ?_
          refine J_iload (i := 5) (p := 4) C dX12_indent_162 rfl rfl ?_
          refine J_iconst (v := 0) C (by decide) dX12_indent_164 rfl ?_
          refine J_aload_n (i := 0) (p := 0) C dX12_indent_165 rfl rfl rfl ?_
          refine Jm_getI C fp_RX12_158 rfl rfl dX12_indent_166 rfl ?_
          refine Jm_cV (rest := []) (st9 := fun p_4 => []) C hR hX cv_RX12_240 rfl (Nat.le_of_ble_eq_true rfl) (k12_adds hl  (Ok.ofbnd h)) rfl rfl (Nat.le_of_ble_eq_true rfl) (Nat.le_of_ble_eq_true rfl) (Nat.le_of_ble_eq_true rfl) ⟨(Nat.le_of_ble_eq_true rfl), (Nat.le_of_ble_eq_true rfl)⟩ dX12_indent_169 rfl (fun E n9 w9 hx => JT_n hx) (fun _ => rfl) (fun p_4 h => ?_)
          have h : Ok _ _ := h
          change J X K 7 False QQ 0 0 2055 (jw K σ p_4 o) 172 [(0, .ref (K.2.2 + 2017)), (2, .int l2), (3, .int l3), (4, .int l4_131), (5, .int l5_131), (6, .int l6_131)] []
          refine J.sub [0, 1, 2, 3] rfl ?_
          exact hj_172 p_4 l4_131 h
      · have h := h.neg c_1
        refine J_aload_n (i := 0) (p := 0) C dX12_indent_135 rfl rfl rfl ?_
        refine J_iload (i := 5) (p := 4) C dX12_indent_136 rfl rfl ?_
        refine J_iload (i := 6) (p := 5) C dX12_indent_138 rfl rfl ?_
        refine J_iconst (v := 0) C (by decide) dX12_indent_140 rfl ?_
        refine J_iconst (v := 0) C (by decide) dX12_indent_141 rfl ?_
        refine Jm_cV (rest := []) (st9 := fun p_5 => []) C hR hX cv_RX12_240 rfl (Nat.le_of_ble_eq_true rfl) (k12_adds hl  (Ok.ofbnd h)) rfl rfl (Nat.le_of_ble_eq_true rfl) (Nat.le_of_ble_eq_true rfl) (Nat.le_of_ble_eq_true rfl) ⟨(Nat.le_of_ble_eq_true rfl), (Nat.le_of_ble_eq_true rfl)⟩ dX12_indent_142 rfl (fun E n9 w9 hx => JT_n hx) (fun _ => rfl) (fun p_5 h => ?_)
        have h : Ok _ _ := h
        change J X K 7 False QQ 0 0 2055 (jw K σ p_5 o) 145 [(0, .ref (K.2.2 + 2017)), (2, .int l2), (3, .int l3), (4, .int l4_131), (5, .int l5_131), (6, .int l6_131)] []
        refine J_goto (t := 172) C dX12_indent_145 (by decide) ?_
        refine J.sub [0, 1, 2, 3] rfl ?_
        exact hj_172 p_5 l4_131 h
    have hj_94 : (∀ (μ_94 : Sto) (l4_94 : Int32) (l5_94 : Int32) (l6_94 : Int32), Ok (f12_indent_j94 l1 l2 l3 μ_94 l4_94 l5_94 l6_94) B_76 → J X K 7 False QQ 0 0 2055 (jw K σ μ_94 o) 94 [(0, .ref (K.2.2 + 2017)), (2, .int l2), (3, .int l3), (4, .int l4_94), (5, .int l5_94), (6, .int l6_94)] []) := by
      intro μ_94 l4_94 l5_94 l6_94 h
      unfold f12_indent_j94 at h
      refine loop_gen (S := Int32) (P := fun s_94 => J X K 7 False QQ 0 0 2055 (jw K σ μ_94 o) 94 [(0, .ref (K.2.2 + 2017)), (2, .int l2), (3, .int l3), (4, .int l4_94), (5, .int l5_94), (6, .int s_94)] []) ?_ FU l6_94 (Ok.ofbnd h)
      intro B_94 hB_94 hE_94 s_94 h
      generalize s_94 = l6_94 at h ⊢
      have h : Ok (f12_indent_b94 l1 l2 l3 μ_94 l4_94 l5_94 l6_94) B_94 := h
      change J X K 7 False QQ 0 0 2055 (jw K σ μ_94 o) 94 [(0, .ref (K.2.2 + 2017)), (2, .int l2), (3, .int l3), (4, .int l4_94), (5, .int l5_94), (6, .int l6_94)] []
      unfold f12_indent_b94 at h
      refine J_iload (i := 6) (p := 5) C dX12_indent_94 rfl rfl ?_
      refine J_iload (i := 5) (p := 4) C dX12_indent_96 rfl rfl ?_
      refine J_iload_n (i := 3) (p := 2) C dX12_indent_98 rfl rfl rfl ?_
      refine J_isub C dX12_indent_99 rfl ?_
      refine J_icmp_ge (t := 131) C dX12_indent_100 (by decide) rfl (fun c_6 => ?_) (fun c_6 => ?_)
      · have h := h.pos c_6
        have h := hE_94 l6_94 h.osome
        try dsimp only at h
        exact hj_131 μ_94 l4_94 l5_94 l6_94 h
      · have h := h.neg c_6
        refine J_iload (i := 6) (p := 5) C dX12_indent_103 rfl rfl ?_
        refine J_aload_n (i := 0) (p := 0) C dX12_indent_105 rfl rfl rfl ?_
        refine Jm_getI C fp_RX12_138 rfl rfl dX12_indent_106 rfl ?_
        refine J_icmp_ge (t := 131) C dX12_indent_109 (by decide) rfl (fun c_7 => ?_) (fun c_7 => ?_)
        · have h := h.pos c_7
          have h := hE_94 l6_94 h.osome
          try dsimp only at h
          exact hj_131 μ_94 l4_94 l5_94 l6_94 h
        · have h := h.neg c_7
          refine J_aload_n (i := 0) (p := 0) C dX12_indent_112 rfl rfl rfl ?_
          refine Jm_getS (o2 := 1) (r2 := 2018) C fp_RX12_7 rfl rfl rfl dX12_indent_113 rfl ?_
          refine J_iload (i := 6) (p := 5) C dX12_indent_116 rfl rfl ?_
          obtain ⟨g_8, h⟩ := Ok.ofgd h
          refine Jm_iald C rfl rfl g_8 dX12_indent_118 rfl ?_
          refine J_cS (rest := []) (st9 := fun p_9 => [.int p_9]) C hR hX cs_RX12_276 (k12_isSpace hl  (Ok.ofbnd h)) rfl rfl (Nat.le_of_ble_eq_true rfl) (Nat.le_of_ble_eq_true rfl) (Nat.le_of_ble_eq_true rfl) ⟨(Nat.le_of_ble_eq_true rfl), (Nat.le_of_ble_eq_true rfl)⟩ dX12_indent_119 rfl (fun E n9 w9 hx => JT_n hx) (fun _ => rfl) (fun p_9 h => ?_)
          have h : Ok _ _ := h
          change J X K 7 False QQ 0 0 2055 (jw K σ μ_94 o) 122 [(0, .ref (K.2.2 + 2017)), (2, .int l2), (3, .int l3), (4, .int l4_94), (5, .int l5_94), (6, .int l6_94)] [.int p_9]
          refine J_if_eq (t := 131) C dX12_indent_122 (by decide) rfl (fun c_10 => ?_) (fun c_10 => ?_)
          · have h := h.pos c_10
            have h := hE_94 l6_94 h.osome
            try dsimp only at h
            exact hj_131 μ_94 l4_94 l5_94 l6_94 h
          · have h := h.neg c_10
            obtain ⟨x6_2, e_x6_2, h⟩ := Ok.nm h
            refine J_iincE (i := 6) (p := 5) (lv' := [(6, .int x6_2), (0, .ref (K.2.2 + 2017)), (2, .int l2), (3, .int l3), (4, .int l4_94), (5, .int l5_94)]) C e_x6_2 dX12_indent_125 rfl (by decide) (Nat.le_of_ble_eq_true rfl) rfl rfl ?_
            refine J_goto (t := 94) C dX12_indent_128 (by decide) ?_
            refine J.sub [1, 2, 3, 4, 5, 0] rfl ?_
            exact hB_94 x6_2 h.osome
    unfold f12_indent_b76 at h
    refine J_iload (i := 4) (p := 3) C dX12_indent_76 rfl rfl ?_
    refine J_iload_n (i := 2) (p := 1) C dX12_indent_78 rfl rfl rfl ?_
    refine J_icmp_gt (t := 178) C dX12_indent_79 (by decide) rfl (fun c_11 => ?_) (fun c_11 => ?_)
    · have h := h.pos c_11
      have h := hE_76 μ_76 h.osome
      try dsimp only at h
      refine J_aload_n (i := 0) (p := 0) C dX12_indent_178 rfl rfl rfl ?_
      refine Jm_getI C fp_RX12_155 rfl rfl dX12_indent_179 rfl ?_
      obtain ⟨x4_3, e_x4_3, h⟩ := Ok.nm h
      refine J_istoreE (i := 4) (lv' := [(4, .int x4_3), (0, .ref (K.2.2 + 2017)), (2, .int l2), (3, .int l3)]) C e_x4_3 dX12_indent_182 (Nat.le_of_ble_eq_true rfl) rfl rfl ?_
      refine J_aload_n (i := 0) (p := 1) C dX12_indent_184 rfl rfl rfl ?_
      refine Jm_cV (rest := []) (st9 := fun p_12 => [.int p_12.1]) C hR hX cv_RX12_244 rfl (Nat.le_of_ble_eq_true rfl) (k12_acts hl  (Ok.ofbnd h)) rfl rfl (Nat.le_of_ble_eq_true rfl) (Nat.le_of_ble_eq_true rfl) (Nat.le_of_ble_eq_true rfl) ⟨(Nat.le_of_ble_eq_true rfl), (Nat.le_of_ble_eq_true rfl)⟩ dX12_indent_185 rfl (fun E n9 w9 hx => JT_n hx) (fun _ => rfl) (fun p_12 h => ?_)
      have h : Ok _ _ := h
      change J X K 7 False QQ 0 0 2055 (jw K σ p_12.2 o) 188 [(4, .int x4_3), (0, .ref (K.2.2 + 2017)), (2, .int l2), (3, .int l3)] [.int p_12.1]
      refine J_if_eq (t := 200) C dX12_indent_188 (by decide) rfl (fun c_13 => ?_) (fun c_13 => ?_)
      · have h := h.pos c_13
        refine J_aload_n (i := 0) (p := 1) C dX12_indent_200 rfl rfl rfl ?_
        refine J_iconst (v := 3) C (by decide) dX12_indent_201 rfl ?_
        refine Jm_cV (rest := []) (st9 := fun p_14 => [.int p_14.1]) C hR hX cv_RX12_206 rfl (Nat.le_of_ble_eq_true rfl) (k12_refuse hl  (Ok.ofbnd h)) rfl rfl (Nat.le_of_ble_eq_true rfl) (Nat.le_of_ble_eq_true rfl) (Nat.le_of_ble_eq_true rfl) ⟨(Nat.le_of_ble_eq_true rfl), (Nat.le_of_ble_eq_true rfl)⟩ dX12_indent_202 rfl (fun E n9 w9 hx => JT_n hx) (fun _ => rfl) (fun p_14 h => ?_)
        have h : Ok _ _ := h
        change J X K 7 False QQ 0 0 2055 (jw K σ p_14.2 o) 205 [(4, .int x4_3), (0, .ref (K.2.2 + 2017)), (2, .int l2), (3, .int l3)] [.int p_14.1]
        refine J.sub [] rfl ?_
        exact hj_205 p_14.2 p_14.1 h
      · have h := h.neg c_13
        refine J_aload_n (i := 0) (p := 1) C dX12_indent_191 rfl rfl rfl ?_
        refine J_iload (i := 4) (p := 0) C dX12_indent_192 rfl rfl ?_
        refine Jm_cV (rest := []) (st9 := fun p_15 => [.int p_15.1]) C hR hX cv_RX12_209 rfl (Nat.le_of_ble_eq_true rfl) (k12_told hl  (Ok.ofbnd h)) rfl rfl (Nat.le_of_ble_eq_true rfl) (Nat.le_of_ble_eq_true rfl) (Nat.le_of_ble_eq_true rfl) ⟨(Nat.le_of_ble_eq_true rfl), (Nat.le_of_ble_eq_true rfl)⟩ dX12_indent_194 rfl (fun E n9 w9 hx => JT_n hx) (fun _ => rfl) (fun p_15 h => ?_)
        have h : Ok _ _ := h
        change J X K 7 False QQ 0 0 2055 (jw K σ p_15.2 o) 197 [(4, .int x4_3), (0, .ref (K.2.2 + 2017)), (2, .int l2), (3, .int l3)] [.int p_15.1]
        refine J_goto (t := 205) C dX12_indent_197 (by decide) ?_
        refine J.sub [] rfl ?_
        exact hj_205 p_15.2 p_15.1 h
    · have h := h.neg c_11
      refine J_aload_n (i := 0) (p := 0) C dX12_indent_82 rfl rfl rfl ?_
      refine J_iload (i := 4) (p := 3) C dX12_indent_83 rfl rfl ?_
      refine Jm_cV (rest := []) (st9 := fun p_16 => [.int p_16]) C hR hX cv_RX12_145 rfl (Nat.le_of_ble_eq_true rfl) (k12_beginOf hl  (Ok.ofbnd h)) rfl rfl (Nat.le_of_ble_eq_true rfl) (Nat.le_of_ble_eq_true rfl) (Nat.le_of_ble_eq_true rfl) ⟨(Nat.le_of_ble_eq_true rfl), (Nat.le_of_ble_eq_true rfl)⟩ dX12_indent_85 rfl (fun E n9 w9 hx => JT_n hx) (fun _ => rfl) (fun p_16 h => ?_)
      have h : Ok _ _ := h
      change J X K 7 False QQ 0 0 2055 (jw K σ μ_76 o) 88 [(0, .ref (K.2.2 + 2017)), (2, .int l2), (3, .int l3), (4, .int l4_76)] [.int p_16]
      obtain ⟨x5_4, e_x5_4, h⟩ := Ok.nm h
      refine J_istoreE (i := 5) (lv' := [(5, .int x5_4), (0, .ref (K.2.2 + 2017)), (2, .int l2), (3, .int l3), (4, .int l4_76)]) C e_x5_4 dX12_indent_88 (Nat.le_of_ble_eq_true rfl) rfl rfl ?_
      refine J_iload (i := 5) (p := 0) C dX12_indent_90 rfl rfl ?_
      obtain ⟨x6_5, e_x6_5, h⟩ := Ok.nm h
      refine J_istoreE (i := 6) (lv' := [(6, .int x6_5), (5, .int x5_4), (0, .ref (K.2.2 + 2017)), (2, .int l2), (3, .int l3), (4, .int l4_76)]) C e_x6_5 dX12_indent_92 (Nat.le_of_ble_eq_true rfl) rfl rfl ?_
      refine J.sub [2, 3, 4, 5, 1, 0] rfl ?_
      exact hj_94 μ_76 l4_76 x5_4 x6_5 h
  have hj_55 : (∀ (μ_55 : Sto) (l4_55 : Int32), Ok (f12_indent_j55 l1 l2 l3 μ_55 l4_55) Qf → J X K 7 False QQ 0 0 2055 (jw K σ μ_55 o) 55 [(0, .ref (K.2.2 + 2017)), (1, .int l1), (2, .int l2), (3, .int l3), (4, .int l4_55)] []) := by
    intro μ_55 l4_55 h
    unfold f12_indent_j55 at h
    refine loop_gen (S := Sto × Int32) (P := fun s_55 => J X K 7 False QQ 0 0 2055 (jw K σ s_55.1 o) 55 [(0, .ref (K.2.2 + 2017)), (1, .int l1), (2, .int l2), (3, .int l3), (4, .int s_55.2)] []) ?_ FU (μ_55, l4_55) (Ok.ofbnd h)
    intro B_55 hB_55 hE_55 s_55 h
    obtain ⟨μ_55, l4_55⟩ := s_55
    have h : Ok (f12_indent_b55 l1 l2 l3 μ_55 l4_55) B_55 := h
    change J X K 7 False QQ 0 0 2055 (jw K σ μ_55 o) 55 [(0, .ref (K.2.2 + 2017)), (1, .int l1), (2, .int l2), (3, .int l3), (4, .int l4_55)] []
    unfold f12_indent_b55 at h
    refine J_iload (i := 4) (p := 4) C dX12_indent_55 rfl rfl ?_
    refine J_iload_n (i := 3) (p := 3) C dX12_indent_57 rfl rfl rfl ?_
    refine J_icmp_ge (t := 73) C dX12_indent_58 (by decide) rfl (fun c_21 => ?_) (fun c_21 => ?_)
    · have h := h.pos c_21
      have h := hE_55 μ_55 h.osome
      try dsimp only at h
      refine J_iload_n (i := 1) (p := 1) C dX12_indent_73 rfl rfl rfl ?_
      obtain ⟨x4_7, e_x4_7, h⟩ := Ok.nm h
      refine J_istoreE (i := 4) (lv' := [(4, .int x4_7), (0, .ref (K.2.2 + 2017)), (1, .int l1), (2, .int l2), (3, .int l3)]) C e_x4_7 dX12_indent_74 (Nat.le_of_ble_eq_true rfl) rfl rfl ?_
      refine J.sub [1, 3, 4, 0] rfl ?_
      exact hj_76 μ_55 x4_7 h
    · have h := h.neg c_21
      refine J_aload_n (i := 0) (p := 0) C dX12_indent_61 rfl rfl rfl ?_
      refine J_bipush (v := 32) C (by decide) dX12_indent_62 rfl ?_
      refine Jm_cV (rest := []) (st9 := fun p_22 => []) C hR hX cv_RX12_164 rfl (Nat.le_of_ble_eq_true rfl) (k12_puts hl  (Ok.ofbnd h)) rfl rfl (Nat.le_of_ble_eq_true rfl) (Nat.le_of_ble_eq_true rfl) (Nat.le_of_ble_eq_true rfl) ⟨(Nat.le_of_ble_eq_true rfl), (Nat.le_of_ble_eq_true rfl)⟩ dX12_indent_64 rfl (fun E n9 w9 hx => JT_n hx) (fun _ => rfl) (fun p_22 h => ?_)
      have h : Ok _ _ := h
      change J X K 7 False QQ 0 0 2055 (jw K σ p_22 o) 67 [(0, .ref (K.2.2 + 2017)), (1, .int l1), (2, .int l2), (3, .int l3), (4, .int l4_55)] []
      obtain ⟨x4_8, e_x4_8, h⟩ := Ok.nm h
      refine J_iincE (i := 4) (p := 4) (lv' := [(4, .int x4_8), (0, .ref (K.2.2 + 2017)), (1, .int l1), (2, .int l2), (3, .int l3)]) C e_x4_8 dX12_indent_67 rfl (by decide) (Nat.le_of_ble_eq_true rfl) rfl rfl ?_
      refine J_goto (t := 55) C dX12_indent_70 (by decide) ?_
      refine J.sub [1, 2, 3, 4, 0] rfl ?_
      exact hB_55 (p_22, x4_8) h.osome
  have hj_42 : (∀ (μ_42 : Sto), Ok (f12_indent_j42 l1 l2 l3 μ_42) Qf → J X K 7 False QQ 0 0 2055 (jw K σ μ_42 o) 42 [(0, .ref (K.2.2 + 2017))] []) := by
    intro μ_42 h
    unfold f12_indent_j42 at h
    refine J_aload_n (i := 0) (p := 0) C dX12_indent_42 rfl rfl rfl ?_
    refine J_iconst (v := 2) C (by decide) dX12_indent_43 rfl ?_
    refine Jm_cV (rest := []) (st9 := fun p_23 => [.int p_23.1]) C hR hX cv_RX12_206 rfl (Nat.le_of_ble_eq_true rfl) (k12_refuse hl  (Ok.ofbnd h)) rfl rfl (Nat.le_of_ble_eq_true rfl) (Nat.le_of_ble_eq_true rfl) (Nat.le_of_ble_eq_true rfl) ⟨(Nat.le_of_ble_eq_true rfl), (Nat.le_of_ble_eq_true rfl)⟩ dX12_indent_44 rfl (fun E n9 w9 hx => JT_n hx) (fun _ => rfl) (fun p_23 h => ?_)
    have h : Ok _ _ := h
    change J X K 7 False QQ 0 0 2055 (jw K σ p_23.2 o) 47 [(0, .ref (K.2.2 + 2017))] [.int p_23.1]
    rw [← hQQ]
    exact J_iret C hret (Nat.le_of_ble_eq_true rfl) (Nat.le_of_ble_eq_true rfl) ⟨_, h.osome, rfl, rfl, rfl⟩ dX12_indent_47
  have hj_16 : (∀ (μ_16 : Sto), Ok (f12_indent_j16 l1 l2 l3 μ_16) Qf → J X K 7 False QQ 0 0 2055 (jw K σ μ_16 o) 16 [(0, .ref (K.2.2 + 2017))] []) := by
    intro μ_16 h
    unfold f12_indent_j16 at h
    refine J_aload_n (i := 0) (p := 0) C dX12_indent_16 rfl rfl rfl ?_
    refine J_iconst (v := 1) C (by decide) dX12_indent_17 rfl ?_
    refine Jm_cV (rest := []) (st9 := fun p_24 => [.int p_24.1]) C hR hX cv_RX12_206 rfl (Nat.le_of_ble_eq_true rfl) (k12_refuse hl  (Ok.ofbnd h)) rfl rfl (Nat.le_of_ble_eq_true rfl) (Nat.le_of_ble_eq_true rfl) (Nat.le_of_ble_eq_true rfl) ⟨(Nat.le_of_ble_eq_true rfl), (Nat.le_of_ble_eq_true rfl)⟩ dX12_indent_18 rfl (fun E n9 w9 hx => JT_n hx) (fun _ => rfl) (fun p_24 h => ?_)
    have h : Ok _ _ := h
    change J X K 7 False QQ 0 0 2055 (jw K σ p_24.2 o) 21 [(0, .ref (K.2.2 + 2017))] [.int p_24.1]
    rw [← hQQ]
    exact J_iret C hret (Nat.le_of_ble_eq_true rfl) (Nat.le_of_ble_eq_true rfl) ⟨_, h.osome, rfl, rfl, rfl⟩ dX12_indent_21
  unfold f12_indent at h
  refine J_aload_n (i := 0) (p := 0) C dX12_indent_0 rfl rfl rfl ?_
  refine J_iload_n (i := 1) (p := 1) C dX12_indent_1 rfl rfl rfl ?_
  refine Jm_cV (rest := []) (st9 := fun p_25 => [.int p_25]) C hR hX cv_RX12_225 rfl (Nat.le_of_ble_eq_true rfl) (k12_isLine hl  (Ok.ofbnd h)) rfl rfl (Nat.le_of_ble_eq_true rfl) (Nat.le_of_ble_eq_true rfl) (Nat.le_of_ble_eq_true rfl) ⟨(Nat.le_of_ble_eq_true rfl), (Nat.le_of_ble_eq_true rfl)⟩ dX12_indent_2 rfl (fun E n9 w9 hx => JT_n hx) (fun _ => rfl) (fun p_25 h => ?_)
  have h : Ok _ _ := h
  change J X K 7 False QQ 0 0 2055 (jw K σ μ o) 5 [(0, .ref (K.2.2 + 2017)), (1, .int l1), (2, .int l2), (3, .int l3)] [.int p_25]
  refine J_if_eq (t := 16) C dX12_indent_5 (by decide) rfl (fun c_26 => ?_) (fun c_26 => ?_)
  · have h := h.pos c_26
    refine J.sub [0] rfl ?_
    exact hj_16 μ h
  · have h := h.neg c_26
    refine J_aload_n (i := 0) (p := 0) C dX12_indent_8 rfl rfl rfl ?_
    refine J_iload_n (i := 2) (p := 2) C dX12_indent_9 rfl rfl rfl ?_
    refine Jm_cV (rest := []) (st9 := fun p_27 => [.int p_27]) C hR hX cv_RX12_225 rfl (Nat.le_of_ble_eq_true rfl) (k12_isLine hl  (Ok.ofbnd h)) rfl rfl (Nat.le_of_ble_eq_true rfl) (Nat.le_of_ble_eq_true rfl) (Nat.le_of_ble_eq_true rfl) ⟨(Nat.le_of_ble_eq_true rfl), (Nat.le_of_ble_eq_true rfl)⟩ dX12_indent_10 rfl (fun E n9 w9 hx => JT_n hx) (fun _ => rfl) (fun p_27 h => ?_)
    have h : Ok _ _ := h
    change J X K 7 False QQ 0 0 2055 (jw K σ μ o) 13 [(0, .ref (K.2.2 + 2017)), (1, .int l1), (2, .int l2), (3, .int l3)] [.int p_27]
    refine J_if_ne (t := 22) C dX12_indent_13 (by decide) rfl (fun c_28 => ?_) (fun c_28 => ?_)
    · have h := h.neg c_28
      refine J_iload_n (i := 1) (p := 1) C dX12_indent_22 rfl rfl rfl ?_
      refine J_iload_n (i := 2) (p := 2) C dX12_indent_23 rfl rfl rfl ?_
      refine J_icmp_gt (t := 42) C dX12_indent_24 (by decide) rfl (fun c_29 => ?_) (fun c_29 => ?_)
      · have h := h.pos c_29
        refine J.sub [0] rfl ?_
        exact hj_42 μ h
      · have h := h.neg c_29
        refine J_iload_n (i := 3) (p := 3) C dX12_indent_27 rfl rfl rfl ?_
        refine J_if_eq (t := 42) C dX12_indent_28 (by decide) rfl (fun c_30 => ?_) (fun c_30 => ?_)
        · have h := h.pos c_30
          refine J.sub [0] rfl ?_
          exact hj_42 μ h
        · have h := h.neg c_30
          refine J_iload_n (i := 3) (p := 3) C dX12_indent_31 rfl rfl rfl ?_
          refine J_bipush (v := -8) C (by decide) dX12_indent_32 rfl ?_
          refine J_bipush (v := 8) C (by decide) dX12_indent_34 rfl ?_
          refine J_cS (rest := []) (st9 := fun p_31 => [.int p_31]) C hR hX cs_RX12_134 (k12_in hl  (Ok.ofbnd h)) rfl rfl (Nat.le_of_ble_eq_true rfl) (Nat.le_of_ble_eq_true rfl) (Nat.le_of_ble_eq_true rfl) ⟨(Nat.le_of_ble_eq_true rfl), (Nat.le_of_ble_eq_true rfl)⟩ dX12_indent_36 rfl (fun E n9 w9 hx => JT_n hx) (fun _ => rfl) (fun p_31 h => ?_)
          have h : Ok _ _ := h
          change J X K 7 False QQ 0 0 2055 (jw K σ μ o) 39 [(0, .ref (K.2.2 + 2017)), (1, .int l1), (2, .int l2), (3, .int l3)] [.int p_31]
          refine J_if_ne (t := 48) C dX12_indent_39 (by decide) rfl (fun c_32 => ?_) (fun c_32 => ?_)
          · have h := h.neg c_32
            refine J_aload_n (i := 0) (p := 0) C dX12_indent_48 rfl rfl rfl ?_
            refine Jm_cV (rest := []) (st9 := fun p_33 => []) C hR hX cv_RX12_234 rfl (Nat.le_of_ble_eq_true rfl) (k12_begins hl  (Ok.ofbnd h)) rfl rfl (Nat.le_of_ble_eq_true rfl) (Nat.le_of_ble_eq_true rfl) (Nat.le_of_ble_eq_true rfl) ⟨(Nat.le_of_ble_eq_true rfl), (Nat.le_of_ble_eq_true rfl)⟩ dX12_indent_49 rfl (fun E n9 w9 hx => JT_n hx) (fun _ => rfl) (fun p_33 h => ?_)
            have h : Ok _ _ := h
            change J X K 7 False QQ 0 0 2055 (jw K σ p_33 o) 52 [(0, .ref (K.2.2 + 2017)), (1, .int l1), (2, .int l2), (3, .int l3)] []
            refine J_iconst (v := 0) C (by decide) dX12_indent_52 rfl ?_
            obtain ⟨x4_10, e_x4_10, h⟩ := Ok.nm h
            refine J_istoreE (i := 4) (lv' := [(4, .int x4_10), (0, .ref (K.2.2 + 2017)), (1, .int l1), (2, .int l2), (3, .int l3)]) C e_x4_10 dX12_indent_53 (Nat.le_of_ble_eq_true rfl) rfl rfl ?_
            refine J.sub [1, 2, 3, 4, 0] rfl ?_
            exact hj_55 p_33 x4_10 h
          · have h := h.pos (Decidable.not_not.mp c_32)
            refine J.sub [0] rfl ?_
            exact hj_42 μ h
    · have h := h.pos (Decidable.not_not.mp c_28)
      refine J.sub [0] rfl ?_
      exact hj_16 μ h
def f12_wrap_j202 (l1 : Int32) (l2 : Int32) (μ_202 : Sto) (s0_202 : Int32) : Option (Int32 × Sto) :=
  some (s0_202, μ_202)
def f12_wrap_j175 (l1 : Int32) (l2 : Int32) (μ_175 : Sto) : Option (Int32 × Sto) :=
  stp (fI μ_175 2017 27) fun x6_1 =>
  bnd (f12_acts μ_175) fun p_1 =>
  if p_1.1 = 0 then
    bnd (f12_refuse p_1.2 (3 : Int32)) fun p_3 =>
    f12_wrap_j202 l1 l2 p_3.2 p_3.1
  else
    bnd (f12_told p_1.2 x6_1) fun p_4 =>
    f12_wrap_j202 l1 l2 p_4.2 p_4.1
def f12_wrap_j172 (l1 : Int32) (l2 : Int32) (l4_56 : Int32) (μ_172 : Sto) (l3_172 : Int32) (l5_172 : Int32) : Option ((Sto × Int32 × Int32) ⊕ Sto) :=
  some (.inl (μ_172, l3_172, l5_172))
def f12_wrap_j148 (l1 : Int32) (l2 : Int32) (l4_56 : Int32) (μ_148 : Sto) (l3_148 : Int32) (l6_148 : Int32) (s0_148 : Int32) : Option ((Sto × Int32 × Int32) ⊕ Sto) :=
  stp s0_148 fun x5_2 =>
  if x5_2 = 0 then
    f12_wrap_j172 l1 l2 l4_56 μ_148 l3_148 x5_2
  else
    bnd (f12_adds μ_148 l6_148 (l6_148 + (1 : Int32)) (0 : Int32) (1 : Int32)) fun p_6 =>
    stp (l6_148 + (1 : Int32)) fun x3_3 =>
    f12_wrap_j172 l1 l2 l4_56 p_6 x3_3 x5_2
def f12_wrap_j136 (l1 : Int32) (l2 : Int32) (l4_56 : Int32) (μ_136 : Sto) (l3_136 : Int32) (l6_136 : Int32) : Option ((Sto × Int32 × Int32) ⊕ Sto) :=
  if l4_56 ≤ l6_136 then
    f12_wrap_j148 l1 l2 l4_56 μ_136 l3_136 l6_136 (0 : Int32)
  else
    f12_wrap_j148 l1 l2 l4_56 μ_136 l3_136 l6_136 (1 : Int32)
def f12_wrap_b111 (l1 : Int32) (l2 : Int32) (l4_56 : Int32) (μ_111 : Sto) (l3_111 : Int32) (l6_111 : Int32) : Option (Int32 ⊕ Int32) :=
  if l4_56 ≤ l6_111 then
    some (.inr l6_111)
  else
    gd (inb l6_111 3000) <|
    if (aI μ_111 2018 (Int32.toNatClampNeg l6_111)) = (32 : Int32) then
      some (.inr l6_111)
    else
      stp (l6_111 + (1 : Int32)) fun x6_4 =>
      some (.inl x6_4)
def f12_wrap_j111 (l1 : Int32) (l2 : Int32) (l4_56 : Int32) (μ_111 : Sto) (l3_111 : Int32) (l6_111 : Int32) : Option ((Sto × Int32 × Int32) ⊕ Sto) :=
  bnd (loopF (fun s_111 => f12_wrap_b111 l1 l2 l4_56 μ_111 l3_111 s_111) FU l6_111) fun r_111 =>
    f12_wrap_j136 l1 l2 l4_56 μ_111 l3_111 r_111
def f12_wrap_j98 (l1 : Int32) (l2 : Int32) (l4_56 : Int32) (μ_98 : Sto) (l3_98 : Int32) (l6_98 : Int32) : Option ((Sto × Int32 × Int32) ⊕ Sto) :=
  if l6_98 = l3_98 then
    stp ((l3_98 + l2) + (1 : Int32)) fun x6_5 =>
    f12_wrap_j111 l1 l2 l4_56 μ_98 l3_98 x6_5
  else
    f12_wrap_j136 l1 l2 l4_56 μ_98 l3_98 l6_98
def f12_wrap_b74 (l1 : Int32) (l2 : Int32) (l4_56 : Int32) (μ_74 : Sto) (l3_74 : Int32) (l6_74 : Int32) : Option (Int32 ⊕ Int32) :=
  if l6_74 ≤ l3_74 then
    some (.inr l6_74)
  else
    gd (inb l6_74 3000) <|
    if (aI μ_74 2018 (Int32.toNatClampNeg l6_74)) = (32 : Int32) then
      some (.inr l6_74)
    else
      stp (l6_74 + (-1 : Int32)) fun x6_6 =>
      some (.inl x6_6)
def f12_wrap_j74 (l1 : Int32) (l2 : Int32) (l4_56 : Int32) (μ_74 : Sto) (l3_74 : Int32) (l6_74 : Int32) : Option ((Sto × Int32 × Int32) ⊕ Sto) :=
  bnd (loopF (fun s_74 => f12_wrap_b74 l1 l2 l4_56 μ_74 l3_74 s_74) FU l6_74) fun r_74 =>
    f12_wrap_j98 l1 l2 l4_56 μ_74 l3_74 r_74
def f12_wrap_b56 (l1 : Int32) (l2 : Int32) (μ_56 : Sto) (l3_56 : Int32) (l4_56 : Int32) (l5_56 : Int32) : Option ((Sto × Int32 × Int32) ⊕ Sto) :=
  if l5_56 = 0 then
    some (.inr μ_56)
  else
    if (l4_56 - l3_56) ≤ l2 then
      some (.inr μ_56)
    else
      stp (l3_56 + l2) fun x6_7 =>
      f12_wrap_j74 l1 l2 l4_56 μ_56 l3_56 x6_7
def f12_wrap_j56 (l1 : Int32) (l2 : Int32) (μ_56 : Sto) (l3_56 : Int32) (l4_56 : Int32) (l5_56 : Int32) : Option (Int32 × Sto) :=
  bnd (loopF (fun s_56 => f12_wrap_b56 l1 l2 s_56.1 s_56.2.1 l4_56 s_56.2.2) FU (μ_56, l3_56, l5_56)) fun r_56 =>
    f12_wrap_j175 l1 l2 r_56
def f12_wrap (μ : Sto) (l1 : Int32) (l2 : Int32) : Option (Int32 × Sto) :=
  bnd (f12_isLine μ l1) fun p_17 =>
  if p_17 = 0 then
    bnd (f12_refuse μ (1 : Int32)) fun p_26 =>
    some (p_26.1, p_26.2)
  else
    bnd (f12_in l2 (1 : Int32) (100 : Int32)) fun p_19 =>
    if p_19 = 0 then
      bnd (f12_refuse μ (2 : Int32)) fun p_25 =>
      some (p_25.1, p_25.2)
    else
      bnd (f12_begins μ) fun p_21 =>
      bnd (f12_puts p_21 (10 : Int32)) fun p_22 =>
      bnd (f12_beginOf p_22 l1) fun p_23 =>
      stp p_23 fun x3_8 =>
      bnd (f12_endOf p_22 l1) fun p_24 =>
      stp p_24 fun x4_9 =>
      stp (1 : Int32) fun x5_10 =>
      f12_wrap_j56 l1 l2 p_22 x3_8 x4_9 x5_10
set_option maxHeartbeats 4000000 in
set_option maxRecDepth 100000 in
theorem k12_wrap {l : Launch} {K : JK} (hl : l.stackTraces = false) {σ μ : Sto} {o : Int64} {l1 : Int32} {l2 : Int32}  {Qf : Int32 × Sto → Prop} (h : Ok (f12_wrap μ l1 l2) Qf) : Con l K yX12_wrap (.code yX12_wrap cX12_wrap 7 (some .int) :: TB) 3 0 0 False [.ref (K.2.2 + 2017), .int l1, .int l2] 2055 (jw K σ μ o) (PR Qf (fun p => some (.int p.1)) (fun p => jw K σ p.2 o)) PN := by
  refine Con.enter (own := RX12) hl (by decide) rfl (Nat.le_of_ble_eq_true rfl) ?_
  intro X hX hR C hret hnt
  generalize hQQ : jQ X K 0 0 (PR Qf (fun p => some (.int p.1)) (fun p => jw K σ p.2 o)) PN False = QQ
  change J X K 7 False QQ 0 0 2055 (jw K σ μ o) 0 [(0, .ref (K.2.2 + 2017)), (1, .int l1), (2, .int l2)] []
  have hj_202 : (∀ (μ_202 : Sto) (s0_202 : Int32), Ok (f12_wrap_j202 l1 l2 μ_202 s0_202) Qf → J X K 7 False QQ 0 0 2055 (jw K σ μ_202 o) 202 [] [.int s0_202]) := by
    intro μ_202 s0_202 h
    unfold f12_wrap_j202 at h
    rw [← hQQ]
    exact J_iret C hret (Nat.le_of_ble_eq_true rfl) (Nat.le_of_ble_eq_true rfl) ⟨_, h.osome, rfl, rfl, rfl⟩ dX12_wrap_202
  have hj_175 : (∀ (μ_175 : Sto), Ok (f12_wrap_j175 l1 l2 μ_175) Qf → J X K 7 False QQ 0 0 2055 (jw K σ μ_175 o) 175 [(0, .ref (K.2.2 + 2017))] []) := by
    intro μ_175 h
    unfold f12_wrap_j175 at h
    refine J_aload_n (i := 0) (p := 0) C dX12_wrap_175 rfl rfl rfl ?_
    refine Jm_getI C fp_RX12_155 rfl rfl dX12_wrap_176 rfl ?_
    obtain ⟨x6_1, e_x6_1, h⟩ := Ok.nm h
    refine J_istoreE (i := 6) (lv' := [(6, .int x6_1), (0, .ref (K.2.2 + 2017))]) C e_x6_1 dX12_wrap_179 (Nat.le_of_ble_eq_true rfl) rfl rfl ?_
    refine J_aload_n (i := 0) (p := 1) C dX12_wrap_181 rfl rfl rfl ?_
    refine Jm_cV (rest := []) (st9 := fun p_1 => [.int p_1.1]) C hR hX cv_RX12_244 rfl (Nat.le_of_ble_eq_true rfl) (k12_acts hl  (Ok.ofbnd h)) rfl rfl (Nat.le_of_ble_eq_true rfl) (Nat.le_of_ble_eq_true rfl) (Nat.le_of_ble_eq_true rfl) ⟨(Nat.le_of_ble_eq_true rfl), (Nat.le_of_ble_eq_true rfl)⟩ dX12_wrap_182 rfl (fun E n9 w9 hx => JT_n hx) (fun _ => rfl) (fun p_1 h => ?_)
    have h : Ok _ _ := h
    change J X K 7 False QQ 0 0 2055 (jw K σ p_1.2 o) 185 [(6, .int x6_1), (0, .ref (K.2.2 + 2017))] [.int p_1.1]
    refine J_if_eq (t := 197) C dX12_wrap_185 (by decide) rfl (fun c_2 => ?_) (fun c_2 => ?_)
    · have h := h.pos c_2
      refine J_aload_n (i := 0) (p := 1) C dX12_wrap_197 rfl rfl rfl ?_
      refine J_iconst (v := 3) C (by decide) dX12_wrap_198 rfl ?_
      refine Jm_cV (rest := []) (st9 := fun p_3 => [.int p_3.1]) C hR hX cv_RX12_206 rfl (Nat.le_of_ble_eq_true rfl) (k12_refuse hl  (Ok.ofbnd h)) rfl rfl (Nat.le_of_ble_eq_true rfl) (Nat.le_of_ble_eq_true rfl) (Nat.le_of_ble_eq_true rfl) ⟨(Nat.le_of_ble_eq_true rfl), (Nat.le_of_ble_eq_true rfl)⟩ dX12_wrap_199 rfl (fun E n9 w9 hx => JT_n hx) (fun _ => rfl) (fun p_3 h => ?_)
      have h : Ok _ _ := h
      change J X K 7 False QQ 0 0 2055 (jw K σ p_3.2 o) 202 [(6, .int x6_1), (0, .ref (K.2.2 + 2017))] [.int p_3.1]
      refine J.sub [] rfl ?_
      exact hj_202 p_3.2 p_3.1 h
    · have h := h.neg c_2
      refine J_aload_n (i := 0) (p := 1) C dX12_wrap_188 rfl rfl rfl ?_
      refine J_iload (i := 6) (p := 0) C dX12_wrap_189 rfl rfl ?_
      refine Jm_cV (rest := []) (st9 := fun p_4 => [.int p_4.1]) C hR hX cv_RX12_209 rfl (Nat.le_of_ble_eq_true rfl) (k12_told hl  (Ok.ofbnd h)) rfl rfl (Nat.le_of_ble_eq_true rfl) (Nat.le_of_ble_eq_true rfl) (Nat.le_of_ble_eq_true rfl) ⟨(Nat.le_of_ble_eq_true rfl), (Nat.le_of_ble_eq_true rfl)⟩ dX12_wrap_191 rfl (fun E n9 w9 hx => JT_n hx) (fun _ => rfl) (fun p_4 h => ?_)
      have h : Ok _ _ := h
      change J X K 7 False QQ 0 0 2055 (jw K σ p_4.2 o) 194 [(6, .int x6_1), (0, .ref (K.2.2 + 2017))] [.int p_4.1]
      refine J_goto (t := 202) C dX12_wrap_194 (by decide) ?_
      refine J.sub [] rfl ?_
      exact hj_202 p_4.2 p_4.1 h
  have hj_56 : (∀ (μ_56 : Sto) (l3_56 : Int32) (l4_56 : Int32) (l5_56 : Int32), Ok (f12_wrap_j56 l1 l2 μ_56 l3_56 l4_56 l5_56) Qf → J X K 7 False QQ 0 0 2055 (jw K σ μ_56 o) 56 [(0, .ref (K.2.2 + 2017)), (2, .int l2), (3, .int l3_56), (4, .int l4_56), (5, .int l5_56)] []) := by
    intro μ_56 l3_56 l4_56 l5_56 h
    unfold f12_wrap_j56 at h
    refine loop_gen (S := Sto × Int32 × Int32) (P := fun s_56 => J X K 7 False QQ 0 0 2055 (jw K σ s_56.1 o) 56 [(0, .ref (K.2.2 + 2017)), (2, .int l2), (3, .int s_56.2.1), (4, .int l4_56), (5, .int s_56.2.2)] []) ?_ FU (μ_56, l3_56, l5_56) (Ok.ofbnd h)
    intro B_56 hB_56 hE_56 s_56 h
    obtain ⟨μ_56, l3_56, l5_56⟩ := s_56
    have h : Ok (f12_wrap_b56 l1 l2 μ_56 l3_56 l4_56 l5_56) B_56 := h
    change J X K 7 False QQ 0 0 2055 (jw K σ μ_56 o) 56 [(0, .ref (K.2.2 + 2017)), (2, .int l2), (3, .int l3_56), (4, .int l4_56), (5, .int l5_56)] []
    have hj_172 : (∀ (μ_172 : Sto) (l3_172 : Int32) (l5_172 : Int32), Ok (f12_wrap_j172 l1 l2 l4_56 μ_172 l3_172 l5_172) B_56 → J X K 7 False QQ 0 0 2055 (jw K σ μ_172 o) 172 [(0, .ref (K.2.2 + 2017)), (2, .int l2), (3, .int l3_172), (4, .int l4_56), (5, .int l5_172)] []) := by
      intro μ_172 l3_172 l5_172 h
      unfold f12_wrap_j172 at h
      refine J_goto (t := 56) C dX12_wrap_172 (by decide) ?_
      exact hB_56 (μ_172, l3_172, l5_172) h.osome
    have hj_148 : (∀ (μ_148 : Sto) (l3_148 : Int32) (l6_148 : Int32) (s0_148 : Int32), Ok (f12_wrap_j148 l1 l2 l4_56 μ_148 l3_148 l6_148 s0_148) B_56 → J X K 7 False QQ 0 0 2055 (jw K σ μ_148 o) 148 [(0, .ref (K.2.2 + 2017)), (2, .int l2), (3, .int l3_148), (4, .int l4_56), (6, .int l6_148)] [.int s0_148]) := by
      intro μ_148 l3_148 l6_148 s0_148 h
      unfold f12_wrap_j148 at h
      obtain ⟨x5_2, e_x5_2, h⟩ := Ok.nm h
      refine J_istoreE (i := 5) (lv' := [(5, .int x5_2), (0, .ref (K.2.2 + 2017)), (2, .int l2), (3, .int l3_148), (4, .int l4_56), (6, .int l6_148)]) C e_x5_2 dX12_wrap_148 (Nat.le_of_ble_eq_true rfl) rfl rfl ?_
      refine J_iload (i := 5) (p := 0) C dX12_wrap_150 rfl rfl ?_
      refine J_if_eq (t := 172) C dX12_wrap_152 (by decide) rfl (fun c_5 => ?_) (fun c_5 => ?_)
      · have h := h.pos c_5
        refine J.sub [1, 2, 3, 4, 0] rfl ?_
        exact hj_172 μ_148 l3_148 x5_2 h
      · have h := h.neg c_5
        refine J_aload_n (i := 0) (p := 1) C dX12_wrap_155 rfl rfl rfl ?_
        refine J_iload (i := 6) (p := 5) C dX12_wrap_156 rfl rfl ?_
        refine J_iload (i := 6) (p := 5) C dX12_wrap_158 rfl rfl ?_
        refine J_iconst (v := 1) C (by decide) dX12_wrap_160 rfl ?_
        refine J_iadd C dX12_wrap_161 rfl ?_
        refine J_iconst (v := 0) C (by decide) dX12_wrap_162 rfl ?_
        refine J_iconst (v := 1) C (by decide) dX12_wrap_163 rfl ?_
        refine Jm_cV (rest := []) (st9 := fun p_6 => []) C hR hX cv_RX12_240 rfl (Nat.le_of_ble_eq_true rfl) (k12_adds hl  (Ok.ofbnd h)) rfl rfl (Nat.le_of_ble_eq_true rfl) (Nat.le_of_ble_eq_true rfl) (Nat.le_of_ble_eq_true rfl) ⟨(Nat.le_of_ble_eq_true rfl), (Nat.le_of_ble_eq_true rfl)⟩ dX12_wrap_164 rfl (fun E n9 w9 hx => JT_n hx) (fun _ => rfl) (fun p_6 h => ?_)
        have h : Ok _ _ := h
        change J X K 7 False QQ 0 0 2055 (jw K σ p_6 o) 167 [(5, .int x5_2), (0, .ref (K.2.2 + 2017)), (2, .int l2), (3, .int l3_148), (4, .int l4_56), (6, .int l6_148)] []
        refine J_iload (i := 6) (p := 5) C dX12_wrap_167 rfl rfl ?_
        refine J_iconst (v := 1) C (by decide) dX12_wrap_169 rfl ?_
        refine J_iadd C dX12_wrap_170 rfl ?_
        obtain ⟨x3_3, e_x3_3, h⟩ := Ok.nm h
        refine J_istoreE_n (i := 3) (lv' := [(3, .int x3_3), (5, .int x5_2), (0, .ref (K.2.2 + 2017)), (2, .int l2), (4, .int l4_56), (6, .int l6_148)]) C e_x3_3 dX12_wrap_171 rfl (Nat.le_of_ble_eq_true rfl) rfl rfl ?_
        refine J.sub [2, 3, 0, 4, 1] rfl ?_
        exact hj_172 p_6 x3_3 x5_2 h
    have hj_136 : (∀ (μ_136 : Sto) (l3_136 : Int32) (l6_136 : Int32), Ok (f12_wrap_j136 l1 l2 l4_56 μ_136 l3_136 l6_136) B_56 → J X K 7 False QQ 0 0 2055 (jw K σ μ_136 o) 136 [(0, .ref (K.2.2 + 2017)), (2, .int l2), (3, .int l3_136), (4, .int l4_56), (6, .int l6_136)] []) := by
      intro μ_136 l3_136 l6_136 h
      unfold f12_wrap_j136 at h
      refine J_iload (i := 6) (p := 4) C dX12_wrap_136 rfl rfl ?_
      refine J_iload (i := 4) (p := 3) C dX12_wrap_138 rfl rfl ?_
      refine J_icmp_ge (t := 147) C dX12_wrap_140 (by decide) rfl (fun c_7 => ?_) (fun c_7 => ?_)
      · have h := h.pos c_7
        refine J_iconst (v := 0) C (by decide) dX12_wrap_147 rfl ?_
        exact hj_148 μ_136 l3_136 l6_136 (0 : Int32) h
      · have h := h.neg c_7
        refine J_iconst (v := 1) C (by decide) dX12_wrap_143 rfl ?_
        refine J_goto (t := 148) C dX12_wrap_144 (by decide) ?_
        exact hj_148 μ_136 l3_136 l6_136 (1 : Int32) h
    have hj_111 : (∀ (μ_111 : Sto) (l3_111 : Int32) (l6_111 : Int32), Ok (f12_wrap_j111 l1 l2 l4_56 μ_111 l3_111 l6_111) B_56 → J X K 7 False QQ 0 0 2055 (jw K σ μ_111 o) 111 [(0, .ref (K.2.2 + 2017)), (2, .int l2), (3, .int l3_111), (4, .int l4_56), (6, .int l6_111)] []) := by
      intro μ_111 l3_111 l6_111 h
      unfold f12_wrap_j111 at h
      refine loop_gen (S := Int32) (P := fun s_111 => J X K 7 False QQ 0 0 2055 (jw K σ μ_111 o) 111 [(0, .ref (K.2.2 + 2017)), (2, .int l2), (3, .int l3_111), (4, .int l4_56), (6, .int s_111)] []) ?_ FU l6_111 (Ok.ofbnd h)
      intro B_111 hB_111 hE_111 s_111 h
      generalize s_111 = l6_111 at h ⊢
      have h : Ok (f12_wrap_b111 l1 l2 l4_56 μ_111 l3_111 l6_111) B_111 := h
      change J X K 7 False QQ 0 0 2055 (jw K σ μ_111 o) 111 [(0, .ref (K.2.2 + 2017)), (2, .int l2), (3, .int l3_111), (4, .int l4_56), (6, .int l6_111)] []
      unfold f12_wrap_b111 at h
      refine J_iload (i := 6) (p := 4) C dX12_wrap_111 rfl rfl ?_
      refine J_iload (i := 4) (p := 3) C dX12_wrap_113 rfl rfl ?_
      refine J_icmp_ge (t := 136) C dX12_wrap_115 (by decide) rfl (fun c_8 => ?_) (fun c_8 => ?_)
      · have h := h.pos c_8
        have h := hE_111 l6_111 h.osome
        try dsimp only at h
        exact hj_136 μ_111 l3_111 l6_111 h
      · have h := h.neg c_8
        refine J_aload_n (i := 0) (p := 0) C dX12_wrap_118 rfl rfl rfl ?_
        refine Jm_getS (o2 := 1) (r2 := 2018) C fp_RX12_7 rfl rfl rfl dX12_wrap_119 rfl ?_
        refine J_iload (i := 6) (p := 4) C dX12_wrap_122 rfl rfl ?_
        obtain ⟨g_9, h⟩ := Ok.ofgd h
        refine Jm_iald C rfl rfl g_9 dX12_wrap_124 rfl ?_
        refine J_bipush (v := 32) C (by decide) dX12_wrap_125 rfl ?_
        refine J_icmp_eq (t := 136) C dX12_wrap_127 (by decide) rfl (fun c_10 => ?_) (fun c_10 => ?_)
        · have h := h.pos c_10
          have h := hE_111 l6_111 h.osome
          try dsimp only at h
          exact hj_136 μ_111 l3_111 l6_111 h
        · have h := h.neg c_10
          obtain ⟨x6_4, e_x6_4, h⟩ := Ok.nm h
          refine J_iincE (i := 6) (p := 4) (lv' := [(6, .int x6_4), (0, .ref (K.2.2 + 2017)), (2, .int l2), (3, .int l3_111), (4, .int l4_56)]) C e_x6_4 dX12_wrap_130 rfl (by decide) (Nat.le_of_ble_eq_true rfl) rfl rfl ?_
          refine J_goto (t := 111) C dX12_wrap_133 (by decide) ?_
          refine J.sub [1, 2, 3, 4, 0] rfl ?_
          exact hB_111 x6_4 h.osome
    have hj_98 : (∀ (μ_98 : Sto) (l3_98 : Int32) (l6_98 : Int32), Ok (f12_wrap_j98 l1 l2 l4_56 μ_98 l3_98 l6_98) B_56 → J X K 7 False QQ 0 0 2055 (jw K σ μ_98 o) 98 [(0, .ref (K.2.2 + 2017)), (2, .int l2), (3, .int l3_98), (4, .int l4_56), (6, .int l6_98)] []) := by
      intro μ_98 l3_98 l6_98 h
      unfold f12_wrap_j98 at h
      refine J_iload (i := 6) (p := 4) C dX12_wrap_98 rfl rfl ?_
      refine J_iload_n (i := 3) (p := 2) C dX12_wrap_100 rfl rfl rfl ?_
      refine J_icmp_ne (t := 136) C dX12_wrap_101 (by decide) rfl (fun c_11 => ?_) (fun c_11 => ?_)
      · have h := h.neg c_11
        exact hj_136 μ_98 l3_98 l6_98 h
      · have h := h.pos (Decidable.not_not.mp c_11)
        refine J_iload_n (i := 3) (p := 2) C dX12_wrap_104 rfl rfl rfl ?_
        refine J_iload_n (i := 2) (p := 1) C dX12_wrap_105 rfl rfl rfl ?_
        refine J_iadd C dX12_wrap_106 rfl ?_
        refine J_iconst (v := 1) C (by decide) dX12_wrap_107 rfl ?_
        refine J_iadd C dX12_wrap_108 rfl ?_
        obtain ⟨x6_5, e_x6_5, h⟩ := Ok.nm h
        refine J_istoreE (i := 6) (lv' := [(6, .int x6_5), (0, .ref (K.2.2 + 2017)), (2, .int l2), (3, .int l3_98), (4, .int l4_56)]) C e_x6_5 dX12_wrap_109 (Nat.le_of_ble_eq_true rfl) rfl rfl ?_
        refine J.sub [1, 2, 3, 4, 0] rfl ?_
        exact hj_111 μ_98 l3_98 x6_5 h
    have hj_74 : (∀ (μ_74 : Sto) (l3_74 : Int32) (l6_74 : Int32), Ok (f12_wrap_j74 l1 l2 l4_56 μ_74 l3_74 l6_74) B_56 → J X K 7 False QQ 0 0 2055 (jw K σ μ_74 o) 74 [(0, .ref (K.2.2 + 2017)), (2, .int l2), (3, .int l3_74), (4, .int l4_56), (6, .int l6_74)] []) := by
      intro μ_74 l3_74 l6_74 h
      unfold f12_wrap_j74 at h
      refine loop_gen (S := Int32) (P := fun s_74 => J X K 7 False QQ 0 0 2055 (jw K σ μ_74 o) 74 [(0, .ref (K.2.2 + 2017)), (2, .int l2), (3, .int l3_74), (4, .int l4_56), (6, .int s_74)] []) ?_ FU l6_74 (Ok.ofbnd h)
      intro B_74 hB_74 hE_74 s_74 h
      generalize s_74 = l6_74 at h ⊢
      have h : Ok (f12_wrap_b74 l1 l2 l4_56 μ_74 l3_74 l6_74) B_74 := h
      change J X K 7 False QQ 0 0 2055 (jw K σ μ_74 o) 74 [(0, .ref (K.2.2 + 2017)), (2, .int l2), (3, .int l3_74), (4, .int l4_56), (6, .int l6_74)] []
      unfold f12_wrap_b74 at h
      refine J_iload (i := 6) (p := 4) C dX12_wrap_74 rfl rfl ?_
      refine J_iload_n (i := 3) (p := 2) C dX12_wrap_76 rfl rfl rfl ?_
      refine J_icmp_le (t := 98) C dX12_wrap_77 (by decide) rfl (fun c_12 => ?_) (fun c_12 => ?_)
      · have h := h.pos c_12
        have h := hE_74 l6_74 h.osome
        try dsimp only at h
        exact hj_98 μ_74 l3_74 l6_74 h
      · have h := h.neg c_12
        refine J_aload_n (i := 0) (p := 0) C dX12_wrap_80 rfl rfl rfl ?_
        refine Jm_getS (o2 := 1) (r2 := 2018) C fp_RX12_7 rfl rfl rfl dX12_wrap_81 rfl ?_
        refine J_iload (i := 6) (p := 4) C dX12_wrap_84 rfl rfl ?_
        obtain ⟨g_13, h⟩ := Ok.ofgd h
        refine Jm_iald C rfl rfl g_13 dX12_wrap_86 rfl ?_
        refine J_bipush (v := 32) C (by decide) dX12_wrap_87 rfl ?_
        refine J_icmp_eq (t := 98) C dX12_wrap_89 (by decide) rfl (fun c_14 => ?_) (fun c_14 => ?_)
        · have h := h.pos c_14
          have h := hE_74 l6_74 h.osome
          try dsimp only at h
          exact hj_98 μ_74 l3_74 l6_74 h
        · have h := h.neg c_14
          obtain ⟨x6_6, e_x6_6, h⟩ := Ok.nm h
          refine J_iincE (i := 6) (p := 4) (lv' := [(6, .int x6_6), (0, .ref (K.2.2 + 2017)), (2, .int l2), (3, .int l3_74), (4, .int l4_56)]) C e_x6_6 dX12_wrap_92 rfl (by decide) (Nat.le_of_ble_eq_true rfl) rfl rfl ?_
          refine J_goto (t := 74) C dX12_wrap_95 (by decide) ?_
          refine J.sub [1, 2, 3, 4, 0] rfl ?_
          exact hB_74 x6_6 h.osome
    unfold f12_wrap_b56 at h
    refine J_iload (i := 5) (p := 4) C dX12_wrap_56 rfl rfl ?_
    refine J_if_eq (t := 175) C dX12_wrap_58 (by decide) rfl (fun c_15 => ?_) (fun c_15 => ?_)
    · have h := h.pos c_15
      have h := hE_56 μ_56 h.osome
      try dsimp only at h
      refine J.sub [0] rfl ?_
      exact hj_175 μ_56 h
    · have h := h.neg c_15
      refine J_iload (i := 4) (p := 3) C dX12_wrap_61 rfl rfl ?_
      refine J_iload_n (i := 3) (p := 2) C dX12_wrap_63 rfl rfl rfl ?_
      refine J_isub C dX12_wrap_64 rfl ?_
      refine J_iload_n (i := 2) (p := 1) C dX12_wrap_65 rfl rfl rfl ?_
      refine J_icmp_le (t := 175) C dX12_wrap_66 (by decide) rfl (fun c_16 => ?_) (fun c_16 => ?_)
      · have h := h.pos c_16
        have h := hE_56 μ_56 h.osome
        try dsimp only at h
        refine J.sub [0] rfl ?_
        exact hj_175 μ_56 h
      · have h := h.neg c_16
        refine J_iload_n (i := 3) (p := 2) C dX12_wrap_69 rfl rfl rfl ?_
        refine J_iload_n (i := 2) (p := 1) C dX12_wrap_70 rfl rfl rfl ?_
        refine J_iadd C dX12_wrap_71 rfl ?_
        obtain ⟨x6_7, e_x6_7, h⟩ := Ok.nm h
        refine J_istoreE (i := 6) (lv' := [(6, .int x6_7), (0, .ref (K.2.2 + 2017)), (2, .int l2), (3, .int l3_56), (4, .int l4_56), (5, .int l5_56)]) C e_x6_7 dX12_wrap_72 (Nat.le_of_ble_eq_true rfl) rfl rfl ?_
        refine J.sub [1, 2, 3, 4, 0] rfl ?_
        exact hj_74 μ_56 l3_56 x6_7 h
  unfold f12_wrap at h
  refine J_aload_n (i := 0) (p := 0) C dX12_wrap_0 rfl rfl rfl ?_
  refine J_iload_n (i := 1) (p := 1) C dX12_wrap_1 rfl rfl rfl ?_
  refine Jm_cV (rest := []) (st9 := fun p_17 => [.int p_17]) C hR hX cv_RX12_225 rfl (Nat.le_of_ble_eq_true rfl) (k12_isLine hl  (Ok.ofbnd h)) rfl rfl (Nat.le_of_ble_eq_true rfl) (Nat.le_of_ble_eq_true rfl) (Nat.le_of_ble_eq_true rfl) ⟨(Nat.le_of_ble_eq_true rfl), (Nat.le_of_ble_eq_true rfl)⟩ dX12_wrap_2 rfl (fun E n9 w9 hx => JT_n hx) (fun _ => rfl) (fun p_17 h => ?_)
  have h : Ok _ _ := h
  change J X K 7 False QQ 0 0 2055 (jw K σ μ o) 5 [(0, .ref (K.2.2 + 2017)), (1, .int l1), (2, .int l2)] [.int p_17]
  refine J_if_ne (t := 14) C dX12_wrap_5 (by decide) rfl (fun c_18 => ?_) (fun c_18 => ?_)
  · have h := h.neg c_18
    refine J_iload_n (i := 2) (p := 2) C dX12_wrap_14 rfl rfl rfl ?_
    refine J_iconst (v := 1) C (by decide) dX12_wrap_15 rfl ?_
    refine J_bipush (v := 100) C (by decide) dX12_wrap_16 rfl ?_
    refine J_cS (rest := []) (st9 := fun p_19 => [.int p_19]) C hR hX cs_RX12_134 (k12_in hl  (Ok.ofbnd h)) rfl rfl (Nat.le_of_ble_eq_true rfl) (Nat.le_of_ble_eq_true rfl) (Nat.le_of_ble_eq_true rfl) ⟨(Nat.le_of_ble_eq_true rfl), (Nat.le_of_ble_eq_true rfl)⟩ dX12_wrap_18 rfl (fun E n9 w9 hx => JT_n hx) (fun _ => rfl) (fun p_19 h => ?_)
    have h : Ok _ _ := h
    change J X K 7 False QQ 0 0 2055 (jw K σ μ o) 21 [(0, .ref (K.2.2 + 2017)), (1, .int l1), (2, .int l2)] [.int p_19]
    refine J_if_ne (t := 30) C dX12_wrap_21 (by decide) rfl (fun c_20 => ?_) (fun c_20 => ?_)
    · have h := h.neg c_20
      refine J_aload_n (i := 0) (p := 0) C dX12_wrap_30 rfl rfl rfl ?_
      refine Jm_cV (rest := []) (st9 := fun p_21 => []) C hR hX cv_RX12_234 rfl (Nat.le_of_ble_eq_true rfl) (k12_begins hl  (Ok.ofbnd h)) rfl rfl (Nat.le_of_ble_eq_true rfl) (Nat.le_of_ble_eq_true rfl) (Nat.le_of_ble_eq_true rfl) ⟨(Nat.le_of_ble_eq_true rfl), (Nat.le_of_ble_eq_true rfl)⟩ dX12_wrap_31 rfl (fun E n9 w9 hx => JT_n hx) (fun _ => rfl) (fun p_21 h => ?_)
      have h : Ok _ _ := h
      change J X K 7 False QQ 0 0 2055 (jw K σ p_21 o) 34 [(0, .ref (K.2.2 + 2017)), (1, .int l1), (2, .int l2)] []
      refine J_aload_n (i := 0) (p := 0) C dX12_wrap_34 rfl rfl rfl ?_
      refine J_bipush (v := 10) C (by decide) dX12_wrap_35 rfl ?_
      refine Jm_cV (rest := []) (st9 := fun p_22 => []) C hR hX cv_RX12_164 rfl (Nat.le_of_ble_eq_true rfl) (k12_puts hl  (Ok.ofbnd h)) rfl rfl (Nat.le_of_ble_eq_true rfl) (Nat.le_of_ble_eq_true rfl) (Nat.le_of_ble_eq_true rfl) ⟨(Nat.le_of_ble_eq_true rfl), (Nat.le_of_ble_eq_true rfl)⟩ dX12_wrap_37 rfl (fun E n9 w9 hx => JT_n hx) (fun _ => rfl) (fun p_22 h => ?_)
      have h : Ok _ _ := h
      change J X K 7 False QQ 0 0 2055 (jw K σ p_22 o) 40 [(0, .ref (K.2.2 + 2017)), (1, .int l1), (2, .int l2)] []
      refine J_aload_n (i := 0) (p := 0) C dX12_wrap_40 rfl rfl rfl ?_
      refine J_iload_n (i := 1) (p := 1) C dX12_wrap_41 rfl rfl rfl ?_
      refine Jm_cV (rest := []) (st9 := fun p_23 => [.int p_23]) C hR hX cv_RX12_145 rfl (Nat.le_of_ble_eq_true rfl) (k12_beginOf hl  (Ok.ofbnd h)) rfl rfl (Nat.le_of_ble_eq_true rfl) (Nat.le_of_ble_eq_true rfl) (Nat.le_of_ble_eq_true rfl) ⟨(Nat.le_of_ble_eq_true rfl), (Nat.le_of_ble_eq_true rfl)⟩ dX12_wrap_42 rfl (fun E n9 w9 hx => JT_n hx) (fun _ => rfl) (fun p_23 h => ?_)
      have h : Ok _ _ := h
      change J X K 7 False QQ 0 0 2055 (jw K σ p_22 o) 45 [(0, .ref (K.2.2 + 2017)), (1, .int l1), (2, .int l2)] [.int p_23]
      obtain ⟨x3_8, e_x3_8, h⟩ := Ok.nm h
      refine J_istoreE_n (i := 3) (lv' := [(3, .int x3_8), (0, .ref (K.2.2 + 2017)), (1, .int l1), (2, .int l2)]) C e_x3_8 dX12_wrap_45 rfl (Nat.le_of_ble_eq_true rfl) rfl rfl ?_
      refine J_aload_n (i := 0) (p := 1) C dX12_wrap_46 rfl rfl rfl ?_
      refine J_iload_n (i := 1) (p := 2) C dX12_wrap_47 rfl rfl rfl ?_
      refine Jm_cV (rest := []) (st9 := fun p_24 => [.int p_24]) C hR hX cv_RX12_228 rfl (Nat.le_of_ble_eq_true rfl) (k12_endOf hl  (Ok.ofbnd h)) rfl rfl (Nat.le_of_ble_eq_true rfl) (Nat.le_of_ble_eq_true rfl) (Nat.le_of_ble_eq_true rfl) ⟨(Nat.le_of_ble_eq_true rfl), (Nat.le_of_ble_eq_true rfl)⟩ dX12_wrap_48 rfl (fun E n9 w9 hx => JT_n hx) (fun _ => rfl) (fun p_24 h => ?_)
      have h : Ok _ _ := h
      change J X K 7 False QQ 0 0 2055 (jw K σ p_22 o) 51 [(3, .int x3_8), (0, .ref (K.2.2 + 2017)), (1, .int l1), (2, .int l2)] [.int p_24]
      obtain ⟨x4_9, e_x4_9, h⟩ := Ok.nm h
      refine J_istoreE (i := 4) (lv' := [(4, .int x4_9), (3, .int x3_8), (0, .ref (K.2.2 + 2017)), (1, .int l1), (2, .int l2)]) C e_x4_9 dX12_wrap_51 (Nat.le_of_ble_eq_true rfl) rfl rfl ?_
      refine J_iconst (v := 1) C (by decide) dX12_wrap_53 rfl ?_
      obtain ⟨x5_10, e_x5_10, h⟩ := Ok.nm h
      refine J_istoreE (i := 5) (lv' := [(5, .int x5_10), (4, .int x4_9), (3, .int x3_8), (0, .ref (K.2.2 + 2017)), (1, .int l1), (2, .int l2)]) C e_x5_10 dX12_wrap_54 (Nat.le_of_ble_eq_true rfl) rfl rfl ?_
      refine J.sub [3, 5, 2, 1, 0] rfl ?_
      exact hj_56 p_22 x3_8 x4_9 x5_10 h
    · have h := h.pos (Decidable.not_not.mp c_20)
      refine J_aload_n (i := 0) (p := 0) C dX12_wrap_24 rfl rfl rfl ?_
      refine J_iconst (v := 2) C (by decide) dX12_wrap_25 rfl ?_
      refine Jm_cV (rest := []) (st9 := fun p_25 => [.int p_25.1]) C hR hX cv_RX12_206 rfl (Nat.le_of_ble_eq_true rfl) (k12_refuse hl  (Ok.ofbnd h)) rfl rfl (Nat.le_of_ble_eq_true rfl) (Nat.le_of_ble_eq_true rfl) (Nat.le_of_ble_eq_true rfl) ⟨(Nat.le_of_ble_eq_true rfl), (Nat.le_of_ble_eq_true rfl)⟩ dX12_wrap_26 rfl (fun E n9 w9 hx => JT_n hx) (fun _ => rfl) (fun p_25 h => ?_)
      have h : Ok _ _ := h
      change J X K 7 False QQ 0 0 2055 (jw K σ p_25.2 o) 29 [(0, .ref (K.2.2 + 2017)), (1, .int l1), (2, .int l2)] [.int p_25.1]
      rw [← hQQ]
      exact J_iret C hret (Nat.le_of_ble_eq_true rfl) (Nat.le_of_ble_eq_true rfl) ⟨_, h.osome, rfl, rfl, rfl⟩ dX12_wrap_29
  · have h := h.pos (Decidable.not_not.mp c_18)
    refine J_aload_n (i := 0) (p := 0) C dX12_wrap_8 rfl rfl rfl ?_
    refine J_iconst (v := 1) C (by decide) dX12_wrap_9 rfl ?_
    refine Jm_cV (rest := []) (st9 := fun p_26 => [.int p_26.1]) C hR hX cv_RX12_206 rfl (Nat.le_of_ble_eq_true rfl) (k12_refuse hl  (Ok.ofbnd h)) rfl rfl (Nat.le_of_ble_eq_true rfl) (Nat.le_of_ble_eq_true rfl) (Nat.le_of_ble_eq_true rfl) ⟨(Nat.le_of_ble_eq_true rfl), (Nat.le_of_ble_eq_true rfl)⟩ dX12_wrap_10 rfl (fun E n9 w9 hx => JT_n hx) (fun _ => rfl) (fun p_26 h => ?_)
    have h : Ok _ _ := h
    change J X K 7 False QQ 0 0 2055 (jw K σ p_26.2 o) 13 [(0, .ref (K.2.2 + 2017)), (1, .int l1), (2, .int l2)] [.int p_26.1]
    rw [← hQQ]
    exact J_iret C hret (Nat.le_of_ble_eq_true rfl) (Nat.le_of_ble_eq_true rfl) ⟨_, h.osome, rfl, rfl, rfl⟩ dX12_wrap_13
def f12_joinLines_j130 (l1 : Int32) (l2 : Int32) (μ_130 : Sto) (s0_130 : Int32) : Option (Int32 × Sto) :=
  some (s0_130, μ_130)
def f12_joinLines_j91 (l1 : Int32) (l2 : Int32) (μ_91 : Sto) (l3_91 : Int32) (l4_91 : Int32) (l5_91 : Int32) : Option ((Sto × Int32) ⊕ Sto) :=
  bnd (f12_adds μ_91 l4_91 l5_91 (0 : Int32) (1 : Int32)) fun p_1 =>
  stp (l3_91 + (1 : Int32)) fun x3_1 =>
  some (.inl (p_1, x3_1))
def f12_joinLines_b63 (l1 : Int32) (l2 : Int32) (μ_63 : Sto) (l3_63 : Int32) (l4_63 : Int32) (l5_63 : Int32) : Option (Int32 ⊕ Int32) :=
  if (fI μ_63 2017 5) ≤ l5_63 then
    some (.inr l5_63)
  else
    gd (inb l5_63 3000) <|
    bnd (f12_isSpace (aI μ_63 2018 (Int32.toNatClampNeg l5_63))) fun p_4 =>
    if p_4 = 0 then
      some (.inr l5_63)
    else
      stp (l5_63 + (1 : Int32)) fun x5_2 =>
      some (.inl x5_2)
def f12_joinLines_j63 (l1 : Int32) (l2 : Int32) (μ_63 : Sto) (l3_63 : Int32) (l4_63 : Int32) (l5_63 : Int32) : Option ((Sto × Int32) ⊕ Sto) :=
  bnd (loopF (fun s_63 => f12_joinLines_b63 l1 l2 μ_63 l3_63 l4_63 s_63) FU l5_63) fun r_63 =>
    f12_joinLines_j91 l1 l2 μ_63 l3_63 l4_63 r_63
def f12_joinLines_b45 (l1 : Int32) (l2 : Int32) (μ_45 : Sto) (l3_45 : Int32) : Option ((Sto × Int32) ⊕ Sto) :=
  if l2 ≤ l3_45 then
    some (.inr μ_45)
  else
    bnd (f12_endOf μ_45 l3_45) fun p_12 =>
    stp p_12 fun x4_3 =>
    stp (x4_3 + (1 : Int32)) fun x5_4 =>
    f12_joinLines_j63 l1 l2 μ_45 l3_45 x4_3 x5_4
def f12_joinLines_j45 (l1 : Int32) (l2 : Int32) (μ_45 : Sto) (l3_45 : Int32) : Option (Int32 × Sto) :=
  bnd (loopF (fun s_45 => f12_joinLines_b45 l1 l2 s_45.1 s_45.2) FU (μ_45, l3_45)) fun r_45 =>
    bnd (f12_acts r_45) fun p_13 =>
    if p_13.1 = 0 then
      bnd (f12_refuse p_13.2 (3 : Int32)) fun p_15 =>
      f12_joinLines_j130 l1 l2 p_15.2 p_15.1
    else
      bnd (f12_lines p_13.2) fun p_16 =>
      bnd (f12_told p_13.2 p_16) fun p_17 =>
      f12_joinLines_j130 l1 l2 p_17.2 p_17.1
def f12_joinLines_j16 (l1 : Int32) (l2 : Int32) (μ_16 : Sto) : Option (Int32 × Sto) :=
  bnd (f12_refuse μ_16 (1 : Int32)) fun p_18 =>
  some (p_18.1, p_18.2)
def f12_joinLines (μ : Sto) (l1 : Int32) (l2 : Int32) : Option (Int32 × Sto) :=
  bnd (f12_isLine μ l1) fun p_19 =>
  if p_19 = 0 then
    f12_joinLines_j16 l1 l2 μ
  else
    bnd (f12_isLine μ l2) fun p_21 =>
    if p_21 = 0 then
      f12_joinLines_j16 l1 l2 μ
    else
      if l1 ≤ l2 then
        bnd (f12_begins μ) fun p_24 =>
        bnd (f12_puts p_24 (32 : Int32)) fun p_25 =>
        stp l1 fun x3_5 =>
        f12_joinLines_j45 l1 l2 p_25 x3_5
      else
        bnd (f12_refuse μ (2 : Int32)) fun p_26 =>
        some (p_26.1, p_26.2)
set_option maxHeartbeats 4000000 in
set_option maxRecDepth 100000 in
theorem k12_joinLines {l : Launch} {K : JK} (hl : l.stackTraces = false) {σ μ : Sto} {o : Int64} {l1 : Int32} {l2 : Int32}  {Qf : Int32 × Sto → Prop} (h : Ok (f12_joinLines μ l1 l2) Qf) : Con l K yX12_joinLines (.code yX12_joinLines cX12_joinLines 6 (some .int) :: TB) 3 0 0 False [.ref (K.2.2 + 2017), .int l1, .int l2] 2055 (jw K σ μ o) (PR Qf (fun p => some (.int p.1)) (fun p => jw K σ p.2 o)) PN := by
  refine Con.enter (own := RX12) hl (by decide) rfl (Nat.le_of_ble_eq_true rfl) ?_
  intro X hX hR C hret hnt
  generalize hQQ : jQ X K 0 0 (PR Qf (fun p => some (.int p.1)) (fun p => jw K σ p.2 o)) PN False = QQ
  change J X K 6 False QQ 0 0 2055 (jw K σ μ o) 0 [(0, .ref (K.2.2 + 2017)), (1, .int l1), (2, .int l2)] []
  have hj_130 : (∀ (μ_130 : Sto) (s0_130 : Int32), Ok (f12_joinLines_j130 l1 l2 μ_130 s0_130) Qf → J X K 6 False QQ 0 0 2055 (jw K σ μ_130 o) 130 [] [.int s0_130]) := by
    intro μ_130 s0_130 h
    unfold f12_joinLines_j130 at h
    rw [← hQQ]
    exact J_iret C hret (Nat.le_of_ble_eq_true rfl) (Nat.le_of_ble_eq_true rfl) ⟨_, h.osome, rfl, rfl, rfl⟩ dX12_joinLines_130
  have hj_45 : (∀ (μ_45 : Sto) (l3_45 : Int32), Ok (f12_joinLines_j45 l1 l2 μ_45 l3_45) Qf → J X K 6 False QQ 0 0 2055 (jw K σ μ_45 o) 45 [(0, .ref (K.2.2 + 2017)), (2, .int l2), (3, .int l3_45)] []) := by
    intro μ_45 l3_45 h
    unfold f12_joinLines_j45 at h
    refine loop_gen (S := Sto × Int32) (P := fun s_45 => J X K 6 False QQ 0 0 2055 (jw K σ s_45.1 o) 45 [(0, .ref (K.2.2 + 2017)), (2, .int l2), (3, .int s_45.2)] []) ?_ FU (μ_45, l3_45) (Ok.ofbnd h)
    intro B_45 hB_45 hE_45 s_45 h
    obtain ⟨μ_45, l3_45⟩ := s_45
    have h : Ok (f12_joinLines_b45 l1 l2 μ_45 l3_45) B_45 := h
    change J X K 6 False QQ 0 0 2055 (jw K σ μ_45 o) 45 [(0, .ref (K.2.2 + 2017)), (2, .int l2), (3, .int l3_45)] []
    have hj_91 : (∀ (μ_91 : Sto) (l3_91 : Int32) (l4_91 : Int32) (l5_91 : Int32), Ok (f12_joinLines_j91 l1 l2 μ_91 l3_91 l4_91 l5_91) B_45 → J X K 6 False QQ 0 0 2055 (jw K σ μ_91 o) 91 [(0, .ref (K.2.2 + 2017)), (2, .int l2), (3, .int l3_91), (4, .int l4_91), (5, .int l5_91)] []) := by
      intro μ_91 l3_91 l4_91 l5_91 h
      unfold f12_joinLines_j91 at h
      refine J_aload_n (i := 0) (p := 0) C dX12_joinLines_91 rfl rfl rfl ?_
      refine J_iload (i := 4) (p := 3) C dX12_joinLines_92 rfl rfl ?_
      refine J_iload (i := 5) (p := 4) C dX12_joinLines_94 rfl rfl ?_
      refine J_iconst (v := 0) C (by decide) dX12_joinLines_96 rfl ?_
      refine J_iconst (v := 1) C (by decide) dX12_joinLines_97 rfl ?_
      refine Jm_cV (rest := []) (st9 := fun p_1 => []) C hR hX cv_RX12_240 rfl (Nat.le_of_ble_eq_true rfl) (k12_adds hl  (Ok.ofbnd h)) rfl rfl (Nat.le_of_ble_eq_true rfl) (Nat.le_of_ble_eq_true rfl) (Nat.le_of_ble_eq_true rfl) ⟨(Nat.le_of_ble_eq_true rfl), (Nat.le_of_ble_eq_true rfl)⟩ dX12_joinLines_98 rfl (fun E n9 w9 hx => JT_n hx) (fun _ => rfl) (fun p_1 h => ?_)
      have h : Ok _ _ := h
      change J X K 6 False QQ 0 0 2055 (jw K σ p_1 o) 101 [(0, .ref (K.2.2 + 2017)), (2, .int l2), (3, .int l3_91), (4, .int l4_91), (5, .int l5_91)] []
      obtain ⟨x3_1, e_x3_1, h⟩ := Ok.nm h
      refine J_iincE (i := 3) (p := 2) (lv' := [(3, .int x3_1), (0, .ref (K.2.2 + 2017)), (2, .int l2), (4, .int l4_91), (5, .int l5_91)]) C e_x3_1 dX12_joinLines_101 rfl (by decide) (Nat.le_of_ble_eq_true rfl) rfl rfl ?_
      refine J_goto (t := 45) C dX12_joinLines_104 (by decide) ?_
      refine J.sub [1, 2, 0] rfl ?_
      exact hB_45 (p_1, x3_1) h.osome
    have hj_63 : (∀ (μ_63 : Sto) (l3_63 : Int32) (l4_63 : Int32) (l5_63 : Int32), Ok (f12_joinLines_j63 l1 l2 μ_63 l3_63 l4_63 l5_63) B_45 → J X K 6 False QQ 0 0 2055 (jw K σ μ_63 o) 63 [(0, .ref (K.2.2 + 2017)), (2, .int l2), (3, .int l3_63), (4, .int l4_63), (5, .int l5_63)] []) := by
      intro μ_63 l3_63 l4_63 l5_63 h
      unfold f12_joinLines_j63 at h
      refine loop_gen (S := Int32) (P := fun s_63 => J X K 6 False QQ 0 0 2055 (jw K σ μ_63 o) 63 [(0, .ref (K.2.2 + 2017)), (2, .int l2), (3, .int l3_63), (4, .int l4_63), (5, .int s_63)] []) ?_ FU l5_63 (Ok.ofbnd h)
      intro B_63 hB_63 hE_63 s_63 h
      generalize s_63 = l5_63 at h ⊢
      have h : Ok (f12_joinLines_b63 l1 l2 μ_63 l3_63 l4_63 l5_63) B_63 := h
      change J X K 6 False QQ 0 0 2055 (jw K σ μ_63 o) 63 [(0, .ref (K.2.2 + 2017)), (2, .int l2), (3, .int l3_63), (4, .int l4_63), (5, .int l5_63)] []
      unfold f12_joinLines_b63 at h
      refine J_iload (i := 5) (p := 4) C dX12_joinLines_63 rfl rfl ?_
      refine J_aload_n (i := 0) (p := 0) C dX12_joinLines_65 rfl rfl rfl ?_
      refine Jm_getI C fp_RX12_138 rfl rfl dX12_joinLines_66 rfl ?_
      refine J_icmp_ge (t := 91) C dX12_joinLines_69 (by decide) rfl (fun c_2 => ?_) (fun c_2 => ?_)
      · have h := h.pos c_2
        have h := hE_63 l5_63 h.osome
        try dsimp only at h
        exact hj_91 μ_63 l3_63 l4_63 l5_63 h
      · have h := h.neg c_2
        refine J_aload_n (i := 0) (p := 0) C dX12_joinLines_72 rfl rfl rfl ?_
        refine Jm_getS (o2 := 1) (r2 := 2018) C fp_RX12_7 rfl rfl rfl dX12_joinLines_73 rfl ?_
        refine J_iload (i := 5) (p := 4) C dX12_joinLines_76 rfl rfl ?_
        obtain ⟨g_3, h⟩ := Ok.ofgd h
        refine Jm_iald C rfl rfl g_3 dX12_joinLines_78 rfl ?_
        refine J_cS (rest := []) (st9 := fun p_4 => [.int p_4]) C hR hX cs_RX12_276 (k12_isSpace hl  (Ok.ofbnd h)) rfl rfl (Nat.le_of_ble_eq_true rfl) (Nat.le_of_ble_eq_true rfl) (Nat.le_of_ble_eq_true rfl) ⟨(Nat.le_of_ble_eq_true rfl), (Nat.le_of_ble_eq_true rfl)⟩ dX12_joinLines_79 rfl (fun E n9 w9 hx => JT_n hx) (fun _ => rfl) (fun p_4 h => ?_)
        have h : Ok _ _ := h
        change J X K 6 False QQ 0 0 2055 (jw K σ μ_63 o) 82 [(0, .ref (K.2.2 + 2017)), (2, .int l2), (3, .int l3_63), (4, .int l4_63), (5, .int l5_63)] [.int p_4]
        refine J_if_eq (t := 91) C dX12_joinLines_82 (by decide) rfl (fun c_5 => ?_) (fun c_5 => ?_)
        · have h := h.pos c_5
          have h := hE_63 l5_63 h.osome
          try dsimp only at h
          exact hj_91 μ_63 l3_63 l4_63 l5_63 h
        · have h := h.neg c_5
          obtain ⟨x5_2, e_x5_2, h⟩ := Ok.nm h
          refine J_iincE (i := 5) (p := 4) (lv' := [(5, .int x5_2), (0, .ref (K.2.2 + 2017)), (2, .int l2), (3, .int l3_63), (4, .int l4_63)]) C e_x5_2 dX12_joinLines_85 rfl (by decide) (Nat.le_of_ble_eq_true rfl) rfl rfl ?_
          refine J_goto (t := 63) C dX12_joinLines_88 (by decide) ?_
          refine J.sub [1, 2, 3, 4, 0] rfl ?_
          exact hB_63 x5_2 h.osome
    unfold f12_joinLines_b45 at h
    refine J_iload_n (i := 3) (p := 2) C dX12_joinLines_45 rfl rfl rfl ?_
    refine J_iload_n (i := 2) (p := 1) C dX12_joinLines_46 rfl rfl rfl ?_
    refine J_icmp_ge (t := 107) C dX12_joinLines_47 (by decide) rfl (fun c_6 => ?_) (fun c_6 => ?_)
    · have h := h.pos c_6
      have h := hE_45 μ_45 h.osome
      try dsimp only at h
      refine J_aload_n (i := 0) (p := 0) C dX12_joinLines_107 rfl rfl rfl ?_
      refine Jm_cV (rest := []) (st9 := fun p_7 => [.int p_7.1]) C hR hX cv_RX12_244 rfl (Nat.le_of_ble_eq_true rfl) (k12_acts hl  (Ok.ofbnd h)) rfl rfl (Nat.le_of_ble_eq_true rfl) (Nat.le_of_ble_eq_true rfl) (Nat.le_of_ble_eq_true rfl) ⟨(Nat.le_of_ble_eq_true rfl), (Nat.le_of_ble_eq_true rfl)⟩ dX12_joinLines_108 rfl (fun E n9 w9 hx => JT_n hx) (fun _ => rfl) (fun p_7 h => ?_)
      have h : Ok _ _ := h
      change J X K 6 False QQ 0 0 2055 (jw K σ p_7.2 o) 111 [(0, .ref (K.2.2 + 2017)), (2, .int l2), (3, .int l3_45)] [.int p_7.1]
      refine J_if_eq (t := 125) C dX12_joinLines_111 (by decide) rfl (fun c_8 => ?_) (fun c_8 => ?_)
      · have h := h.pos c_8
        refine J_aload_n (i := 0) (p := 0) C dX12_joinLines_125 rfl rfl rfl ?_
        refine J_iconst (v := 3) C (by decide) dX12_joinLines_126 rfl ?_
        refine Jm_cV (rest := []) (st9 := fun p_9 => [.int p_9.1]) C hR hX cv_RX12_206 rfl (Nat.le_of_ble_eq_true rfl) (k12_refuse hl  (Ok.ofbnd h)) rfl rfl (Nat.le_of_ble_eq_true rfl) (Nat.le_of_ble_eq_true rfl) (Nat.le_of_ble_eq_true rfl) ⟨(Nat.le_of_ble_eq_true rfl), (Nat.le_of_ble_eq_true rfl)⟩ dX12_joinLines_127 rfl (fun E n9 w9 hx => JT_n hx) (fun _ => rfl) (fun p_9 h => ?_)
        have h : Ok _ _ := h
        change J X K 6 False QQ 0 0 2055 (jw K σ p_9.2 o) 130 [(0, .ref (K.2.2 + 2017)), (2, .int l2), (3, .int l3_45)] [.int p_9.1]
        refine J.sub [] rfl ?_
        exact hj_130 p_9.2 p_9.1 h
      · have h := h.neg c_8
        refine J_aload_n (i := 0) (p := 0) C dX12_joinLines_114 rfl rfl rfl ?_
        refine J_aload_n (i := 0) (p := 0) C dX12_joinLines_115 rfl rfl rfl ?_
        refine Jm_cV (rest := [.ref (K.2.2 + 2017)]) (st9 := fun p_10 => [.int p_10, .ref (K.2.2 + 2017)]) C hR hX cv_RX12_141 rfl (Nat.le_of_ble_eq_true rfl) (k12_lines hl  (Ok.ofbnd h)) rfl rfl (Nat.le_of_ble_eq_true rfl) (Nat.le_of_ble_eq_true rfl) (Nat.le_of_ble_eq_true rfl) ⟨(Nat.le_of_ble_eq_true rfl), (Nat.le_of_ble_eq_true rfl)⟩ dX12_joinLines_116 rfl (fun E n9 w9 hx => JT_n hx) (fun _ => rfl) (fun p_10 h => ?_)
        have h : Ok _ _ := h
        change J X K 6 False QQ 0 0 2055 (jw K σ p_7.2 o) 119 [(0, .ref (K.2.2 + 2017)), (2, .int l2), (3, .int l3_45)] [.int p_10, .ref (K.2.2 + 2017)]
        refine Jm_cV (rest := []) (st9 := fun p_11 => [.int p_11.1]) C hR hX cv_RX12_209 rfl (Nat.le_of_ble_eq_true rfl) (k12_told hl  (Ok.ofbnd h)) rfl rfl (Nat.le_of_ble_eq_true rfl) (Nat.le_of_ble_eq_true rfl) (Nat.le_of_ble_eq_true rfl) ⟨(Nat.le_of_ble_eq_true rfl), (Nat.le_of_ble_eq_true rfl)⟩ dX12_joinLines_119 rfl (fun E n9 w9 hx => JT_n hx) (fun _ => rfl) (fun p_11 h => ?_)
        have h : Ok _ _ := h
        change J X K 6 False QQ 0 0 2055 (jw K σ p_11.2 o) 122 [(0, .ref (K.2.2 + 2017)), (2, .int l2), (3, .int l3_45)] [.int p_11.1]
        refine J_goto (t := 130) C dX12_joinLines_122 (by decide) ?_
        refine J.sub [] rfl ?_
        exact hj_130 p_11.2 p_11.1 h
    · have h := h.neg c_6
      refine J_aload_n (i := 0) (p := 0) C dX12_joinLines_50 rfl rfl rfl ?_
      refine J_iload_n (i := 3) (p := 2) C dX12_joinLines_51 rfl rfl rfl ?_
      refine Jm_cV (rest := []) (st9 := fun p_12 => [.int p_12]) C hR hX cv_RX12_228 rfl (Nat.le_of_ble_eq_true rfl) (k12_endOf hl  (Ok.ofbnd h)) rfl rfl (Nat.le_of_ble_eq_true rfl) (Nat.le_of_ble_eq_true rfl) (Nat.le_of_ble_eq_true rfl) ⟨(Nat.le_of_ble_eq_true rfl), (Nat.le_of_ble_eq_true rfl)⟩ dX12_joinLines_52 rfl (fun E n9 w9 hx => JT_n hx) (fun _ => rfl) (fun p_12 h => ?_)
      have h : Ok _ _ := h
      change J X K 6 False QQ 0 0 2055 (jw K σ μ_45 o) 55 [(0, .ref (K.2.2 + 2017)), (2, .int l2), (3, .int l3_45)] [.int p_12]
      obtain ⟨x4_3, e_x4_3, h⟩ := Ok.nm h
      refine J_istoreE (i := 4) (lv' := [(4, .int x4_3), (0, .ref (K.2.2 + 2017)), (2, .int l2), (3, .int l3_45)]) C e_x4_3 dX12_joinLines_55 (Nat.le_of_ble_eq_true rfl) rfl rfl ?_
      refine J_iload (i := 4) (p := 0) C dX12_joinLines_57 rfl rfl ?_
      refine J_iconst (v := 1) C (by decide) dX12_joinLines_59 rfl ?_
      refine J_iadd C dX12_joinLines_60 rfl ?_
      obtain ⟨x5_4, e_x5_4, h⟩ := Ok.nm h
      refine J_istoreE (i := 5) (lv' := [(5, .int x5_4), (4, .int x4_3), (0, .ref (K.2.2 + 2017)), (2, .int l2), (3, .int l3_45)]) C e_x5_4 dX12_joinLines_61 (Nat.le_of_ble_eq_true rfl) rfl rfl ?_
      refine J.sub [2, 3, 4, 1, 0] rfl ?_
      exact hj_63 μ_45 l3_45 x4_3 x5_4 h
  have hj_16 : (∀ (μ_16 : Sto), Ok (f12_joinLines_j16 l1 l2 μ_16) Qf → J X K 6 False QQ 0 0 2055 (jw K σ μ_16 o) 16 [(0, .ref (K.2.2 + 2017))] []) := by
    intro μ_16 h
    unfold f12_joinLines_j16 at h
    refine J_aload_n (i := 0) (p := 0) C dX12_joinLines_16 rfl rfl rfl ?_
    refine J_iconst (v := 1) C (by decide) dX12_joinLines_17 rfl ?_
    refine Jm_cV (rest := []) (st9 := fun p_18 => [.int p_18.1]) C hR hX cv_RX12_206 rfl (Nat.le_of_ble_eq_true rfl) (k12_refuse hl  (Ok.ofbnd h)) rfl rfl (Nat.le_of_ble_eq_true rfl) (Nat.le_of_ble_eq_true rfl) (Nat.le_of_ble_eq_true rfl) ⟨(Nat.le_of_ble_eq_true rfl), (Nat.le_of_ble_eq_true rfl)⟩ dX12_joinLines_18 rfl (fun E n9 w9 hx => JT_n hx) (fun _ => rfl) (fun p_18 h => ?_)
    have h : Ok _ _ := h
    change J X K 6 False QQ 0 0 2055 (jw K σ p_18.2 o) 21 [(0, .ref (K.2.2 + 2017))] [.int p_18.1]
    rw [← hQQ]
    exact J_iret C hret (Nat.le_of_ble_eq_true rfl) (Nat.le_of_ble_eq_true rfl) ⟨_, h.osome, rfl, rfl, rfl⟩ dX12_joinLines_21
  unfold f12_joinLines at h
  refine J_aload_n (i := 0) (p := 0) C dX12_joinLines_0 rfl rfl rfl ?_
  refine J_iload_n (i := 1) (p := 1) C dX12_joinLines_1 rfl rfl rfl ?_
  refine Jm_cV (rest := []) (st9 := fun p_19 => [.int p_19]) C hR hX cv_RX12_225 rfl (Nat.le_of_ble_eq_true rfl) (k12_isLine hl  (Ok.ofbnd h)) rfl rfl (Nat.le_of_ble_eq_true rfl) (Nat.le_of_ble_eq_true rfl) (Nat.le_of_ble_eq_true rfl) ⟨(Nat.le_of_ble_eq_true rfl), (Nat.le_of_ble_eq_true rfl)⟩ dX12_joinLines_2 rfl (fun E n9 w9 hx => JT_n hx) (fun _ => rfl) (fun p_19 h => ?_)
  have h : Ok _ _ := h
  change J X K 6 False QQ 0 0 2055 (jw K σ μ o) 5 [(0, .ref (K.2.2 + 2017)), (1, .int l1), (2, .int l2)] [.int p_19]
  refine J_if_eq (t := 16) C dX12_joinLines_5 (by decide) rfl (fun c_20 => ?_) (fun c_20 => ?_)
  · have h := h.pos c_20
    refine J.sub [0] rfl ?_
    exact hj_16 μ h
  · have h := h.neg c_20
    refine J_aload_n (i := 0) (p := 0) C dX12_joinLines_8 rfl rfl rfl ?_
    refine J_iload_n (i := 2) (p := 2) C dX12_joinLines_9 rfl rfl rfl ?_
    refine Jm_cV (rest := []) (st9 := fun p_21 => [.int p_21]) C hR hX cv_RX12_225 rfl (Nat.le_of_ble_eq_true rfl) (k12_isLine hl  (Ok.ofbnd h)) rfl rfl (Nat.le_of_ble_eq_true rfl) (Nat.le_of_ble_eq_true rfl) (Nat.le_of_ble_eq_true rfl) ⟨(Nat.le_of_ble_eq_true rfl), (Nat.le_of_ble_eq_true rfl)⟩ dX12_joinLines_10 rfl (fun E n9 w9 hx => JT_n hx) (fun _ => rfl) (fun p_21 h => ?_)
    have h : Ok _ _ := h
    change J X K 6 False QQ 0 0 2055 (jw K σ μ o) 13 [(0, .ref (K.2.2 + 2017)), (1, .int l1), (2, .int l2)] [.int p_21]
    refine J_if_ne (t := 22) C dX12_joinLines_13 (by decide) rfl (fun c_22 => ?_) (fun c_22 => ?_)
    · have h := h.neg c_22
      refine J_iload_n (i := 1) (p := 1) C dX12_joinLines_22 rfl rfl rfl ?_
      refine J_iload_n (i := 2) (p := 2) C dX12_joinLines_23 rfl rfl rfl ?_
      refine J_icmp_le (t := 33) C dX12_joinLines_24 (by decide) rfl (fun c_23 => ?_) (fun c_23 => ?_)
      · have h := h.pos c_23
        refine J_aload_n (i := 0) (p := 0) C dX12_joinLines_33 rfl rfl rfl ?_
        refine Jm_cV (rest := []) (st9 := fun p_24 => []) C hR hX cv_RX12_234 rfl (Nat.le_of_ble_eq_true rfl) (k12_begins hl  (Ok.ofbnd h)) rfl rfl (Nat.le_of_ble_eq_true rfl) (Nat.le_of_ble_eq_true rfl) (Nat.le_of_ble_eq_true rfl) ⟨(Nat.le_of_ble_eq_true rfl), (Nat.le_of_ble_eq_true rfl)⟩ dX12_joinLines_34 rfl (fun E n9 w9 hx => JT_n hx) (fun _ => rfl) (fun p_24 h => ?_)
        have h : Ok _ _ := h
        change J X K 6 False QQ 0 0 2055 (jw K σ p_24 o) 37 [(0, .ref (K.2.2 + 2017)), (1, .int l1), (2, .int l2)] []
        refine J_aload_n (i := 0) (p := 0) C dX12_joinLines_37 rfl rfl rfl ?_
        refine J_bipush (v := 32) C (by decide) dX12_joinLines_38 rfl ?_
        refine Jm_cV (rest := []) (st9 := fun p_25 => []) C hR hX cv_RX12_164 rfl (Nat.le_of_ble_eq_true rfl) (k12_puts hl  (Ok.ofbnd h)) rfl rfl (Nat.le_of_ble_eq_true rfl) (Nat.le_of_ble_eq_true rfl) (Nat.le_of_ble_eq_true rfl) ⟨(Nat.le_of_ble_eq_true rfl), (Nat.le_of_ble_eq_true rfl)⟩ dX12_joinLines_40 rfl (fun E n9 w9 hx => JT_n hx) (fun _ => rfl) (fun p_25 h => ?_)
        have h : Ok _ _ := h
        change J X K 6 False QQ 0 0 2055 (jw K σ p_25 o) 43 [(0, .ref (K.2.2 + 2017)), (1, .int l1), (2, .int l2)] []
        refine J_iload_n (i := 1) (p := 1) C dX12_joinLines_43 rfl rfl rfl ?_
        obtain ⟨x3_5, e_x3_5, h⟩ := Ok.nm h
        refine J_istoreE_n (i := 3) (lv' := [(3, .int x3_5), (0, .ref (K.2.2 + 2017)), (1, .int l1), (2, .int l2)]) C e_x3_5 dX12_joinLines_44 rfl (Nat.le_of_ble_eq_true rfl) rfl rfl ?_
        refine J.sub [1, 3, 0] rfl ?_
        exact hj_45 p_25 x3_5 h
      · have h := h.neg c_23
        refine J_aload_n (i := 0) (p := 0) C dX12_joinLines_27 rfl rfl rfl ?_
        refine J_iconst (v := 2) C (by decide) dX12_joinLines_28 rfl ?_
        refine Jm_cV (rest := []) (st9 := fun p_26 => [.int p_26.1]) C hR hX cv_RX12_206 rfl (Nat.le_of_ble_eq_true rfl) (k12_refuse hl  (Ok.ofbnd h)) rfl rfl (Nat.le_of_ble_eq_true rfl) (Nat.le_of_ble_eq_true rfl) (Nat.le_of_ble_eq_true rfl) ⟨(Nat.le_of_ble_eq_true rfl), (Nat.le_of_ble_eq_true rfl)⟩ dX12_joinLines_29 rfl (fun E n9 w9 hx => JT_n hx) (fun _ => rfl) (fun p_26 h => ?_)
        have h : Ok _ _ := h
        change J X K 6 False QQ 0 0 2055 (jw K σ p_26.2 o) 32 [(0, .ref (K.2.2 + 2017)), (1, .int l1), (2, .int l2)] [.int p_26.1]
        rw [← hQQ]
        exact J_iret C hret (Nat.le_of_ble_eq_true rfl) (Nat.le_of_ble_eq_true rfl) ⟨_, h.osome, rfl, rfl, rfl⟩ dX12_joinLines_32
    · have h := h.pos (Decidable.not_not.mp c_22)
      refine J.sub [0] rfl ?_
      exact hj_16 μ h
def f12_isFind_j107 (l1 : Int32) (μ : Sto) (s0_107 : Int32) : Option (Int32) :=
  gd (isB s0_107) <|
  some s0_107
def f12_isFind_j106 (l1 : Int32) (μ : Sto) : Option (Int32) :=
  f12_isFind_j107 l1 μ (0 : Int32)
def f12_isFind_j102 (l1 : Int32) (μ : Sto) : Option (Int32) :=
  f12_isFind_j107 l1 μ (1 : Int32)
def f12_isFind_j82 (l1 : Int32) (μ : Sto) (l2_82 : Int32) : Option (Int32) :=
  if l2_82 = (fI μ 2017 5) then
    f12_isFind_j102 l1 μ
  else
    gd (inb l2_82 3000) <|
    bnd (f12_isOfWord (aI μ 2018 (Int32.toNatClampNeg l2_82))) fun p_4 =>
    if p_4 = 0 then
      f12_isFind_j102 l1 μ
    else
      f12_isFind_j106 l1 μ
def f12_isFind_b17 (l1 : Int32) (μ : Sto) (l2_17 : Int32) : Option (Int32 ⊕ (Unit ⊕ Unit)) :=
  if (fI μ 2017 15) ≤ l2_17 then
    some (.inr (Sum.inl ()))
  else
    gd (inb (l1 + l2_17) 3000) <|
    gd (inb l2_17 40) <|
    if (aI μ 2018 (Int32.toNatClampNeg (l1 + l2_17))) = (aI μ 2025 (Int32.toNatClampNeg l2_17)) then
      stp (l2_17 + (1 : Int32)) fun x2_2 =>
      some (.inl x2_2)
    else
      some (.inr (Sum.inr ()))
def f12_isFind_j17 (l1 : Int32) (μ : Sto) (l2_17 : Int32) : Option (Int32) :=
  bnd (loopF (fun s_17 => f12_isFind_b17 l1 μ s_17) FU l2_17) fun r_17 =>
    match r_17 with
    | .inl r_17x =>
      stp (l1 + (fI μ 2017 15)) fun x2_3 =>
      if (fI μ 2017 19) = 0 then
        f12_isFind_j102 l1 μ
      else
        if l1 = 0 then
          f12_isFind_j82 l1 μ x2_3
        else
          gd (inb (l1 - (1 : Int32)) 3000) <|
          bnd (f12_isOfWord (aI μ 2018 (Int32.toNatClampNeg (l1 - (1 : Int32))))) fun p_18 =>
          if p_18 = 0 then
            f12_isFind_j82 l1 μ x2_3
          else
            f12_isFind_j106 l1 μ
    | .inr r_17y =>
      some (0 : Int32)
def f12_isFind (μ : Sto) (l1 : Int32) : Option (Int32) :=
  if (l1 + (fI μ 2017 15)) ≤ (fI μ 2017 5) then
    stp (0 : Int32) fun x2_4 =>
    f12_isFind_j17 l1 μ x2_4
  else
    some (0 : Int32)
set_option maxHeartbeats 4000000 in
set_option maxRecDepth 100000 in
theorem k12_isFind {l : Launch} {K : JK} (hl : l.stackTraces = false) {σ μ : Sto} {o : Int64} {l1 : Int32}  {Qf : Int32 → Prop} (h : Ok (f12_isFind μ l1) Qf) : Con l K yX12_isFind (.code yX12_isFind cX12_isFind 3 (some .boolean) :: TB) 2 0 0 False [.ref (K.2.2 + 2017), .int l1] 2055 (jw K σ μ o) (PR Qf (fun p => some (.int p)) (fun p => jw K σ μ o)) PN := by
  refine Con.enter (own := RX12) hl (by decide) rfl (Nat.le_of_ble_eq_true rfl) ?_
  intro X hX hR C hret hnt
  generalize hQQ : jQ X K 0 0 (PR Qf (fun p => some (.int p)) (fun p => jw K σ μ o)) PN False = QQ
  change J X K 3 False QQ 0 0 2055 (jw K σ μ o) 0 [(0, .ref (K.2.2 + 2017)), (1, .int l1)] []
  have hj_107 : (∀ (s0_107 : Int32), Ok (f12_isFind_j107 l1 μ s0_107) Qf → J X K 3 False QQ 0 0 2055 (jw K σ μ o) 107 [] [.int s0_107]) := by
    intro s0_107 h
    unfold f12_isFind_j107 at h
    obtain ⟨g_1, h⟩ := Ok.ofgd h
    rw [← hQQ]
    exact J_zret C hret (narB g_1).1 (Nat.le_of_ble_eq_true rfl) (Nat.le_of_ble_eq_true rfl) ⟨_, h.osome, rfl, rfl, rfl⟩ dX12_isFind_107
  have hj_106 : (Ok (f12_isFind_j106 l1 μ) Qf → J X K 3 False QQ 0 0 2055 (jw K σ μ o) 106 [] []) := by
    intro h
    unfold f12_isFind_j106 at h
    refine J_iconst (v := 0) C (by decide) dX12_isFind_106 rfl ?_
    exact hj_107 (0 : Int32) h
  have hj_102 : (Ok (f12_isFind_j102 l1 μ) Qf → J X K 3 False QQ 0 0 2055 (jw K σ μ o) 102 [] []) := by
    intro h
    unfold f12_isFind_j102 at h
    refine J_iconst (v := 1) C (by decide) dX12_isFind_102 rfl ?_
    refine J_goto (t := 107) C dX12_isFind_103 (by decide) ?_
    exact hj_107 (1 : Int32) h
  have hj_82 : (∀ (l2_82 : Int32), Ok (f12_isFind_j82 l1 μ l2_82) Qf → J X K 3 False QQ 0 0 2055 (jw K σ μ o) 82 [(0, .ref (K.2.2 + 2017)), (2, .int l2_82)] []) := by
    intro l2_82 h
    unfold f12_isFind_j82 at h
    refine J_iload_n (i := 2) (p := 1) C dX12_isFind_82 rfl rfl rfl ?_
    refine J_aload_n (i := 0) (p := 0) C dX12_isFind_83 rfl rfl rfl ?_
    refine Jm_getI C fp_RX12_138 rfl rfl dX12_isFind_84 rfl ?_
    refine J_icmp_eq (t := 102) C dX12_isFind_87 (by decide) rfl (fun c_2 => ?_) (fun c_2 => ?_)
    · have h := h.pos c_2
      refine J.sub [] rfl ?_
      exact hj_102  h
    · have h := h.neg c_2
      refine J_aload_n (i := 0) (p := 0) C dX12_isFind_90 rfl rfl rfl ?_
      refine Jm_getS (o2 := 1) (r2 := 2018) C fp_RX12_7 rfl rfl rfl dX12_isFind_91 rfl ?_
      refine J_iload_n (i := 2) (p := 1) C dX12_isFind_94 rfl rfl rfl ?_
      obtain ⟨g_3, h⟩ := Ok.ofgd h
      refine Jm_iald C rfl rfl g_3 dX12_isFind_95 rfl ?_
      refine J_cS (rest := []) (st9 := fun p_4 => [.int p_4]) C hR hX cs_RX12_285 (k12_isOfWord hl  (Ok.ofbnd h)) rfl rfl (Nat.le_of_ble_eq_true rfl) (Nat.le_of_ble_eq_true rfl) (Nat.le_of_ble_eq_true rfl) ⟨(Nat.le_of_ble_eq_true rfl), (Nat.le_of_ble_eq_true rfl)⟩ dX12_isFind_96 rfl (fun E n9 w9 hx => JT_n hx) (fun _ => rfl) (fun p_4 h => ?_)
      have h : Ok _ _ := h
      change J X K 3 False QQ 0 0 2055 (jw K σ μ o) 99 [(0, .ref (K.2.2 + 2017)), (2, .int l2_82)] [.int p_4]
      refine J_if_ne (t := 106) C dX12_isFind_99 (by decide) rfl (fun c_5 => ?_) (fun c_5 => ?_)
      · have h := h.neg c_5
        refine J.sub [] rfl ?_
        exact hj_106  h
      · have h := h.pos (Decidable.not_not.mp c_5)
        refine J.sub [] rfl ?_
        exact hj_102  h
  have hj_17 : (∀ (l2_17 : Int32), Ok (f12_isFind_j17 l1 μ l2_17) Qf → J X K 3 False QQ 0 0 2055 (jw K σ μ o) 17 [(0, .ref (K.2.2 + 2017)), (1, .int l1), (2, .int l2_17)] []) := by
    intro l2_17 h
    unfold f12_isFind_j17 at h
    refine loop_gen (S := Int32) (P := fun s_17 => J X K 3 False QQ 0 0 2055 (jw K σ μ o) 17 [(0, .ref (K.2.2 + 2017)), (1, .int l1), (2, .int s_17)] []) ?_ FU l2_17 (Ok.ofbnd h)
    intro B_17 hB_17 hE_17 s_17 h
    generalize s_17 = l2_17 at h ⊢
    have h : Ok (f12_isFind_b17 l1 μ l2_17) B_17 := h
    change J X K 3 False QQ 0 0 2055 (jw K σ μ o) 17 [(0, .ref (K.2.2 + 2017)), (1, .int l1), (2, .int l2_17)] []
    unfold f12_isFind_b17 at h
    refine J_iload_n (i := 2) (p := 2) C dX12_isFind_17 rfl rfl rfl ?_
    refine J_aload_n (i := 0) (p := 0) C dX12_isFind_18 rfl rfl rfl ?_
    refine Jm_getI C fp_RX12_279 rfl rfl dX12_isFind_19 rfl ?_
    refine J_icmp_ge (t := 50) C dX12_isFind_22 (by decide) rfl (fun c_6 => ?_) (fun c_6 => ?_)
    · have h := h.pos c_6
      have h := hE_17 (Sum.inl ()) h.osome
      try dsimp only at h
      refine J_iload_n (i := 1) (p := 1) C dX12_isFind_50 rfl rfl rfl ?_
      refine J_aload_n (i := 0) (p := 0) C dX12_isFind_51 rfl rfl rfl ?_
      refine Jm_getI C fp_RX12_279 rfl rfl dX12_isFind_52 rfl ?_
      refine J_iadd C dX12_isFind_55 rfl ?_
      obtain ⟨x2_1, e_x2_1, h⟩ := Ok.nm h
      refine J_istoreE_n (i := 2) (lv' := [(2, .int x2_1), (0, .ref (K.2.2 + 2017)), (1, .int l1)]) C e_x2_1 dX12_isFind_56 rfl (Nat.le_of_ble_eq_true rfl) rfl rfl ?_
      refine J_aload_n (i := 0) (p := 1) C dX12_isFind_57 rfl rfl rfl ?_
      refine Jm_getI C fp_RX12_282 rfl rfl dX12_isFind_58 rfl ?_
      refine J_if_eq (t := 102) C dX12_isFind_61 (by decide) rfl (fun c_7 => ?_) (fun c_7 => ?_)
      · have h := h.pos c_7
        refine J.sub [] rfl ?_
        exact hj_102  h
      · have h := h.neg c_7
        refine J_iload_n (i := 1) (p := 2) C dX12_isFind_64 rfl rfl rfl ?_
        refine J_if_eq (t := 82) C dX12_isFind_65 (by decide) rfl (fun c_8 => ?_) (fun c_8 => ?_)
        · have h := h.pos c_8
          refine J.sub [1, 0] rfl ?_
          exact hj_82 x2_1 h
        · have h := h.neg c_8
          refine J_aload_n (i := 0) (p := 1) C dX12_isFind_68 rfl rfl rfl ?_
          refine Jm_getS (o2 := 1) (r2 := 2018) C fp_RX12_7 rfl rfl rfl dX12_isFind_69 rfl ?_
          refine J_iload_n (i := 1) (p := 2) C dX12_isFind_72 rfl rfl rfl ?_
          refine J_iconst (v := 1) C (by decide) dX12_isFind_73 rfl ?_
          refine J_isub C dX12_isFind_74 rfl ?_
          obtain ⟨g_9, h⟩ := Ok.ofgd h
          refine Jm_iald C rfl rfl g_9 dX12_isFind_75 rfl ?_
          refine J_cS (rest := []) (st9 := fun p_10 => [.int p_10]) C hR hX cs_RX12_285 (k12_isOfWord hl  (Ok.ofbnd h)) rfl rfl (Nat.le_of_ble_eq_true rfl) (Nat.le_of_ble_eq_true rfl) (Nat.le_of_ble_eq_true rfl) ⟨(Nat.le_of_ble_eq_true rfl), (Nat.le_of_ble_eq_true rfl)⟩ dX12_isFind_76 rfl (fun E n9 w9 hx => JT_n hx) (fun _ => rfl) (fun p_10 h => ?_)
          have h : Ok _ _ := h
          change J X K 3 False QQ 0 0 2055 (jw K σ μ o) 79 [(2, .int x2_1), (0, .ref (K.2.2 + 2017)), (1, .int l1)] [.int p_10]
          refine J_if_ne (t := 106) C dX12_isFind_79 (by decide) rfl (fun c_11 => ?_) (fun c_11 => ?_)
          · have h := h.neg c_11
            refine J.sub [] rfl ?_
            exact hj_106  h
          · have h := h.pos (Decidable.not_not.mp c_11)
            refine J.sub [1, 0] rfl ?_
            exact hj_82 x2_1 h
    · have h := h.neg c_6
      refine J_aload_n (i := 0) (p := 0) C dX12_isFind_25 rfl rfl rfl ?_
      refine Jm_getS (o2 := 1) (r2 := 2018) C fp_RX12_7 rfl rfl rfl dX12_isFind_26 rfl ?_
      refine J_iload_n (i := 1) (p := 1) C dX12_isFind_29 rfl rfl rfl ?_
      refine J_iload_n (i := 2) (p := 2) C dX12_isFind_30 rfl rfl rfl ?_
      refine J_iadd C dX12_isFind_31 rfl ?_
      obtain ⟨g_12, h⟩ := Ok.ofgd h
      refine Jm_iald C rfl rfl g_12 dX12_isFind_32 rfl ?_
      refine J_aload_n (i := 0) (p := 0) C dX12_isFind_33 rfl rfl rfl ?_
      refine Jm_getS (o2 := 8) (r2 := 2025) C fp_RX12_36 rfl rfl rfl dX12_isFind_34 rfl ?_
      refine J_iload_n (i := 2) (p := 2) C dX12_isFind_37 rfl rfl rfl ?_
      obtain ⟨g_13, h⟩ := Ok.ofgd h
      refine Jm_iald C rfl rfl g_13 dX12_isFind_38 rfl ?_
      refine J_icmp_eq (t := 44) C dX12_isFind_39 (by decide) rfl (fun c_14 => ?_) (fun c_14 => ?_)
      · have h := h.pos c_14
        obtain ⟨x2_2, e_x2_2, h⟩ := Ok.nm h
        refine J_iincE (i := 2) (p := 2) (lv' := [(2, .int x2_2), (0, .ref (K.2.2 + 2017)), (1, .int l1)]) C e_x2_2 dX12_isFind_44 rfl (by decide) (Nat.le_of_ble_eq_true rfl) rfl rfl ?_
        refine J_goto (t := 17) C dX12_isFind_47 (by decide) ?_
        refine J.sub [1, 2, 0] rfl ?_
        exact hB_17 x2_2 h.osome
      · have h := h.neg c_14
        have h := hE_17 (Sum.inr ()) h.osome
        try dsimp only at h
        refine J_iconst (v := 0) C (by decide) dX12_isFind_42 rfl ?_
        rw [← hQQ]
        exact J_zret C hret rfl (Nat.le_of_ble_eq_true rfl) (Nat.le_of_ble_eq_true rfl) ⟨_, h.osome, rfl, rfl, rfl⟩ dX12_isFind_43
  unfold f12_isFind at h
  refine J_iload_n (i := 1) (p := 1) C dX12_isFind_0 rfl rfl rfl ?_
  refine J_aload_n (i := 0) (p := 0) C dX12_isFind_1 rfl rfl rfl ?_
  refine Jm_getI C fp_RX12_279 rfl rfl dX12_isFind_2 rfl ?_
  refine J_iadd C dX12_isFind_5 rfl ?_
  refine J_aload_n (i := 0) (p := 0) C dX12_isFind_6 rfl rfl rfl ?_
  refine Jm_getI C fp_RX12_138 rfl rfl dX12_isFind_7 rfl ?_
  refine J_icmp_le (t := 15) C dX12_isFind_10 (by decide) rfl (fun c_20 => ?_) (fun c_20 => ?_)
  · have h := h.pos c_20
    refine J_iconst (v := 0) C (by decide) dX12_isFind_15 rfl ?_
    obtain ⟨x2_4, e_x2_4, h⟩ := Ok.nm h
    refine J_istoreE_n (i := 2) (lv' := [(2, .int x2_4), (0, .ref (K.2.2 + 2017)), (1, .int l1)]) C e_x2_4 dX12_isFind_16 rfl (Nat.le_of_ble_eq_true rfl) rfl rfl ?_
    refine J.sub [1, 2, 0] rfl ?_
    exact hj_17 x2_4 h
  · have h := h.neg c_20
    refine J_iconst (v := 0) C (by decide) dX12_isFind_13 rfl ?_
    rw [← hQQ]
    exact J_zret C hret rfl (Nat.le_of_ble_eq_true rfl) (Nat.le_of_ble_eq_true rfl) ⟨_, h.osome, rfl, rfl, rfl⟩ dX12_isFind_14
def f12_findFrom_j37 (l1 : Int32) (μ : Sto) (s0_37 : Int32) : Option (Int32) :=
  some s0_37
def f12_findFrom_j24 (l1 : Int32) (μ : Sto) (l2_24 : Int32) : Option (Int32) :=
  if (fI μ 2017 5) ≤ l2_24 then
    f12_findFrom_j37 l1 μ (-1 : Int32)
  else
    f12_findFrom_j37 l1 μ l2_24
def f12_findFrom_b2 (l1 : Int32) (μ : Sto) (l2_2 : Int32) : Option (Int32 ⊕ Int32) :=
  if (fI μ 2017 5) ≤ l2_2 then
    some (.inr l2_2)
  else
    bnd (f12_isFind μ l2_2) fun p_3 =>
    if p_3 = 0 then
      stp (l2_2 + (1 : Int32)) fun x2_1 =>
      some (.inl x2_1)
    else
      some (.inr l2_2)
def f12_findFrom_j2 (l1 : Int32) (μ : Sto) (l2_2 : Int32) : Option (Int32) :=
  bnd (loopF (fun s_2 => f12_findFrom_b2 l1 μ s_2) FU l2_2) fun r_2 =>
    f12_findFrom_j24 l1 μ r_2
def f12_findFrom (μ : Sto) (l1 : Int32) : Option (Int32) :=
  stp l1 fun x2_2 =>
  f12_findFrom_j2 l1 μ x2_2
set_option maxHeartbeats 4000000 in
set_option maxRecDepth 100000 in
theorem k12_findFrom {l : Launch} {K : JK} (hl : l.stackTraces = false) {σ μ : Sto} {o : Int64} {l1 : Int32}  {Qf : Int32 → Prop} (h : Ok (f12_findFrom μ l1) Qf) : Con l K yX12_findFrom (.code yX12_findFrom cX12_findFrom 3 (some .int) :: TB) 3 0 0 False [.ref (K.2.2 + 2017), .int l1] 2055 (jw K σ μ o) (PR Qf (fun p => some (.int p)) (fun p => jw K σ μ o)) PN := by
  refine Con.enter (own := RX12) hl (by decide) rfl (Nat.le_of_ble_eq_true rfl) ?_
  intro X hX hR C hret hnt
  generalize hQQ : jQ X K 0 0 (PR Qf (fun p => some (.int p)) (fun p => jw K σ μ o)) PN False = QQ
  change J X K 3 False QQ 0 0 2055 (jw K σ μ o) 0 [(0, .ref (K.2.2 + 2017)), (1, .int l1)] []
  have hj_37 : (∀ (s0_37 : Int32), Ok (f12_findFrom_j37 l1 μ s0_37) Qf → J X K 3 False QQ 0 0 2055 (jw K σ μ o) 37 [] [.int s0_37]) := by
    intro s0_37 h
    unfold f12_findFrom_j37 at h
    rw [← hQQ]
    exact J_iret C hret (Nat.le_of_ble_eq_true rfl) (Nat.le_of_ble_eq_true rfl) ⟨_, h.osome, rfl, rfl, rfl⟩ dX12_findFrom_37
  have hj_24 : (∀ (l2_24 : Int32), Ok (f12_findFrom_j24 l1 μ l2_24) Qf → J X K 3 False QQ 0 0 2055 (jw K σ μ o) 24 [(0, .ref (K.2.2 + 2017)), (2, .int l2_24)] []) := by
    intro l2_24 h
    unfold f12_findFrom_j24 at h
    refine J_iload_n (i := 2) (p := 1) C dX12_findFrom_24 rfl rfl rfl ?_
    refine J_aload_n (i := 0) (p := 0) C dX12_findFrom_25 rfl rfl rfl ?_
    refine Jm_getI C fp_RX12_138 rfl rfl dX12_findFrom_26 rfl ?_
    refine J_icmp_ge (t := 36) C dX12_findFrom_29 (by decide) rfl (fun c_1 => ?_) (fun c_1 => ?_)
    · have h := h.pos c_1
      refine J_iconst (v := -1) C (by decide) dX12_findFrom_36 rfl ?_
      refine J.sub [] rfl ?_
      exact hj_37 (-1 : Int32) h
    · have h := h.neg c_1
      refine J_iload_n (i := 2) (p := 1) C dX12_findFrom_32 rfl rfl rfl ?_
      refine J_goto (t := 37) C dX12_findFrom_33 (by decide) ?_
      refine J.sub [] rfl ?_
      exact hj_37 l2_24 h
  have hj_2 : (∀ (l2_2 : Int32), Ok (f12_findFrom_j2 l1 μ l2_2) Qf → J X K 3 False QQ 0 0 2055 (jw K σ μ o) 2 [(0, .ref (K.2.2 + 2017)), (2, .int l2_2)] []) := by
    intro l2_2 h
    unfold f12_findFrom_j2 at h
    refine loop_gen (S := Int32) (P := fun s_2 => J X K 3 False QQ 0 0 2055 (jw K σ μ o) 2 [(0, .ref (K.2.2 + 2017)), (2, .int s_2)] []) ?_ FU l2_2 (Ok.ofbnd h)
    intro B_2 hB_2 hE_2 s_2 h
    generalize s_2 = l2_2 at h ⊢
    have h : Ok (f12_findFrom_b2 l1 μ l2_2) B_2 := h
    change J X K 3 False QQ 0 0 2055 (jw K σ μ o) 2 [(0, .ref (K.2.2 + 2017)), (2, .int l2_2)] []
    unfold f12_findFrom_b2 at h
    refine J_iload_n (i := 2) (p := 1) C dX12_findFrom_2 rfl rfl rfl ?_
    refine J_aload_n (i := 0) (p := 0) C dX12_findFrom_3 rfl rfl rfl ?_
    refine Jm_getI C fp_RX12_138 rfl rfl dX12_findFrom_4 rfl ?_
    refine J_icmp_ge (t := 24) C dX12_findFrom_7 (by decide) rfl (fun c_2 => ?_) (fun c_2 => ?_)
    · have h := h.pos c_2
      have h := hE_2 l2_2 h.osome
      try dsimp only at h
      exact hj_24 l2_2 h
    · have h := h.neg c_2
      refine J_aload_n (i := 0) (p := 0) C dX12_findFrom_10 rfl rfl rfl ?_
      refine J_iload_n (i := 2) (p := 1) C dX12_findFrom_11 rfl rfl rfl ?_
      refine Jm_cV (rest := []) (st9 := fun p_3 => [.int p_3]) C hR hX cv_RX12_288 rfl (Nat.le_of_ble_eq_true rfl) (k12_isFind hl  (Ok.ofbnd h)) rfl rfl (Nat.le_of_ble_eq_true rfl) (Nat.le_of_ble_eq_true rfl) (Nat.le_of_ble_eq_true rfl) ⟨(Nat.le_of_ble_eq_true rfl), (Nat.le_of_ble_eq_true rfl)⟩ dX12_findFrom_12 rfl (fun E n9 w9 hx => JT_n hx) (fun _ => rfl) (fun p_3 h => ?_)
      have h : Ok _ _ := h
      change J X K 3 False QQ 0 0 2055 (jw K σ μ o) 15 [(0, .ref (K.2.2 + 2017)), (2, .int l2_2)] [.int p_3]
      refine J_if_ne (t := 24) C dX12_findFrom_15 (by decide) rfl (fun c_4 => ?_) (fun c_4 => ?_)
      · have h := h.neg c_4
        have h := hE_2 l2_2 h.osome
        try dsimp only at h
        exact hj_24 l2_2 h
      · have h := h.pos (Decidable.not_not.mp c_4)
        obtain ⟨x2_1, e_x2_1, h⟩ := Ok.nm h
        refine J_iincE (i := 2) (p := 1) (lv' := [(2, .int x2_1), (0, .ref (K.2.2 + 2017))]) C e_x2_1 dX12_findFrom_18 rfl (by decide) (Nat.le_of_ble_eq_true rfl) rfl rfl ?_
        refine J_goto (t := 2) C dX12_findFrom_21 (by decide) ?_
        refine J.sub [1, 0] rfl ?_
        exact hB_2 x2_1 h.osome
  unfold f12_findFrom at h
  refine J_iload_n (i := 1) (p := 1) C dX12_findFrom_0 rfl rfl rfl ?_
  obtain ⟨x2_2, e_x2_2, h⟩ := Ok.nm h
  refine J_istoreE_n (i := 2) (lv' := [(2, .int x2_2), (0, .ref (K.2.2 + 2017)), (1, .int l1)]) C e_x2_2 dX12_findFrom_1 rfl (Nat.le_of_ble_eq_true rfl) rfl rfl ?_
  refine J.sub [1, 0] rfl ?_
  exact hj_2 x2_2 h
def f12_setPattern_j86 (l1 : Int32) (μ_64 : Sto) (l3_86 : Int32) (s0_86 : Int32) (s1_86 : Int32) : Option ((Int32 × Int32) ⊕ Int32) :=
  stp (s0_86 + s1_86) fun x2_1 =>
  stp (l3_86 + (1 : Int32)) fun x3_2 =>
  some (.inl (x2_1, x3_2))
def f12_setPattern_b64 (l1 : Int32) (μ_64 : Sto) (l2_64 : Int32) (l3_64 : Int32) : Option ((Int32 × Int32) ⊕ Int32) :=
  if (fI μ_64 2017 5) ≤ l3_64 then
    some (.inr l2_64)
  else
    bnd (f12_isFind μ_64 l3_64) fun p_3 =>
    if p_3 = 0 then
      f12_setPattern_j86 l1 μ_64 l3_64 l2_64 (0 : Int32)
    else
      f12_setPattern_j86 l1 μ_64 l3_64 l2_64 (1 : Int32)
def f12_setPattern_j64 (l1 : Int32) (μ_64 : Sto) (l2_64 : Int32) (l3_64 : Int32) : Option (Int32 × Sto) :=
  bnd (loopF (fun s_64 => f12_setPattern_b64 l1 μ_64 s_64.1 s_64.2) FU (l2_64, l3_64)) fun r_64 =>
    bnd (f12_told μ_64 r_64) fun p_5 =>
    some (p_5.1, p_5.2)
def f12_setPattern_b34 (l1 : Int32) (μ_34 : Sto) (l2_34 : Int32) : Option ((Sto × Int32) ⊕ Sto) :=
  if (fI μ_34 2017 11) ≤ l2_34 then
    some (.inr μ_34)
  else
    gd (inb l2_34 200) <|
    gd (inb l2_34 40) <|
    stp (uA μ_34 2025 (Int32.toNatClampNeg l2_34) (aI μ_34 2023 (Int32.toNatClampNeg l2_34))) fun μx_5 =>
    stp (l2_34 + (1 : Int32)) fun x2_6 =>
    some (.inl (μx_5, x2_6))
def f12_setPattern_j34 (l1 : Int32) (μ_34 : Sto) (l2_34 : Int32) : Option (Int32 × Sto) :=
  bnd (loopF (fun s_34 => f12_setPattern_b34 l1 s_34.1 s_34.2) FU (μ_34, l2_34)) fun r_34 =>
    stp (0 : Int32) fun x2_7 =>
    stp (0 : Int32) fun x3_8 =>
    f12_setPattern_j64 l1 r_34 x2_7 x3_8
def f12_setPattern (μ : Sto) (l1 : Int32) : Option (Int32 × Sto) :=
  bnd (f12_in (fI μ 2017 11) (1 : Int32) (40 : Int32)) fun p_9 =>
  if p_9 = 0 then
    bnd (f12_refuse μ (1 : Int32)) fun p_12 =>
    some (p_12.1, p_12.2)
  else
    gd (isB l1) <|
    stp (uI μ 2017 19 l1) fun μx_9 =>
    stp (uI μx_9 2017 15 (fI μx_9 2017 11)) fun μx_10 =>
    stp (0 : Int32) fun x2_11 =>
    f12_setPattern_j34 l1 μx_10 x2_11
set_option maxHeartbeats 4000000 in
set_option maxRecDepth 100000 in
theorem k12_setPattern {l : Launch} {K : JK} (hl : l.stackTraces = false) {σ μ : Sto} {o : Int64} {l1 : Int32}  {Qf : Int32 × Sto → Prop} (h : Ok (f12_setPattern μ l1) Qf) : Con l K yX12_setPattern (.code yX12_setPattern cX12_setPattern 4 (some .int) :: TB) 3 0 0 False [.ref (K.2.2 + 2017), .int l1] 2055 (jw K σ μ o) (PR Qf (fun p => some (.int p.1)) (fun p => jw K σ p.2 o)) PN := by
  refine Con.enter (own := RX12) hl (by decide) rfl (Nat.le_of_ble_eq_true rfl) ?_
  intro X hX hR C hret hnt
  generalize hQQ : jQ X K 0 0 (PR Qf (fun p => some (.int p.1)) (fun p => jw K σ p.2 o)) PN False = QQ
  change J X K 4 False QQ 0 0 2055 (jw K σ μ o) 0 [(0, .ref (K.2.2 + 2017)), (1, .int l1)] []
  have hj_64 : (∀ (μ_64 : Sto) (l2_64 : Int32) (l3_64 : Int32), Ok (f12_setPattern_j64 l1 μ_64 l2_64 l3_64) Qf → J X K 4 False QQ 0 0 2055 (jw K σ μ_64 o) 64 [(0, .ref (K.2.2 + 2017)), (2, .int l2_64), (3, .int l3_64)] []) := by
    intro μ_64 l2_64 l3_64 h
    unfold f12_setPattern_j64 at h
    refine loop_gen (S := Int32 × Int32) (P := fun s_64 => J X K 4 False QQ 0 0 2055 (jw K σ μ_64 o) 64 [(0, .ref (K.2.2 + 2017)), (2, .int s_64.1), (3, .int s_64.2)] []) ?_ FU (l2_64, l3_64) (Ok.ofbnd h)
    intro B_64 hB_64 hE_64 s_64 h
    obtain ⟨l2_64, l3_64⟩ := s_64
    have h : Ok (f12_setPattern_b64 l1 μ_64 l2_64 l3_64) B_64 := h
    change J X K 4 False QQ 0 0 2055 (jw K σ μ_64 o) 64 [(0, .ref (K.2.2 + 2017)), (2, .int l2_64), (3, .int l3_64)] []
    have hj_86 : (∀ (l3_86 : Int32) (s0_86 : Int32) (s1_86 : Int32), Ok (f12_setPattern_j86 l1 μ_64 l3_86 s0_86 s1_86) B_64 → J X K 4 False QQ 0 0 2055 (jw K σ μ_64 o) 86 [(0, .ref (K.2.2 + 2017)), (3, .int l3_86)] [.int s1_86, .int s0_86]) := by
      intro l3_86 s0_86 s1_86 h
      unfold f12_setPattern_j86 at h
      refine J_iadd C dX12_setPattern_86 rfl ?_
      obtain ⟨x2_1, e_x2_1, h⟩ := Ok.nm h
      refine J_istoreE_n (i := 2) (lv' := [(2, .int x2_1), (0, .ref (K.2.2 + 2017)), (3, .int l3_86)]) C e_x2_1 dX12_setPattern_87 rfl (Nat.le_of_ble_eq_true rfl) rfl rfl ?_
      obtain ⟨x3_2, e_x3_2, h⟩ := Ok.nm h
      refine J_iincE (i := 3) (p := 2) (lv' := [(3, .int x3_2), (2, .int x2_1), (0, .ref (K.2.2 + 2017))]) C e_x3_2 dX12_setPattern_88 rfl (by decide) (Nat.le_of_ble_eq_true rfl) rfl rfl ?_
      refine J_goto (t := 64) C dX12_setPattern_91 (by decide) ?_
      refine J.sub [2, 1, 0] rfl ?_
      exact hB_64 (x2_1, x3_2) h.osome
    unfold f12_setPattern_b64 at h
    refine J_iload_n (i := 3) (p := 2) C dX12_setPattern_64 rfl rfl rfl ?_
    refine J_aload_n (i := 0) (p := 0) C dX12_setPattern_65 rfl rfl rfl ?_
    refine Jm_getI C fp_RX12_138 rfl rfl dX12_setPattern_66 rfl ?_
    refine J_icmp_ge (t := 94) C dX12_setPattern_69 (by decide) rfl (fun c_1 => ?_) (fun c_1 => ?_)
    · have h := h.pos c_1
      have h := hE_64 l2_64 h.osome
      try dsimp only at h
      refine J_aload_n (i := 0) (p := 0) C dX12_setPattern_94 rfl rfl rfl ?_
      refine J_iload_n (i := 2) (p := 1) C dX12_setPattern_95 rfl rfl rfl ?_
      refine Jm_cV (rest := []) (st9 := fun p_2 => [.int p_2.1]) C hR hX cv_RX12_209 rfl (Nat.le_of_ble_eq_true rfl) (k12_told hl  (Ok.ofbnd h)) rfl rfl (Nat.le_of_ble_eq_true rfl) (Nat.le_of_ble_eq_true rfl) (Nat.le_of_ble_eq_true rfl) ⟨(Nat.le_of_ble_eq_true rfl), (Nat.le_of_ble_eq_true rfl)⟩ dX12_setPattern_96 rfl (fun E n9 w9 hx => JT_n hx) (fun _ => rfl) (fun p_2 h => ?_)
      have h : Ok _ _ := h
      change J X K 4 False QQ 0 0 2055 (jw K σ p_2.2 o) 99 [(0, .ref (K.2.2 + 2017)), (2, .int l2_64), (3, .int l3_64)] [.int p_2.1]
      rw [← hQQ]
      exact J_iret C hret (Nat.le_of_ble_eq_true rfl) (Nat.le_of_ble_eq_true rfl) ⟨_, h.osome, rfl, rfl, rfl⟩ dX12_setPattern_99
    · have h := h.neg c_1
      refine J_iload_n (i := 2) (p := 1) C dX12_setPattern_72 rfl rfl rfl ?_
      refine J_aload_n (i := 0) (p := 0) C dX12_setPattern_73 rfl rfl rfl ?_
      refine J_iload_n (i := 3) (p := 2) C dX12_setPattern_74 rfl rfl rfl ?_
      refine Jm_cV (rest := [.int l2_64]) (st9 := fun p_3 => [.int p_3, .int l2_64]) C hR hX cv_RX12_288 rfl (Nat.le_of_ble_eq_true rfl) (k12_isFind hl  (Ok.ofbnd h)) rfl rfl (Nat.le_of_ble_eq_true rfl) (Nat.le_of_ble_eq_true rfl) (Nat.le_of_ble_eq_true rfl) ⟨(Nat.le_of_ble_eq_true rfl), (Nat.le_of_ble_eq_true rfl)⟩ dX12_setPattern_75 rfl (fun E n9 w9 hx => JT_n hx) (fun _ => rfl) (fun p_3 h => ?_)
      have h : Ok _ _ := h
      change J X K 4 False QQ 0 0 2055 (jw K σ μ_64 o) 78 [(0, .ref (K.2.2 + 2017)), (2, .int l2_64), (3, .int l3_64)] [.int p_3, .int l2_64]
      refine J_if_eq (t := 85) C dX12_setPattern_78 (by decide) rfl (fun c_4 => ?_) (fun c_4 => ?_)
      · have h := h.pos c_4
        refine J_iconst (v := 0) C (by decide) dX12_setPattern_85 rfl ?_
        refine J.sub [0, 2] rfl ?_
        exact hj_86 l3_64 l2_64 (0 : Int32) h
      · have h := h.neg c_4
        refine J_iconst (v := 1) C (by decide) dX12_setPattern_81 rfl ?_
        refine J_goto (t := 86) C dX12_setPattern_82 (by decide) ?_
        refine J.sub [0, 2] rfl ?_
        exact hj_86 l3_64 l2_64 (1 : Int32) h
  have hj_34 : (∀ (μ_34 : Sto) (l2_34 : Int32), Ok (f12_setPattern_j34 l1 μ_34 l2_34) Qf → J X K 4 False QQ 0 0 2055 (jw K σ μ_34 o) 34 [(0, .ref (K.2.2 + 2017)), (2, .int l2_34)] []) := by
    intro μ_34 l2_34 h
    unfold f12_setPattern_j34 at h
    refine loop_gen (S := Sto × Int32) (P := fun s_34 => J X K 4 False QQ 0 0 2055 (jw K σ s_34.1 o) 34 [(0, .ref (K.2.2 + 2017)), (2, .int s_34.2)] []) ?_ FU (μ_34, l2_34) (Ok.ofbnd h)
    intro B_34 hB_34 hE_34 s_34 h
    obtain ⟨μ_34, l2_34⟩ := s_34
    have h : Ok (f12_setPattern_b34 l1 μ_34 l2_34) B_34 := h
    change J X K 4 False QQ 0 0 2055 (jw K σ μ_34 o) 34 [(0, .ref (K.2.2 + 2017)), (2, .int l2_34)] []
    unfold f12_setPattern_b34 at h
    refine J_iload_n (i := 2) (p := 1) C dX12_setPattern_34 rfl rfl rfl ?_
    refine J_aload_n (i := 0) (p := 0) C dX12_setPattern_35 rfl rfl rfl ?_
    refine Jm_getI C fp_RX12_161 rfl rfl dX12_setPattern_36 rfl ?_
    refine J_icmp_ge (t := 60) C dX12_setPattern_39 (by decide) rfl (fun c_6 => ?_) (fun c_6 => ?_)
    · have h := h.pos c_6
      have h := hE_34 μ_34 h.osome
      try dsimp only at h
      refine J_iconst (v := 0) C (by decide) dX12_setPattern_60 rfl ?_
      obtain ⟨x2_3, e_x2_3, h⟩ := Ok.nm h
      refine J_istoreE_n (i := 2) (lv' := [(2, .int x2_3), (0, .ref (K.2.2 + 2017))]) C e_x2_3 dX12_setPattern_61 rfl (Nat.le_of_ble_eq_true rfl) rfl rfl ?_
      refine J_iconst (v := 0) C (by decide) dX12_setPattern_62 rfl ?_
      obtain ⟨x3_4, e_x3_4, h⟩ := Ok.nm h
      refine J_istoreE_n (i := 3) (lv' := [(3, .int x3_4), (2, .int x2_3), (0, .ref (K.2.2 + 2017))]) C e_x3_4 dX12_setPattern_63 rfl (Nat.le_of_ble_eq_true rfl) rfl rfl ?_
      refine J.sub [2, 1, 0] rfl ?_
      exact hj_64 μ_34 x2_3 x3_4 h
    · have h := h.neg c_6
      refine J_aload_n (i := 0) (p := 0) C dX12_setPattern_42 rfl rfl rfl ?_
      refine Jm_getS (o2 := 8) (r2 := 2025) C fp_RX12_36 rfl rfl rfl dX12_setPattern_43 rfl ?_
      refine J_iload_n (i := 2) (p := 1) C dX12_setPattern_46 rfl rfl rfl ?_
      refine J_aload_n (i := 0) (p := 0) C dX12_setPattern_47 rfl rfl rfl ?_
      refine Jm_getS (o2 := 6) (r2 := 2023) C fp_RX12_30 rfl rfl rfl dX12_setPattern_48 rfl ?_
      refine J_iload_n (i := 2) (p := 1) C dX12_setPattern_51 rfl rfl rfl ?_
      obtain ⟨g_7, h⟩ := Ok.ofgd h
      refine Jm_iald C rfl rfl g_7 dX12_setPattern_52 rfl ?_
      obtain ⟨g_8, h⟩ := Ok.ofgd h
      obtain ⟨μx_5, e_μx_5, h⟩ := Ok.nm h
      refine Jm_iast C id rfl rfl g_8 e_μx_5 dX12_setPattern_53 rfl ?_
      obtain ⟨x2_6, e_x2_6, h⟩ := Ok.nm h
      refine J_iincE (i := 2) (p := 1) (lv' := [(2, .int x2_6), (0, .ref (K.2.2 + 2017))]) C e_x2_6 dX12_setPattern_54 rfl (by decide) (Nat.le_of_ble_eq_true rfl) rfl rfl ?_
      refine J_goto (t := 34) C dX12_setPattern_57 (by decide) ?_
      refine J.sub [1, 0] rfl ?_
      exact hB_34 (μx_5, x2_6) h.osome
  unfold f12_setPattern at h
  refine J_aload_n (i := 0) (p := 0) C dX12_setPattern_0 rfl rfl rfl ?_
  refine Jm_getI C fp_RX12_161 rfl rfl dX12_setPattern_1 rfl ?_
  refine J_iconst (v := 1) C (by decide) dX12_setPattern_4 rfl ?_
  refine J_bipush (v := 40) C (by decide) dX12_setPattern_5 rfl ?_
  refine J_cS (rest := []) (st9 := fun p_9 => [.int p_9]) C hR hX cs_RX12_134 (k12_in hl  (Ok.ofbnd h)) rfl rfl (Nat.le_of_ble_eq_true rfl) (Nat.le_of_ble_eq_true rfl) (Nat.le_of_ble_eq_true rfl) ⟨(Nat.le_of_ble_eq_true rfl), (Nat.le_of_ble_eq_true rfl)⟩ dX12_setPattern_7 rfl (fun E n9 w9 hx => JT_n hx) (fun _ => rfl) (fun p_9 h => ?_)
  have h : Ok _ _ := h
  change J X K 4 False QQ 0 0 2055 (jw K σ μ o) 10 [(0, .ref (K.2.2 + 2017)), (1, .int l1)] [.int p_9]
  refine J_if_ne (t := 19) C dX12_setPattern_10 (by decide) rfl (fun c_10 => ?_) (fun c_10 => ?_)
  · have h := h.neg c_10
    refine J_aload_n (i := 0) (p := 0) C dX12_setPattern_19 rfl rfl rfl ?_
    refine J_iload_n (i := 1) (p := 1) C dX12_setPattern_20 rfl rfl rfl ?_
    obtain ⟨g_11, h⟩ := Ok.ofgd h
    obtain ⟨μx_9, e_μx_9, h⟩ := Ok.nm h
    refine Jm_putZ C id fp_RX12_282 fw_11_19 rfl g_11 rfl rfl e_μx_9 dX12_setPattern_21 rfl ?_
    refine J_aload_n (i := 0) (p := 0) C dX12_setPattern_24 rfl rfl rfl ?_
    refine J_aload_n (i := 0) (p := 0) C dX12_setPattern_25 rfl rfl rfl ?_
    refine Jm_getI C fp_RX12_161 rfl rfl dX12_setPattern_26 rfl ?_
    obtain ⟨μx_10, e_μx_10, h⟩ := Ok.nm h
    refine Jm_putI C id fp_RX12_279 fw_11_15 rfl rfl rfl e_μx_10 dX12_setPattern_29 rfl ?_
    refine J_iconst (v := 0) C (by decide) dX12_setPattern_32 rfl ?_
    obtain ⟨x2_11, e_x2_11, h⟩ := Ok.nm h
    refine J_istoreE_n (i := 2) (lv' := [(2, .int x2_11), (0, .ref (K.2.2 + 2017)), (1, .int l1)]) C e_x2_11 dX12_setPattern_33 rfl (Nat.le_of_ble_eq_true rfl) rfl rfl ?_
    refine J.sub [1, 0] rfl ?_
    exact hj_34 μx_10 x2_11 h
  · have h := h.pos (Decidable.not_not.mp c_10)
    refine J_aload_n (i := 0) (p := 0) C dX12_setPattern_13 rfl rfl rfl ?_
    refine J_iconst (v := 1) C (by decide) dX12_setPattern_14 rfl ?_
    refine Jm_cV (rest := []) (st9 := fun p_12 => [.int p_12.1]) C hR hX cv_RX12_206 rfl (Nat.le_of_ble_eq_true rfl) (k12_refuse hl  (Ok.ofbnd h)) rfl rfl (Nat.le_of_ble_eq_true rfl) (Nat.le_of_ble_eq_true rfl) (Nat.le_of_ble_eq_true rfl) ⟨(Nat.le_of_ble_eq_true rfl), (Nat.le_of_ble_eq_true rfl)⟩ dX12_setPattern_15 rfl (fun E n9 w9 hx => JT_n hx) (fun _ => rfl) (fun p_12 h => ?_)
    have h : Ok _ _ := h
    change J X K 4 False QQ 0 0 2055 (jw K σ p_12.2 o) 18 [(0, .ref (K.2.2 + 2017)), (1, .int l1)] [.int p_12.1]
    rw [← hQQ]
    exact J_iret C hret (Nat.le_of_ble_eq_true rfl) (Nat.le_of_ble_eq_true rfl) ⟨_, h.osome, rfl, rfl, rfl⟩ dX12_setPattern_18
def f12_find_j63 (l1 : Int32) (l2 : Int32) (μ_63 : Sto) (l3_63 : Int32) : Option (Int32 × Sto) :=
  bnd (f12_told μ_63 l3_63) fun p_1 =>
  some (p_1.1, p_1.2)
def f12_find_b45 (l1 : Int32) (l2 : Int32) (μ_45 : Sto) (l3_45 : Int32) : Option (Int32 ⊕ Int32) :=
  if l3_45 < 0 then
    some (.inr l3_45)
  else
    bnd (f12_isFind μ_45 l3_45) fun p_3 =>
    if p_3 = 0 then
      stp (l3_45 + (-1 : Int32)) fun x3_1 =>
      some (.inl x3_1)
    else
      some (.inr l3_45)
def f12_find_j45 (l1 : Int32) (l2 : Int32) (μ_45 : Sto) (l3_45 : Int32) : Option (Int32 × Sto) :=
  bnd (loopF (fun s_45 => f12_find_b45 l1 l2 μ_45 s_45) FU l3_45) fun r_45 =>
    f12_find_j63 l1 l2 μ_45 r_45
def f12_find (μ : Sto) (l1 : Int32) (l2 : Int32) : Option (Int32 × Sto) :=
  bnd (f12_isPlace μ l1) fun p_5 =>
  if p_5 = 0 then
    bnd (f12_refuse μ (1 : Int32)) fun p_12 =>
    some (p_12.1, p_12.2)
  else
    if (fI μ 2017 15) = 0 then
      bnd (f12_refuse μ (2 : Int32)) fun p_11 =>
      some (p_11.1, p_11.2)
    else
      if l2 = 0 then
        stp (l1 - (1 : Int32)) fun x3_2 =>
        f12_find_j45 l1 l2 μ x3_2
      else
        bnd (f12_findFrom μ l1) fun p_9 =>
        bnd (f12_told μ p_9) fun p_10 =>
        some (p_10.1, p_10.2)
set_option maxHeartbeats 4000000 in
set_option maxRecDepth 100000 in
theorem k12_find {l : Launch} {K : JK} (hl : l.stackTraces = false) {σ μ : Sto} {o : Int64} {l1 : Int32} {l2 : Int32}  {Qf : Int32 × Sto → Prop} (h : Ok (f12_find μ l1 l2) Qf) : Con l K yX12_find (.code yX12_find cX12_find 4 (some .int) :: TB) 4 0 0 False [.ref (K.2.2 + 2017), .int l1, .int l2] 2055 (jw K σ μ o) (PR Qf (fun p => some (.int p.1)) (fun p => jw K σ p.2 o)) PN := by
  refine Con.enter (own := RX12) hl (by decide) rfl (Nat.le_of_ble_eq_true rfl) ?_
  intro X hX hR C hret hnt
  generalize hQQ : jQ X K 0 0 (PR Qf (fun p => some (.int p.1)) (fun p => jw K σ p.2 o)) PN False = QQ
  change J X K 4 False QQ 0 0 2055 (jw K σ μ o) 0 [(0, .ref (K.2.2 + 2017)), (1, .int l1), (2, .int l2)] []
  have hj_63 : (∀ (μ_63 : Sto) (l3_63 : Int32), Ok (f12_find_j63 l1 l2 μ_63 l3_63) Qf → J X K 4 False QQ 0 0 2055 (jw K σ μ_63 o) 63 [(0, .ref (K.2.2 + 2017)), (3, .int l3_63)] []) := by
    intro μ_63 l3_63 h
    unfold f12_find_j63 at h
    refine J_aload_n (i := 0) (p := 0) C dX12_find_63 rfl rfl rfl ?_
    refine J_iload_n (i := 3) (p := 1) C dX12_find_64 rfl rfl rfl ?_
    refine Jm_cV (rest := []) (st9 := fun p_1 => [.int p_1.1]) C hR hX cv_RX12_209 rfl (Nat.le_of_ble_eq_true rfl) (k12_told hl  (Ok.ofbnd h)) rfl rfl (Nat.le_of_ble_eq_true rfl) (Nat.le_of_ble_eq_true rfl) (Nat.le_of_ble_eq_true rfl) ⟨(Nat.le_of_ble_eq_true rfl), (Nat.le_of_ble_eq_true rfl)⟩ dX12_find_65 rfl (fun E n9 w9 hx => JT_n hx) (fun _ => rfl) (fun p_1 h => ?_)
    have h : Ok _ _ := h
    change J X K 4 False QQ 0 0 2055 (jw K σ p_1.2 o) 68 [(0, .ref (K.2.2 + 2017)), (3, .int l3_63)] [.int p_1.1]
    rw [← hQQ]
    exact J_iret C hret (Nat.le_of_ble_eq_true rfl) (Nat.le_of_ble_eq_true rfl) ⟨_, h.osome, rfl, rfl, rfl⟩ dX12_find_68
  have hj_45 : (∀ (μ_45 : Sto) (l3_45 : Int32), Ok (f12_find_j45 l1 l2 μ_45 l3_45) Qf → J X K 4 False QQ 0 0 2055 (jw K σ μ_45 o) 45 [(0, .ref (K.2.2 + 2017)), (3, .int l3_45)] []) := by
    intro μ_45 l3_45 h
    unfold f12_find_j45 at h
    refine loop_gen (S := Int32) (P := fun s_45 => J X K 4 False QQ 0 0 2055 (jw K σ μ_45 o) 45 [(0, .ref (K.2.2 + 2017)), (3, .int s_45)] []) ?_ FU l3_45 (Ok.ofbnd h)
    intro B_45 hB_45 hE_45 s_45 h
    generalize s_45 = l3_45 at h ⊢
    have h : Ok (f12_find_b45 l1 l2 μ_45 l3_45) B_45 := h
    change J X K 4 False QQ 0 0 2055 (jw K σ μ_45 o) 45 [(0, .ref (K.2.2 + 2017)), (3, .int l3_45)] []
    unfold f12_find_b45 at h
    refine J_iload_n (i := 3) (p := 1) C dX12_find_45 rfl rfl rfl ?_
    refine J_if_lt (t := 63) C dX12_find_46 (by decide) rfl (fun c_2 => ?_) (fun c_2 => ?_)
    · have h := h.pos c_2
      have h := hE_45 l3_45 h.osome
      try dsimp only at h
      exact hj_63 μ_45 l3_45 h
    · have h := h.neg c_2
      refine J_aload_n (i := 0) (p := 0) C dX12_find_49 rfl rfl rfl ?_
      refine J_iload_n (i := 3) (p := 1) C dX12_find_50 rfl rfl rfl ?_
      refine Jm_cV (rest := []) (st9 := fun p_3 => [.int p_3]) C hR hX cv_RX12_288 rfl (Nat.le_of_ble_eq_true rfl) (k12_isFind hl  (Ok.ofbnd h)) rfl rfl (Nat.le_of_ble_eq_true rfl) (Nat.le_of_ble_eq_true rfl) (Nat.le_of_ble_eq_true rfl) ⟨(Nat.le_of_ble_eq_true rfl), (Nat.le_of_ble_eq_true rfl)⟩ dX12_find_51 rfl (fun E n9 w9 hx => JT_n hx) (fun _ => rfl) (fun p_3 h => ?_)
      have h : Ok _ _ := h
      change J X K 4 False QQ 0 0 2055 (jw K σ μ_45 o) 54 [(0, .ref (K.2.2 + 2017)), (3, .int l3_45)] [.int p_3]
      refine J_if_ne (t := 63) C dX12_find_54 (by decide) rfl (fun c_4 => ?_) (fun c_4 => ?_)
      · have h := h.neg c_4
        have h := hE_45 l3_45 h.osome
        try dsimp only at h
        exact hj_63 μ_45 l3_45 h
      · have h := h.pos (Decidable.not_not.mp c_4)
        obtain ⟨x3_1, e_x3_1, h⟩ := Ok.nm h
        refine J_iincE (i := 3) (p := 1) (lv' := [(3, .int x3_1), (0, .ref (K.2.2 + 2017))]) C e_x3_1 dX12_find_57 rfl (by decide) (Nat.le_of_ble_eq_true rfl) rfl rfl ?_
        refine J_goto (t := 45) C dX12_find_60 (by decide) ?_
        refine J.sub [1, 0] rfl ?_
        exact hB_45 x3_1 h.osome
  unfold f12_find at h
  refine J_aload_n (i := 0) (p := 0) C dX12_find_0 rfl rfl rfl ?_
  refine J_iload_n (i := 1) (p := 1) C dX12_find_1 rfl rfl rfl ?_
  refine Jm_cV (rest := []) (st9 := fun p_5 => [.int p_5]) C hR hX cv_RX12_218 rfl (Nat.le_of_ble_eq_true rfl) (k12_isPlace hl  (Ok.ofbnd h)) rfl rfl (Nat.le_of_ble_eq_true rfl) (Nat.le_of_ble_eq_true rfl) (Nat.le_of_ble_eq_true rfl) ⟨(Nat.le_of_ble_eq_true rfl), (Nat.le_of_ble_eq_true rfl)⟩ dX12_find_2 rfl (fun E n9 w9 hx => JT_n hx) (fun _ => rfl) (fun p_5 h => ?_)
  have h : Ok _ _ := h
  change J X K 4 False QQ 0 0 2055 (jw K σ μ o) 5 [(0, .ref (K.2.2 + 2017)), (1, .int l1), (2, .int l2)] [.int p_5]
  refine J_if_ne (t := 14) C dX12_find_5 (by decide) rfl (fun c_6 => ?_) (fun c_6 => ?_)
  · have h := h.neg c_6
    refine J_aload_n (i := 0) (p := 0) C dX12_find_14 rfl rfl rfl ?_
    refine Jm_getI C fp_RX12_279 rfl rfl dX12_find_15 rfl ?_
    refine J_if_ne (t := 27) C dX12_find_18 (by decide) rfl (fun c_7 => ?_) (fun c_7 => ?_)
    · have h := h.neg c_7
      refine J_iload_n (i := 2) (p := 2) C dX12_find_27 rfl rfl rfl ?_
      refine J_if_eq (t := 41) C dX12_find_28 (by decide) rfl (fun c_8 => ?_) (fun c_8 => ?_)
      · have h := h.pos c_8
        refine J_iload_n (i := 1) (p := 1) C dX12_find_41 rfl rfl rfl ?_
        refine J_iconst (v := 1) C (by decide) dX12_find_42 rfl ?_
        refine J_isub C dX12_find_43 rfl ?_
        obtain ⟨x3_2, e_x3_2, h⟩ := Ok.nm h
        refine J_istoreE_n (i := 3) (lv' := [(3, .int x3_2), (0, .ref (K.2.2 + 2017)), (1, .int l1), (2, .int l2)]) C e_x3_2 dX12_find_44 rfl (Nat.le_of_ble_eq_true rfl) rfl rfl ?_
        refine J.sub [1, 0] rfl ?_
        exact hj_45 μ x3_2 h
      · have h := h.neg c_8
        refine J_aload_n (i := 0) (p := 0) C dX12_find_31 rfl rfl rfl ?_
        refine J_aload_n (i := 0) (p := 0) C dX12_find_32 rfl rfl rfl ?_
        refine J_iload_n (i := 1) (p := 1) C dX12_find_33 rfl rfl rfl ?_
        refine Jm_cV (rest := [.ref (K.2.2 + 2017)]) (st9 := fun p_9 => [.int p_9, .ref (K.2.2 + 2017)]) C hR hX cv_RX12_291 rfl (Nat.le_of_ble_eq_true rfl) (k12_findFrom hl  (Ok.ofbnd h)) rfl rfl (Nat.le_of_ble_eq_true rfl) (Nat.le_of_ble_eq_true rfl) (Nat.le_of_ble_eq_true rfl) ⟨(Nat.le_of_ble_eq_true rfl), (Nat.le_of_ble_eq_true rfl)⟩ dX12_find_34 rfl (fun E n9 w9 hx => JT_n hx) (fun _ => rfl) (fun p_9 h => ?_)
        have h : Ok _ _ := h
        change J X K 4 False QQ 0 0 2055 (jw K σ μ o) 37 [(0, .ref (K.2.2 + 2017)), (1, .int l1), (2, .int l2)] [.int p_9, .ref (K.2.2 + 2017)]
        refine Jm_cV (rest := []) (st9 := fun p_10 => [.int p_10.1]) C hR hX cv_RX12_209 rfl (Nat.le_of_ble_eq_true rfl) (k12_told hl  (Ok.ofbnd h)) rfl rfl (Nat.le_of_ble_eq_true rfl) (Nat.le_of_ble_eq_true rfl) (Nat.le_of_ble_eq_true rfl) ⟨(Nat.le_of_ble_eq_true rfl), (Nat.le_of_ble_eq_true rfl)⟩ dX12_find_37 rfl (fun E n9 w9 hx => JT_n hx) (fun _ => rfl) (fun p_10 h => ?_)
        have h : Ok _ _ := h
        change J X K 4 False QQ 0 0 2055 (jw K σ p_10.2 o) 40 [(0, .ref (K.2.2 + 2017)), (1, .int l1), (2, .int l2)] [.int p_10.1]
        rw [← hQQ]
        exact J_iret C hret (Nat.le_of_ble_eq_true rfl) (Nat.le_of_ble_eq_true rfl) ⟨_, h.osome, rfl, rfl, rfl⟩ dX12_find_40
    · have h := h.pos (Decidable.not_not.mp c_7)
      refine J_aload_n (i := 0) (p := 0) C dX12_find_21 rfl rfl rfl ?_
      refine J_iconst (v := 2) C (by decide) dX12_find_22 rfl ?_
      refine Jm_cV (rest := []) (st9 := fun p_11 => [.int p_11.1]) C hR hX cv_RX12_206 rfl (Nat.le_of_ble_eq_true rfl) (k12_refuse hl  (Ok.ofbnd h)) rfl rfl (Nat.le_of_ble_eq_true rfl) (Nat.le_of_ble_eq_true rfl) (Nat.le_of_ble_eq_true rfl) ⟨(Nat.le_of_ble_eq_true rfl), (Nat.le_of_ble_eq_true rfl)⟩ dX12_find_23 rfl (fun E n9 w9 hx => JT_n hx) (fun _ => rfl) (fun p_11 h => ?_)
      have h : Ok _ _ := h
      change J X K 4 False QQ 0 0 2055 (jw K σ p_11.2 o) 26 [(0, .ref (K.2.2 + 2017)), (1, .int l1), (2, .int l2)] [.int p_11.1]
      rw [← hQQ]
      exact J_iret C hret (Nat.le_of_ble_eq_true rfl) (Nat.le_of_ble_eq_true rfl) ⟨_, h.osome, rfl, rfl, rfl⟩ dX12_find_26
  · have h := h.pos (Decidable.not_not.mp c_6)
    refine J_aload_n (i := 0) (p := 0) C dX12_find_8 rfl rfl rfl ?_
    refine J_iconst (v := 1) C (by decide) dX12_find_9 rfl ?_
    refine Jm_cV (rest := []) (st9 := fun p_12 => [.int p_12.1]) C hR hX cv_RX12_206 rfl (Nat.le_of_ble_eq_true rfl) (k12_refuse hl  (Ok.ofbnd h)) rfl rfl (Nat.le_of_ble_eq_true rfl) (Nat.le_of_ble_eq_true rfl) (Nat.le_of_ble_eq_true rfl) ⟨(Nat.le_of_ble_eq_true rfl), (Nat.le_of_ble_eq_true rfl)⟩ dX12_find_10 rfl (fun E n9 w9 hx => JT_n hx) (fun _ => rfl) (fun p_12 h => ?_)
    have h : Ok _ _ := h
    change J X K 4 False QQ 0 0 2055 (jw K σ p_12.2 o) 13 [(0, .ref (K.2.2 + 2017)), (1, .int l1), (2, .int l2)] [.int p_12.1]
    rw [← hQQ]
    exact J_iret C hret (Nat.le_of_ble_eq_true rfl) (Nat.le_of_ble_eq_true rfl) ⟨_, h.osome, rfl, rfl, rfl⟩ dX12_find_13
def f12_replaceNext_j38 (μ_38 : Sto) (s0_38 : Int32) : Option (Int32 × Sto) :=
  stp s0_38 fun x1_1 =>
  if x1_1 = (-1 : Int32) then
    bnd (f12_told μ_38 (-1 : Int32)) fun p_12 =>
    some (p_12.1, p_12.2)
  else
    bnd (f12_begins μ_38) fun p_2 =>
    bnd (f12_putsTape p_2) fun p_3 =>
    bnd (f12_adds p_3 x1_1 (x1_1 + (fI p_3 2017 15)) (0 : Int32) (fI p_3 2017 28)) fun p_4 =>
    bnd (f12_acts p_4) fun p_5 =>
    if p_5.1 = 0 then
      bnd (f12_refuse p_5.2 (1 : Int32)) fun p_11 =>
      some (p_11.1, p_11.2)
    else
      stp (uI p_5.2 2017 6 (1 : Int32)) fun μx_2 =>
      gd (inb (0 : Int32) 8) <|
      stp (uA μx_2 2019 (Int32.toNatClampNeg (0 : Int32)) (x1_1 + (fI μx_2 2017 11))) fun μx_3 =>
      gd (inb (0 : Int32) 8) <|
      bnd (f12_opensAt μx_3 (aI μx_3 2019 (Int32.toNatClampNeg (0 : Int32)))) fun p_9 =>
      bnd (f12_told p_9 x1_1) fun p_10 =>
      some (p_10.1, p_10.2)
def f12_replaceNext (μ : Sto) : Option (Int32 × Sto) :=
  if (fI μ 2017 15) = 0 then
    bnd (f12_refuse μ (1 : Int32)) fun p_18 =>
    some (p_18.1, p_18.2)
  else
    gd (inb (0 : Int32) 8) <|
    bnd (f12_findFrom μ (aI μ 2019 (Int32.toNatClampNeg (0 : Int32)))) fun p_15 =>
    stp p_15 fun x1_4 =>
    if x1_4 = (-1 : Int32) then
      bnd (f12_findFrom μ (0 : Int32)) fun p_17 =>
      f12_replaceNext_j38 μ p_17
    else
      f12_replaceNext_j38 μ x1_4
set_option maxHeartbeats 4000000 in
set_option maxRecDepth 100000 in
theorem k12_replaceNext {l : Launch} {K : JK} (hl : l.stackTraces = false) {σ μ : Sto} {o : Int64}   {Qf : Int32 × Sto → Prop} (h : Ok (f12_replaceNext μ) Qf) : Con l K yX12_replaceNext (.code yX12_replaceNext cX12_replaceNext 2 (some .int) :: TB) 4 0 0 False [.ref (K.2.2 + 2017)] 2055 (jw K σ μ o) (PR Qf (fun p => some (.int p.1)) (fun p => jw K σ p.2 o)) PN := by
  refine Con.enter (own := RX12) hl (by decide) rfl (Nat.le_of_ble_eq_true rfl) ?_
  intro X hX hR C hret hnt
  generalize hQQ : jQ X K 0 0 (PR Qf (fun p => some (.int p.1)) (fun p => jw K σ p.2 o)) PN False = QQ
  change J X K 2 False QQ 0 0 2055 (jw K σ μ o) 0 [(0, .ref (K.2.2 + 2017))] []
  have hj_38 : (∀ (μ_38 : Sto) (s0_38 : Int32), Ok (f12_replaceNext_j38 μ_38 s0_38) Qf → J X K 2 False QQ 0 0 2055 (jw K σ μ_38 o) 38 [(0, .ref (K.2.2 + 2017))] [.int s0_38]) := by
    intro μ_38 s0_38 h
    unfold f12_replaceNext_j38 at h
    obtain ⟨x1_1, e_x1_1, h⟩ := Ok.nm h
    refine J_istoreE_n (i := 1) (lv' := [(1, .int x1_1), (0, .ref (K.2.2 + 2017))]) C e_x1_1 dX12_replaceNext_38 rfl (Nat.le_of_ble_eq_true rfl) rfl rfl ?_
    refine J_iload_n (i := 1) (p := 0) C dX12_replaceNext_39 rfl rfl rfl ?_
    refine J_iconst (v := -1) C (by decide) dX12_replaceNext_40 rfl ?_
    refine J_icmp_ne (t := 50) C dX12_replaceNext_41 (by decide) rfl (fun c_1 => ?_) (fun c_1 => ?_)
    · have h := h.neg c_1
      refine J_aload_n (i := 0) (p := 1) C dX12_replaceNext_50 rfl rfl rfl ?_
      refine Jm_cV (rest := []) (st9 := fun p_2 => []) C hR hX cv_RX12_234 rfl (Nat.le_of_ble_eq_true rfl) (k12_begins hl  (Ok.ofbnd h)) rfl rfl (Nat.le_of_ble_eq_true rfl) (Nat.le_of_ble_eq_true rfl) (Nat.le_of_ble_eq_true rfl) ⟨(Nat.le_of_ble_eq_true rfl), (Nat.le_of_ble_eq_true rfl)⟩ dX12_replaceNext_51 rfl (fun E n9 w9 hx => JT_n hx) (fun _ => rfl) (fun p_2 h => ?_)
      have h : Ok _ _ := h
      change J X K 2 False QQ 0 0 2055 (jw K σ p_2 o) 54 [(1, .int x1_1), (0, .ref (K.2.2 + 2017))] []
      refine J_aload_n (i := 0) (p := 1) C dX12_replaceNext_54 rfl rfl rfl ?_
      refine Jm_cV (rest := []) (st9 := fun p_3 => []) C hR hX cv_RX12_237 rfl (Nat.le_of_ble_eq_true rfl) (k12_putsTape hl  (Ok.ofbnd h)) rfl rfl (Nat.le_of_ble_eq_true rfl) (Nat.le_of_ble_eq_true rfl) (Nat.le_of_ble_eq_true rfl) ⟨(Nat.le_of_ble_eq_true rfl), (Nat.le_of_ble_eq_true rfl)⟩ dX12_replaceNext_55 rfl (fun E n9 w9 hx => JT_n hx) (fun _ => rfl) (fun p_3 h => ?_)
      have h : Ok _ _ := h
      change J X K 2 False QQ 0 0 2055 (jw K σ p_3 o) 58 [(1, .int x1_1), (0, .ref (K.2.2 + 2017))] []
      refine J_aload_n (i := 0) (p := 1) C dX12_replaceNext_58 rfl rfl rfl ?_
      refine J_iload_n (i := 1) (p := 0) C dX12_replaceNext_59 rfl rfl rfl ?_
      refine J_iload_n (i := 1) (p := 0) C dX12_replaceNext_60 rfl rfl rfl ?_
      refine J_aload_n (i := 0) (p := 1) C dX12_replaceNext_61 rfl rfl rfl ?_
      refine Jm_getI C fp_RX12_279 rfl rfl dX12_replaceNext_62 rfl ?_
      refine J_iadd C dX12_replaceNext_65 rfl ?_
      refine J_iconst (v := 0) C (by decide) dX12_replaceNext_66 rfl ?_
      refine J_aload_n (i := 0) (p := 1) C dX12_replaceNext_67 rfl rfl rfl ?_
      refine Jm_getI C fp_RX12_158 rfl rfl dX12_replaceNext_68 rfl ?_
      refine Jm_cV (rest := []) (st9 := fun p_4 => []) C hR hX cv_RX12_240 rfl (Nat.le_of_ble_eq_true rfl) (k12_adds hl  (Ok.ofbnd h)) rfl rfl (Nat.le_of_ble_eq_true rfl) (Nat.le_of_ble_eq_true rfl) (Nat.le_of_ble_eq_true rfl) ⟨(Nat.le_of_ble_eq_true rfl), (Nat.le_of_ble_eq_true rfl)⟩ dX12_replaceNext_71 rfl (fun E n9 w9 hx => JT_n hx) (fun _ => rfl) (fun p_4 h => ?_)
      have h : Ok _ _ := h
      change J X K 2 False QQ 0 0 2055 (jw K σ p_4 o) 74 [(1, .int x1_1), (0, .ref (K.2.2 + 2017))] []
      refine J_aload_n (i := 0) (p := 1) C dX12_replaceNext_74 rfl rfl rfl ?_
      refine Jm_cV (rest := []) (st9 := fun p_5 => [.int p_5.1]) C hR hX cv_RX12_244 rfl (Nat.le_of_ble_eq_true rfl) (k12_acts hl  (Ok.ofbnd h)) rfl rfl (Nat.le_of_ble_eq_true rfl) (Nat.le_of_ble_eq_true rfl) (Nat.le_of_ble_eq_true rfl) ⟨(Nat.le_of_ble_eq_true rfl), (Nat.le_of_ble_eq_true rfl)⟩ dX12_replaceNext_75 rfl (fun E n9 w9 hx => JT_n hx) (fun _ => rfl) (fun p_5 h => ?_)
      have h : Ok _ _ := h
      change J X K 2 False QQ 0 0 2055 (jw K σ p_5.2 o) 78 [(1, .int x1_1), (0, .ref (K.2.2 + 2017))] [.int p_5.1]
      refine J_if_ne (t := 87) C dX12_replaceNext_78 (by decide) rfl (fun c_6 => ?_) (fun c_6 => ?_)
      · have h := h.neg c_6
        refine J_aload_n (i := 0) (p := 1) C dX12_replaceNext_87 rfl rfl rfl ?_
        refine J_iconst (v := 1) C (by decide) dX12_replaceNext_88 rfl ?_
        obtain ⟨μx_2, e_μx_2, h⟩ := Ok.nm h
        refine Jm_putI C id fp_RX12_26 fw_11_6 rfl rfl rfl e_μx_2 dX12_replaceNext_89 rfl ?_
        refine J_aload_n (i := 0) (p := 1) C dX12_replaceNext_92 rfl rfl rfl ?_
        refine Jm_getS (o2 := 2) (r2 := 2019) C fp_RX12_13 rfl rfl rfl dX12_replaceNext_93 rfl ?_
        refine J_iconst (v := 0) C (by decide) dX12_replaceNext_96 rfl ?_
        refine J_iload_n (i := 1) (p := 0) C dX12_replaceNext_97 rfl rfl rfl ?_
        refine J_aload_n (i := 0) (p := 1) C dX12_replaceNext_98 rfl rfl rfl ?_
        refine Jm_getI C fp_RX12_161 rfl rfl dX12_replaceNext_99 rfl ?_
        refine J_iadd C dX12_replaceNext_102 rfl ?_
        obtain ⟨g_7, h⟩ := Ok.ofgd h
        obtain ⟨μx_3, e_μx_3, h⟩ := Ok.nm h
        refine Jm_iast C id rfl rfl g_7 e_μx_3 dX12_replaceNext_103 rfl ?_
        refine J_aload_n (i := 0) (p := 1) C dX12_replaceNext_104 rfl rfl rfl ?_
        refine J_aload_n (i := 0) (p := 1) C dX12_replaceNext_105 rfl rfl rfl ?_
        refine Jm_getS (o2 := 2) (r2 := 2019) C fp_RX12_13 rfl rfl rfl dX12_replaceNext_106 rfl ?_
        refine J_iconst (v := 0) C (by decide) dX12_replaceNext_109 rfl ?_
        obtain ⟨g_8, h⟩ := Ok.ofgd h
        refine Jm_iald C rfl rfl g_8 dX12_replaceNext_110 rfl ?_
        refine Jm_cV (rest := []) (st9 := fun p_9 => []) C hR hX cv_RX12_294 rfl (Nat.le_of_ble_eq_true rfl) (k12_opensAt hl  (Ok.ofbnd h)) rfl rfl (Nat.le_of_ble_eq_true rfl) (Nat.le_of_ble_eq_true rfl) (Nat.le_of_ble_eq_true rfl) ⟨(Nat.le_of_ble_eq_true rfl), (Nat.le_of_ble_eq_true rfl)⟩ dX12_replaceNext_111 rfl (fun E n9 w9 hx => JT_n hx) (fun _ => rfl) (fun p_9 h => ?_)
        have h : Ok _ _ := h
        change J X K 2 False QQ 0 0 2055 (jw K σ p_9 o) 114 [(1, .int x1_1), (0, .ref (K.2.2 + 2017))] []
        refine J_aload_n (i := 0) (p := 1) C dX12_replaceNext_114 rfl rfl rfl ?_
        refine J_iload_n (i := 1) (p := 0) C dX12_replaceNext_115 rfl rfl rfl ?_
        refine Jm_cV (rest := []) (st9 := fun p_10 => [.int p_10.1]) C hR hX cv_RX12_209 rfl (Nat.le_of_ble_eq_true rfl) (k12_told hl  (Ok.ofbnd h)) rfl rfl (Nat.le_of_ble_eq_true rfl) (Nat.le_of_ble_eq_true rfl) (Nat.le_of_ble_eq_true rfl) ⟨(Nat.le_of_ble_eq_true rfl), (Nat.le_of_ble_eq_true rfl)⟩ dX12_replaceNext_116 rfl (fun E n9 w9 hx => JT_n hx) (fun _ => rfl) (fun p_10 h => ?_)
        have h : Ok _ _ := h
        change J X K 2 False QQ 0 0 2055 (jw K σ p_10.2 o) 119 [(1, .int x1_1), (0, .ref (K.2.2 + 2017))] [.int p_10.1]
        rw [← hQQ]
        exact J_iret C hret (Nat.le_of_ble_eq_true rfl) (Nat.le_of_ble_eq_true rfl) ⟨_, h.osome, rfl, rfl, rfl⟩ dX12_replaceNext_119
      · have h := h.pos (Decidable.not_not.mp c_6)
        refine J_aload_n (i := 0) (p := 1) C dX12_replaceNext_81 rfl rfl rfl ?_
        refine J_iconst (v := 1) C (by decide) dX12_replaceNext_82 rfl ?_
        refine Jm_cV (rest := []) (st9 := fun p_11 => [.int p_11.1]) C hR hX cv_RX12_206 rfl (Nat.le_of_ble_eq_true rfl) (k12_refuse hl  (Ok.ofbnd h)) rfl rfl (Nat.le_of_ble_eq_true rfl) (Nat.le_of_ble_eq_true rfl) (Nat.le_of_ble_eq_true rfl) ⟨(Nat.le_of_ble_eq_true rfl), (Nat.le_of_ble_eq_true rfl)⟩ dX12_replaceNext_83 rfl (fun E n9 w9 hx => JT_n hx) (fun _ => rfl) (fun p_11 h => ?_)
        have h : Ok _ _ := h
        change J X K 2 False QQ 0 0 2055 (jw K σ p_11.2 o) 86 [(1, .int x1_1), (0, .ref (K.2.2 + 2017))] [.int p_11.1]
        rw [← hQQ]
        exact J_iret C hret (Nat.le_of_ble_eq_true rfl) (Nat.le_of_ble_eq_true rfl) ⟨_, h.osome, rfl, rfl, rfl⟩ dX12_replaceNext_86
    · have h := h.pos (Decidable.not_not.mp c_1)
      refine J_aload_n (i := 0) (p := 1) C dX12_replaceNext_44 rfl rfl rfl ?_
      refine J_iconst (v := -1) C (by decide) dX12_replaceNext_45 rfl ?_
      refine Jm_cV (rest := []) (st9 := fun p_12 => [.int p_12.1]) C hR hX cv_RX12_209 rfl (Nat.le_of_ble_eq_true rfl) (k12_told hl  (Ok.ofbnd h)) rfl rfl (Nat.le_of_ble_eq_true rfl) (Nat.le_of_ble_eq_true rfl) (Nat.le_of_ble_eq_true rfl) ⟨(Nat.le_of_ble_eq_true rfl), (Nat.le_of_ble_eq_true rfl)⟩ dX12_replaceNext_46 rfl (fun E n9 w9 hx => JT_n hx) (fun _ => rfl) (fun p_12 h => ?_)
      have h : Ok _ _ := h
      change J X K 2 False QQ 0 0 2055 (jw K σ p_12.2 o) 49 [(1, .int x1_1), (0, .ref (K.2.2 + 2017))] [.int p_12.1]
      rw [← hQQ]
      exact J_iret C hret (Nat.le_of_ble_eq_true rfl) (Nat.le_of_ble_eq_true rfl) ⟨_, h.osome, rfl, rfl, rfl⟩ dX12_replaceNext_49
  unfold f12_replaceNext at h
  refine J_aload_n (i := 0) (p := 0) C dX12_replaceNext_0 rfl rfl rfl ?_
  refine Jm_getI C fp_RX12_279 rfl rfl dX12_replaceNext_1 rfl ?_
  refine J_if_ne (t := 13) C dX12_replaceNext_4 (by decide) rfl (fun c_13 => ?_) (fun c_13 => ?_)
  · have h := h.neg c_13
    refine J_aload_n (i := 0) (p := 0) C dX12_replaceNext_13 rfl rfl rfl ?_
    refine J_aload_n (i := 0) (p := 0) C dX12_replaceNext_14 rfl rfl rfl ?_
    refine Jm_getS (o2 := 2) (r2 := 2019) C fp_RX12_13 rfl rfl rfl dX12_replaceNext_15 rfl ?_
    refine J_iconst (v := 0) C (by decide) dX12_replaceNext_18 rfl ?_
    obtain ⟨g_14, h⟩ := Ok.ofgd h
    refine Jm_iald C rfl rfl g_14 dX12_replaceNext_19 rfl ?_
    refine Jm_cV (rest := []) (st9 := fun p_15 => [.int p_15]) C hR hX cv_RX12_291 rfl (Nat.le_of_ble_eq_true rfl) (k12_findFrom hl  (Ok.ofbnd h)) rfl rfl (Nat.le_of_ble_eq_true rfl) (Nat.le_of_ble_eq_true rfl) (Nat.le_of_ble_eq_true rfl) ⟨(Nat.le_of_ble_eq_true rfl), (Nat.le_of_ble_eq_true rfl)⟩ dX12_replaceNext_20 rfl (fun E n9 w9 hx => JT_n hx) (fun _ => rfl) (fun p_15 h => ?_)
    have h : Ok _ _ := h
    change J X K 2 False QQ 0 0 2055 (jw K σ μ o) 23 [(0, .ref (K.2.2 + 2017))] [.int p_15]
    obtain ⟨x1_4, e_x1_4, h⟩ := Ok.nm h
    refine J_istoreE_n (i := 1) (lv' := [(1, .int x1_4), (0, .ref (K.2.2 + 2017))]) C e_x1_4 dX12_replaceNext_23 rfl (Nat.le_of_ble_eq_true rfl) rfl rfl ?_
    refine J_iload_n (i := 1) (p := 0) C dX12_replaceNext_24 rfl rfl rfl ?_
    refine J_iconst (v := -1) C (by decide) dX12_replaceNext_25 rfl ?_
    refine J_icmp_ne (t := 37) C dX12_replaceNext_26 (by decide) rfl (fun c_16 => ?_) (fun c_16 => ?_)
    · have h := h.neg c_16
      refine J_iload_n (i := 1) (p := 0) C dX12_replaceNext_37 rfl rfl rfl ?_
      refine J.sub [1] rfl ?_
      exact hj_38 μ x1_4 h
    · have h := h.pos (Decidable.not_not.mp c_16)
      refine J_aload_n (i := 0) (p := 1) C dX12_replaceNext_29 rfl rfl rfl ?_
      refine J_iconst (v := 0) C (by decide) dX12_replaceNext_30 rfl ?_
      refine Jm_cV (rest := []) (st9 := fun p_17 => [.int p_17]) C hR hX cv_RX12_291 rfl (Nat.le_of_ble_eq_true rfl) (k12_findFrom hl  (Ok.ofbnd h)) rfl rfl (Nat.le_of_ble_eq_true rfl) (Nat.le_of_ble_eq_true rfl) (Nat.le_of_ble_eq_true rfl) ⟨(Nat.le_of_ble_eq_true rfl), (Nat.le_of_ble_eq_true rfl)⟩ dX12_replaceNext_31 rfl (fun E n9 w9 hx => JT_n hx) (fun _ => rfl) (fun p_17 h => ?_)
      have h : Ok _ _ := h
      change J X K 2 False QQ 0 0 2055 (jw K σ μ o) 34 [(1, .int x1_4), (0, .ref (K.2.2 + 2017))] [.int p_17]
      refine J_goto (t := 38) C dX12_replaceNext_34 (by decide) ?_
      refine J.sub [1] rfl ?_
      exact hj_38 μ p_17 h
  · have h := h.pos (Decidable.not_not.mp c_13)
    refine J_aload_n (i := 0) (p := 0) C dX12_replaceNext_7 rfl rfl rfl ?_
    refine J_iconst (v := 1) C (by decide) dX12_replaceNext_8 rfl ?_
    refine Jm_cV (rest := []) (st9 := fun p_18 => [.int p_18.1]) C hR hX cv_RX12_206 rfl (Nat.le_of_ble_eq_true rfl) (k12_refuse hl  (Ok.ofbnd h)) rfl rfl (Nat.le_of_ble_eq_true rfl) (Nat.le_of_ble_eq_true rfl) (Nat.le_of_ble_eq_true rfl) ⟨(Nat.le_of_ble_eq_true rfl), (Nat.le_of_ble_eq_true rfl)⟩ dX12_replaceNext_9 rfl (fun E n9 w9 hx => JT_n hx) (fun _ => rfl) (fun p_18 h => ?_)
    have h : Ok _ _ := h
    change J X K 2 False QQ 0 0 2055 (jw K σ p_18.2 o) 12 [(0, .ref (K.2.2 + 2017))] [.int p_18.1]
    rw [← hQQ]
    exact J_iret C hret (Nat.le_of_ble_eq_true rfl) (Nat.le_of_ble_eq_true rfl) ⟨_, h.osome, rfl, rfl, rfl⟩ dX12_replaceNext_12
def f12_replaceAll_j87 (μ_87 : Sto) (s0_87 : Int32) : Option (Int32 × Sto) :=
  some (s0_87, μ_87)
def f12_replaceAll_b27 (μ_27 : Sto) (l1_27 : Int32) : Option ((Sto × Int32) ⊕ Sto) :=
  if l1_27 = (-1 : Int32) then
    some (.inr μ_27)
  else
    bnd (f12_adds μ_27 l1_27 (l1_27 + (fI μ_27 2017 15)) (0 : Int32) (fI μ_27 2017 28)) fun p_6 =>
    bnd (f12_findFrom p_6 (l1_27 + (fI p_6 2017 15))) fun p_7 =>
    stp p_7 fun x1_2 =>
    some (.inl (p_6, x1_2))
def f12_replaceAll_j27 (μ_27 : Sto) (l1_27 : Int32) : Option (Int32 × Sto) :=
  bnd (loopF (fun s_27 => f12_replaceAll_b27 s_27.1 s_27.2) FU (μ_27, l1_27)) fun r_27 =>
    stp (fI r_27 2017 27) fun x2_3 =>
    bnd (f12_acts r_27) fun p_8 =>
    if p_8.1 = 0 then
      bnd (f12_refuse p_8.2 (1 : Int32)) fun p_10 =>
      f12_replaceAll_j87 p_10.2 p_10.1
    else
      bnd (f12_told p_8.2 x2_3) fun p_11 =>
      f12_replaceAll_j87 p_11.2 p_11.1
def f12_replaceAll (μ : Sto) : Option (Int32 × Sto) :=
  if (fI μ 2017 15) = 0 then
    bnd (f12_refuse μ (1 : Int32)) fun p_16 =>
    some (p_16.1, p_16.2)
  else
    bnd (f12_begins μ) fun p_13 =>
    bnd (f12_putsTape p_13) fun p_14 =>
    bnd (f12_findFrom p_14 (0 : Int32)) fun p_15 =>
    stp p_15 fun x1_4 =>
    f12_replaceAll_j27 p_14 x1_4
set_option maxHeartbeats 4000000 in
set_option maxRecDepth 100000 in
theorem k12_replaceAll {l : Launch} {K : JK} (hl : l.stackTraces = false) {σ μ : Sto} {o : Int64}   {Qf : Int32 × Sto → Prop} (h : Ok (f12_replaceAll μ) Qf) : Con l K yX12_replaceAll (.code yX12_replaceAll cX12_replaceAll 3 (some .int) :: TB) 4 0 0 False [.ref (K.2.2 + 2017)] 2055 (jw K σ μ o) (PR Qf (fun p => some (.int p.1)) (fun p => jw K σ p.2 o)) PN := by
  refine Con.enter (own := RX12) hl (by decide) rfl (Nat.le_of_ble_eq_true rfl) ?_
  intro X hX hR C hret hnt
  generalize hQQ : jQ X K 0 0 (PR Qf (fun p => some (.int p.1)) (fun p => jw K σ p.2 o)) PN False = QQ
  change J X K 3 False QQ 0 0 2055 (jw K σ μ o) 0 [(0, .ref (K.2.2 + 2017))] []
  have hj_87 : (∀ (μ_87 : Sto) (s0_87 : Int32), Ok (f12_replaceAll_j87 μ_87 s0_87) Qf → J X K 3 False QQ 0 0 2055 (jw K σ μ_87 o) 87 [] [.int s0_87]) := by
    intro μ_87 s0_87 h
    unfold f12_replaceAll_j87 at h
    rw [← hQQ]
    exact J_iret C hret (Nat.le_of_ble_eq_true rfl) (Nat.le_of_ble_eq_true rfl) ⟨_, h.osome, rfl, rfl, rfl⟩ dX12_replaceAll_87
  have hj_27 : (∀ (μ_27 : Sto) (l1_27 : Int32), Ok (f12_replaceAll_j27 μ_27 l1_27) Qf → J X K 3 False QQ 0 0 2055 (jw K σ μ_27 o) 27 [(0, .ref (K.2.2 + 2017)), (1, .int l1_27)] []) := by
    intro μ_27 l1_27 h
    unfold f12_replaceAll_j27 at h
    refine loop_gen (S := Sto × Int32) (P := fun s_27 => J X K 3 False QQ 0 0 2055 (jw K σ s_27.1 o) 27 [(0, .ref (K.2.2 + 2017)), (1, .int s_27.2)] []) ?_ FU (μ_27, l1_27) (Ok.ofbnd h)
    intro B_27 hB_27 hE_27 s_27 h
    obtain ⟨μ_27, l1_27⟩ := s_27
    have h : Ok (f12_replaceAll_b27 μ_27 l1_27) B_27 := h
    change J X K 3 False QQ 0 0 2055 (jw K σ μ_27 o) 27 [(0, .ref (K.2.2 + 2017)), (1, .int l1_27)] []
    unfold f12_replaceAll_b27 at h
    refine J_iload_n (i := 1) (p := 1) C dX12_replaceAll_27 rfl rfl rfl ?_
    refine J_iconst (v := -1) C (by decide) dX12_replaceAll_28 rfl ?_
    refine J_icmp_eq (t := 62) C dX12_replaceAll_29 (by decide) rfl (fun c_1 => ?_) (fun c_1 => ?_)
    · have h := h.pos c_1
      have h := hE_27 μ_27 h.osome
      try dsimp only at h
      refine J_aload_n (i := 0) (p := 0) C dX12_replaceAll_62 rfl rfl rfl ?_
      refine Jm_getI C fp_RX12_155 rfl rfl dX12_replaceAll_63 rfl ?_
      obtain ⟨x2_1, e_x2_1, h⟩ := Ok.nm h
      refine J_istoreE_n (i := 2) (lv' := [(2, .int x2_1), (0, .ref (K.2.2 + 2017)), (1, .int l1_27)]) C e_x2_1 dX12_replaceAll_66 rfl (Nat.le_of_ble_eq_true rfl) rfl rfl ?_
      refine J_aload_n (i := 0) (p := 1) C dX12_replaceAll_67 rfl rfl rfl ?_
      refine Jm_cV (rest := []) (st9 := fun p_2 => [.int p_2.1]) C hR hX cv_RX12_244 rfl (Nat.le_of_ble_eq_true rfl) (k12_acts hl  (Ok.ofbnd h)) rfl rfl (Nat.le_of_ble_eq_true rfl) (Nat.le_of_ble_eq_true rfl) (Nat.le_of_ble_eq_true rfl) ⟨(Nat.le_of_ble_eq_true rfl), (Nat.le_of_ble_eq_true rfl)⟩ dX12_replaceAll_68 rfl (fun E n9 w9 hx => JT_n hx) (fun _ => rfl) (fun p_2 h => ?_)
      have h : Ok _ _ := h
      change J X K 3 False QQ 0 0 2055 (jw K σ p_2.2 o) 71 [(2, .int x2_1), (0, .ref (K.2.2 + 2017)), (1, .int l1_27)] [.int p_2.1]
      refine J_if_eq (t := 82) C dX12_replaceAll_71 (by decide) rfl (fun c_3 => ?_) (fun c_3 => ?_)
      · have h := h.pos c_3
        refine J_aload_n (i := 0) (p := 1) C dX12_replaceAll_82 rfl rfl rfl ?_
        refine J_iconst (v := 1) C (by decide) dX12_replaceAll_83 rfl ?_
        refine Jm_cV (rest := []) (st9 := fun p_4 => [.int p_4.1]) C hR hX cv_RX12_206 rfl (Nat.le_of_ble_eq_true rfl) (k12_refuse hl  (Ok.ofbnd h)) rfl rfl (Nat.le_of_ble_eq_true rfl) (Nat.le_of_ble_eq_true rfl) (Nat.le_of_ble_eq_true rfl) ⟨(Nat.le_of_ble_eq_true rfl), (Nat.le_of_ble_eq_true rfl)⟩ dX12_replaceAll_84 rfl (fun E n9 w9 hx => JT_n hx) (fun _ => rfl) (fun p_4 h => ?_)
        have h : Ok _ _ := h
        change J X K 3 False QQ 0 0 2055 (jw K σ p_4.2 o) 87 [(2, .int x2_1), (0, .ref (K.2.2 + 2017)), (1, .int l1_27)] [.int p_4.1]
        refine J.sub [] rfl ?_
        exact hj_87 p_4.2 p_4.1 h
      · have h := h.neg c_3
        refine J_aload_n (i := 0) (p := 1) C dX12_replaceAll_74 rfl rfl rfl ?_
        refine J_iload_n (i := 2) (p := 0) C dX12_replaceAll_75 rfl rfl rfl ?_
        refine Jm_cV (rest := []) (st9 := fun p_5 => [.int p_5.1]) C hR hX cv_RX12_209 rfl (Nat.le_of_ble_eq_true rfl) (k12_told hl  (Ok.ofbnd h)) rfl rfl (Nat.le_of_ble_eq_true rfl) (Nat.le_of_ble_eq_true rfl) (Nat.le_of_ble_eq_true rfl) ⟨(Nat.le_of_ble_eq_true rfl), (Nat.le_of_ble_eq_true rfl)⟩ dX12_replaceAll_76 rfl (fun E n9 w9 hx => JT_n hx) (fun _ => rfl) (fun p_5 h => ?_)
        have h : Ok _ _ := h
        change J X K 3 False QQ 0 0 2055 (jw K σ p_5.2 o) 79 [(2, .int x2_1), (0, .ref (K.2.2 + 2017)), (1, .int l1_27)] [.int p_5.1]
        refine J_goto (t := 87) C dX12_replaceAll_79 (by decide) ?_
        refine J.sub [] rfl ?_
        exact hj_87 p_5.2 p_5.1 h
    · have h := h.neg c_1
      refine J_aload_n (i := 0) (p := 0) C dX12_replaceAll_32 rfl rfl rfl ?_
      refine J_iload_n (i := 1) (p := 1) C dX12_replaceAll_33 rfl rfl rfl ?_
      refine J_iload_n (i := 1) (p := 1) C dX12_replaceAll_34 rfl rfl rfl ?_
      refine J_aload_n (i := 0) (p := 0) C dX12_replaceAll_35 rfl rfl rfl ?_
      refine Jm_getI C fp_RX12_279 rfl rfl dX12_replaceAll_36 rfl ?_
      refine J_iadd C dX12_replaceAll_39 rfl ?_
      refine J_iconst (v := 0) C (by decide) dX12_replaceAll_40 rfl ?_
      refine J_aload_n (i := 0) (p := 0) C dX12_replaceAll_41 rfl rfl rfl ?_
      refine Jm_getI C fp_RX12_158 rfl rfl dX12_replaceAll_42 rfl ?_
      refine Jm_cV (rest := []) (st9 := fun p_6 => []) C hR hX cv_RX12_240 rfl (Nat.le_of_ble_eq_true rfl) (k12_adds hl  (Ok.ofbnd h)) rfl rfl (Nat.le_of_ble_eq_true rfl) (Nat.le_of_ble_eq_true rfl) (Nat.le_of_ble_eq_true rfl) ⟨(Nat.le_of_ble_eq_true rfl), (Nat.le_of_ble_eq_true rfl)⟩ dX12_replaceAll_45 rfl (fun E n9 w9 hx => JT_n hx) (fun _ => rfl) (fun p_6 h => ?_)
      have h : Ok _ _ := h
      change J X K 3 False QQ 0 0 2055 (jw K σ p_6 o) 48 [(0, .ref (K.2.2 + 2017)), (1, .int l1_27)] []
      refine J_aload_n (i := 0) (p := 0) C dX12_replaceAll_48 rfl rfl rfl ?_
      refine J_iload_n (i := 1) (p := 1) C dX12_replaceAll_49 rfl rfl rfl ?_
      refine J_aload_n (i := 0) (p := 0) C dX12_replaceAll_50 rfl rfl rfl ?_
      refine Jm_getI C fp_RX12_279 rfl rfl dX12_replaceAll_51 rfl ?_
      refine J_iadd C dX12_replaceAll_54 rfl ?_
      refine Jm_cV (rest := []) (st9 := fun p_7 => [.int p_7]) C hR hX cv_RX12_291 rfl (Nat.le_of_ble_eq_true rfl) (k12_findFrom hl  (Ok.ofbnd h)) rfl rfl (Nat.le_of_ble_eq_true rfl) (Nat.le_of_ble_eq_true rfl) (Nat.le_of_ble_eq_true rfl) ⟨(Nat.le_of_ble_eq_true rfl), (Nat.le_of_ble_eq_true rfl)⟩ dX12_replaceAll_55 rfl (fun E n9 w9 hx => JT_n hx) (fun _ => rfl) (fun p_7 h => ?_)
      have h : Ok _ _ := h
      change J X K 3 False QQ 0 0 2055 (jw K σ p_6 o) 58 [(0, .ref (K.2.2 + 2017)), (1, .int l1_27)] [.int p_7]
      obtain ⟨x1_2, e_x1_2, h⟩ := Ok.nm h
      refine J_istoreE_n (i := 1) (lv' := [(1, .int x1_2), (0, .ref (K.2.2 + 2017))]) C e_x1_2 dX12_replaceAll_58 rfl (Nat.le_of_ble_eq_true rfl) rfl rfl ?_
      refine J_goto (t := 27) C dX12_replaceAll_59 (by decide) ?_
      refine J.sub [1, 0] rfl ?_
      exact hB_27 (p_6, x1_2) h.osome
  unfold f12_replaceAll at h
  refine J_aload_n (i := 0) (p := 0) C dX12_replaceAll_0 rfl rfl rfl ?_
  refine Jm_getI C fp_RX12_279 rfl rfl dX12_replaceAll_1 rfl ?_
  refine J_if_ne (t := 13) C dX12_replaceAll_4 (by decide) rfl (fun c_12 => ?_) (fun c_12 => ?_)
  · have h := h.neg c_12
    refine J_aload_n (i := 0) (p := 0) C dX12_replaceAll_13 rfl rfl rfl ?_
    refine Jm_cV (rest := []) (st9 := fun p_13 => []) C hR hX cv_RX12_234 rfl (Nat.le_of_ble_eq_true rfl) (k12_begins hl  (Ok.ofbnd h)) rfl rfl (Nat.le_of_ble_eq_true rfl) (Nat.le_of_ble_eq_true rfl) (Nat.le_of_ble_eq_true rfl) ⟨(Nat.le_of_ble_eq_true rfl), (Nat.le_of_ble_eq_true rfl)⟩ dX12_replaceAll_14 rfl (fun E n9 w9 hx => JT_n hx) (fun _ => rfl) (fun p_13 h => ?_)
    have h : Ok _ _ := h
    change J X K 3 False QQ 0 0 2055 (jw K σ p_13 o) 17 [(0, .ref (K.2.2 + 2017))] []
    refine J_aload_n (i := 0) (p := 0) C dX12_replaceAll_17 rfl rfl rfl ?_
    refine Jm_cV (rest := []) (st9 := fun p_14 => []) C hR hX cv_RX12_237 rfl (Nat.le_of_ble_eq_true rfl) (k12_putsTape hl  (Ok.ofbnd h)) rfl rfl (Nat.le_of_ble_eq_true rfl) (Nat.le_of_ble_eq_true rfl) (Nat.le_of_ble_eq_true rfl) ⟨(Nat.le_of_ble_eq_true rfl), (Nat.le_of_ble_eq_true rfl)⟩ dX12_replaceAll_18 rfl (fun E n9 w9 hx => JT_n hx) (fun _ => rfl) (fun p_14 h => ?_)
    have h : Ok _ _ := h
    change J X K 3 False QQ 0 0 2055 (jw K σ p_14 o) 21 [(0, .ref (K.2.2 + 2017))] []
    refine J_aload_n (i := 0) (p := 0) C dX12_replaceAll_21 rfl rfl rfl ?_
    refine J_iconst (v := 0) C (by decide) dX12_replaceAll_22 rfl ?_
    refine Jm_cV (rest := []) (st9 := fun p_15 => [.int p_15]) C hR hX cv_RX12_291 rfl (Nat.le_of_ble_eq_true rfl) (k12_findFrom hl  (Ok.ofbnd h)) rfl rfl (Nat.le_of_ble_eq_true rfl) (Nat.le_of_ble_eq_true rfl) (Nat.le_of_ble_eq_true rfl) ⟨(Nat.le_of_ble_eq_true rfl), (Nat.le_of_ble_eq_true rfl)⟩ dX12_replaceAll_23 rfl (fun E n9 w9 hx => JT_n hx) (fun _ => rfl) (fun p_15 h => ?_)
    have h : Ok _ _ := h
    change J X K 3 False QQ 0 0 2055 (jw K σ p_14 o) 26 [(0, .ref (K.2.2 + 2017))] [.int p_15]
    obtain ⟨x1_4, e_x1_4, h⟩ := Ok.nm h
    refine J_istoreE_n (i := 1) (lv' := [(1, .int x1_4), (0, .ref (K.2.2 + 2017))]) C e_x1_4 dX12_replaceAll_26 rfl (Nat.le_of_ble_eq_true rfl) rfl rfl ?_
    refine J.sub [1, 0] rfl ?_
    exact hj_27 p_14 x1_4 h
  · have h := h.pos (Decidable.not_not.mp c_12)
    refine J_aload_n (i := 0) (p := 0) C dX12_replaceAll_7 rfl rfl rfl ?_
    refine J_iconst (v := 1) C (by decide) dX12_replaceAll_8 rfl ?_
    refine Jm_cV (rest := []) (st9 := fun p_16 => [.int p_16.1]) C hR hX cv_RX12_206 rfl (Nat.le_of_ble_eq_true rfl) (k12_refuse hl  (Ok.ofbnd h)) rfl rfl (Nat.le_of_ble_eq_true rfl) (Nat.le_of_ble_eq_true rfl) (Nat.le_of_ble_eq_true rfl) ⟨(Nat.le_of_ble_eq_true rfl), (Nat.le_of_ble_eq_true rfl)⟩ dX12_replaceAll_9 rfl (fun E n9 w9 hx => JT_n hx) (fun _ => rfl) (fun p_16 h => ?_)
    have h : Ok _ _ := h
    change J X K 3 False QQ 0 0 2055 (jw K σ p_16.2 o) 12 [(0, .ref (K.2.2 + 2017))] [.int p_16.1]
    rw [← hQQ]
    exact J_iret C hret (Nat.le_of_ble_eq_true rfl) (Nat.le_of_ble_eq_true rfl) ⟨_, h.osome, rfl, rfl, rfl⟩ dX12_replaceAll_12
def f12_closes (μ : Sto) : Option (Sto) :=
  stp (uI μ 2017 34 (0 : Int32)) fun μx_1 =>
  stp (uI μx_1 2017 33 (-1 : Int32)) fun μx_2 =>
  some μx_2
set_option maxHeartbeats 4000000 in
set_option maxRecDepth 100000 in
theorem k12_closes {l : Launch} {K : JK} (hl : l.stackTraces = false) {σ μ : Sto} {o : Int64}   {Qf : Sto → Prop} (h : Ok (f12_closes μ) Qf) : Con l K yX12_closes (.code yX12_closes cX12_closes 1 none :: TB) 0 0 0 False [.ref (K.2.2 + 2017)] 2055 (jw K σ μ o) (PR Qf (fun p => none) (fun p => jw K σ p o)) PN := by
  refine Con.enter (own := RX12) hl (by decide) rfl (Nat.le_of_ble_eq_true rfl) ?_
  intro X hX hR C hret hnt
  generalize hQQ : jQ X K 0 0 (PR Qf (fun p => none) (fun p => jw K σ p o)) PN False = QQ
  change J X K 1 False QQ 0 0 2055 (jw K σ μ o) 0 [(0, .ref (K.2.2 + 2017))] []
  unfold f12_closes at h
  refine J_aload_n (i := 0) (p := 0) C dX12_closes_0 rfl rfl rfl ?_
  refine J_iconst (v := 0) C (by decide) dX12_closes_1 rfl ?_
  obtain ⟨μx_1, e_μx_1, h⟩ := Ok.nm h
  refine Jm_putZ C id fp_RX12_174 fw_11_34 rfl rfl rfl rfl e_μx_1 dX12_closes_2 rfl ?_
  refine J_aload_n (i := 0) (p := 0) C dX12_closes_5 rfl rfl rfl ?_
  refine J_iconst (v := -1) C (by decide) dX12_closes_6 rfl ?_
  obtain ⟨μx_2, e_μx_2, h⟩ := Ok.nm h
  refine Jm_putI C id fp_RX12_72 fw_11_33 rfl rfl rfl e_μx_2 dX12_closes_7 rfl ?_
  rw [← hQQ]
  exact J_vret C hret (Nat.le_of_ble_eq_true rfl) (Nat.le_of_ble_eq_true rfl) ⟨_, h.osome, rfl, rfl, rfl⟩ dX12_closes_10
def f12_undo_j94 (l1 : Int32) (μ_94 : Sto) (l2_94 : Int32) : Option (Int32 × Sto) :=
  bnd (f12_told μ_94 l2_94) fun p_1 =>
  some (p_1.1, p_1.2)
def f12_undo_b23 (l1 : Int32) (μ_23 : Sto) (l2_23 : Int32) : Option ((Sto × Int32) ⊕ (Sto × Int32)) :=
  if l1 ≤ l2_23 then
    some (.inr (μ_23, l2_23))
  else
    if (fI μ_23 2017 32) = 0 then
      some (.inr (μ_23, l2_23))
    else
      bnd (f12_undone (fI μ_23 2017 32)) fun p_4 =>
      bnd (f12_keeps μ_23 p_4) fun p_5 =>
      bnd (f12_ahead (fI p_5 2017 32)) fun p_6 =>
      bnd (f12_brings p_5 p_6) fun p_7 =>
      gd (inb (fI p_7 2017 32) 151) <|
      gd (inb (aI p_7 2034 (Int32.toNatClampNeg (fI p_7 2017 32))) 151) <|
      stp (uA p_7 2035 (Int32.toNatClampNeg (aI p_7 2034 (Int32.toNatClampNeg (fI p_7 2017 32)))) (fI p_7 2017 32)) fun μx_1 =>
      gd (inb (fI μx_1 2017 32) 151) <|
      stp (uI μx_1 2017 32 (aI μx_1 2034 (Int32.toNatClampNeg (fI μx_1 2017 32)))) fun μx_2 =>
      stp (l2_23 + (1 : Int32)) fun x2_3 =>
      some (.inl (μx_2, x2_3))
def f12_undo_j23 (l1 : Int32) (μ_23 : Sto) (l2_23 : Int32) : Option (Int32 × Sto) :=
  bnd (loopF (fun s_23 => f12_undo_b23 l1 s_23.1 s_23.2) FU (μ_23, l2_23)) fun r_23 =>
    f12_undo_j94 l1 r_23.1 r_23.2
def f12_undo (μ : Sto) (l1 : Int32) : Option (Int32 × Sto) :=
  bnd (f12_in l1 (1 : Int32) (150 : Int32)) fun p_11 =>
  if p_11 = 0 then
    bnd (f12_refuse μ (1 : Int32)) fun p_14 =>
    some (p_14.1, p_14.2)
  else
    bnd (f12_closes μ) fun p_13 =>
    stp (0 : Int32) fun x2_4 =>
    f12_undo_j23 l1 p_13 x2_4
set_option maxHeartbeats 4000000 in
set_option maxRecDepth 100000 in
theorem k12_undo {l : Launch} {K : JK} (hl : l.stackTraces = false) {σ μ : Sto} {o : Int64} {l1 : Int32}  {Qf : Int32 × Sto → Prop} (h : Ok (f12_undo μ l1) Qf) : Con l K yX12_undo (.code yX12_undo cX12_undo 3 (some .int) :: TB) 1 0 0 False [.ref (K.2.2 + 2017), .int l1] 2055 (jw K σ μ o) (PR Qf (fun p => some (.int p.1)) (fun p => jw K σ p.2 o)) PN := by
  refine Con.enter (own := RX12) hl (by decide) rfl (Nat.le_of_ble_eq_true rfl) ?_
  intro X hX hR C hret hnt
  generalize hQQ : jQ X K 0 0 (PR Qf (fun p => some (.int p.1)) (fun p => jw K σ p.2 o)) PN False = QQ
  change J X K 3 False QQ 0 0 2055 (jw K σ μ o) 0 [(0, .ref (K.2.2 + 2017)), (1, .int l1)] []
  have hj_94 : (∀ (μ_94 : Sto) (l2_94 : Int32), Ok (f12_undo_j94 l1 μ_94 l2_94) Qf → J X K 3 False QQ 0 0 2055 (jw K σ μ_94 o) 94 [(0, .ref (K.2.2 + 2017)), (2, .int l2_94)] []) := by
    intro μ_94 l2_94 h
    unfold f12_undo_j94 at h
    refine J_aload_n (i := 0) (p := 0) C dX12_undo_94 rfl rfl rfl ?_
    refine J_iload_n (i := 2) (p := 1) C dX12_undo_95 rfl rfl rfl ?_
    refine Jm_cV (rest := []) (st9 := fun p_1 => [.int p_1.1]) C hR hX cv_RX12_209 rfl (Nat.le_of_ble_eq_true rfl) (k12_told hl  (Ok.ofbnd h)) rfl rfl (Nat.le_of_ble_eq_true rfl) (Nat.le_of_ble_eq_true rfl) (Nat.le_of_ble_eq_true rfl) ⟨(Nat.le_of_ble_eq_true rfl), (Nat.le_of_ble_eq_true rfl)⟩ dX12_undo_96 rfl (fun E n9 w9 hx => JT_n hx) (fun _ => rfl) (fun p_1 h => ?_)
    have h : Ok _ _ := h
    change J X K 3 False QQ 0 0 2055 (jw K σ p_1.2 o) 99 [(0, .ref (K.2.2 + 2017)), (2, .int l2_94)] [.int p_1.1]
    rw [← hQQ]
    exact J_iret C hret (Nat.le_of_ble_eq_true rfl) (Nat.le_of_ble_eq_true rfl) ⟨_, h.osome, rfl, rfl, rfl⟩ dX12_undo_99
  have hj_23 : (∀ (μ_23 : Sto) (l2_23 : Int32), Ok (f12_undo_j23 l1 μ_23 l2_23) Qf → J X K 3 False QQ 0 0 2055 (jw K σ μ_23 o) 23 [(0, .ref (K.2.2 + 2017)), (1, .int l1), (2, .int l2_23)] []) := by
    intro μ_23 l2_23 h
    unfold f12_undo_j23 at h
    refine loop_gen (S := Sto × Int32) (P := fun s_23 => J X K 3 False QQ 0 0 2055 (jw K σ s_23.1 o) 23 [(0, .ref (K.2.2 + 2017)), (1, .int l1), (2, .int s_23.2)] []) ?_ FU (μ_23, l2_23) (Ok.ofbnd h)
    intro B_23 hB_23 hE_23 s_23 h
    obtain ⟨μ_23, l2_23⟩ := s_23
    have h : Ok (f12_undo_b23 l1 μ_23 l2_23) B_23 := h
    change J X K 3 False QQ 0 0 2055 (jw K σ μ_23 o) 23 [(0, .ref (K.2.2 + 2017)), (1, .int l1), (2, .int l2_23)] []
    unfold f12_undo_b23 at h
    refine J_iload_n (i := 2) (p := 2) C dX12_undo_23 rfl rfl rfl ?_
    refine J_iload_n (i := 1) (p := 1) C dX12_undo_24 rfl rfl rfl ?_
    refine J_icmp_ge (t := 94) C dX12_undo_25 (by decide) rfl (fun c_2 => ?_) (fun c_2 => ?_)
    · have h := h.pos c_2
      have h := hE_23 (μ_23, l2_23) h.osome
      try dsimp only at h
      refine J.sub [0, 2] rfl ?_
      exact hj_94 μ_23 l2_23 h
    · have h := h.neg c_2
      refine J_aload_n (i := 0) (p := 0) C dX12_undo_28 rfl rfl rfl ?_
      refine Jm_getI C fp_RX12_185 rfl rfl dX12_undo_29 rfl ?_
      refine J_if_eq (t := 94) C dX12_undo_32 (by decide) rfl (fun c_3 => ?_) (fun c_3 => ?_)
      · have h := h.pos c_3
        have h := hE_23 (μ_23, l2_23) h.osome
        try dsimp only at h
        refine J.sub [0, 2] rfl ?_
        exact hj_94 μ_23 l2_23 h
      · have h := h.neg c_3
        refine J_aload_n (i := 0) (p := 0) C dX12_undo_35 rfl rfl rfl ?_
        refine J_aload_n (i := 0) (p := 0) C dX12_undo_36 rfl rfl rfl ?_
        refine Jm_getI C fp_RX12_185 rfl rfl dX12_undo_37 rfl ?_
        refine J_cS (rest := [.ref (K.2.2 + 2017)]) (st9 := fun p_4 => [.int p_4, .ref (K.2.2 + 2017)]) C hR hX cs_RX12_300 (k12_undone hl  (Ok.ofbnd h)) rfl rfl (Nat.le_of_ble_eq_true rfl) (Nat.le_of_ble_eq_true rfl) (Nat.le_of_ble_eq_true rfl) ⟨(Nat.le_of_ble_eq_true rfl), (Nat.le_of_ble_eq_true rfl)⟩ dX12_undo_40 rfl (fun E n9 w9 hx => JT_n hx) (fun _ => rfl) (fun p_4 h => ?_)
        have h : Ok _ _ := h
        change J X K 3 False QQ 0 0 2055 (jw K σ μ_23 o) 43 [(0, .ref (K.2.2 + 2017)), (1, .int l1), (2, .int l2_23)] [.int p_4, .ref (K.2.2 + 2017)]
        refine Jm_cV (rest := []) (st9 := fun p_5 => []) C hR hX cv_RX12_191 rfl (Nat.le_of_ble_eq_true rfl) (k12_keeps hl  (Ok.ofbnd h)) rfl rfl (Nat.le_of_ble_eq_true rfl) (Nat.le_of_ble_eq_true rfl) (Nat.le_of_ble_eq_true rfl) ⟨(Nat.le_of_ble_eq_true rfl), (Nat.le_of_ble_eq_true rfl)⟩ dX12_undo_43 rfl (fun E n9 w9 hx => JT_n hx) (fun _ => rfl) (fun p_5 h => ?_)
        have h : Ok _ _ := h
        change J X K 3 False QQ 0 0 2055 (jw K σ p_5 o) 46 [(0, .ref (K.2.2 + 2017)), (1, .int l1), (2, .int l2_23)] []
        refine J_aload_n (i := 0) (p := 0) C dX12_undo_46 rfl rfl rfl ?_
        refine J_aload_n (i := 0) (p := 0) C dX12_undo_47 rfl rfl rfl ?_
        refine Jm_getI C fp_RX12_185 rfl rfl dX12_undo_48 rfl ?_
        refine J_cS (rest := [.ref (K.2.2 + 2017)]) (st9 := fun p_6 => [.int p_6, .ref (K.2.2 + 2017)]) C hR hX cs_RX12_188 (k12_ahead hl  (Ok.ofbnd h)) rfl rfl (Nat.le_of_ble_eq_true rfl) (Nat.le_of_ble_eq_true rfl) (Nat.le_of_ble_eq_true rfl) ⟨(Nat.le_of_ble_eq_true rfl), (Nat.le_of_ble_eq_true rfl)⟩ dX12_undo_51 rfl (fun E n9 w9 hx => JT_n hx) (fun _ => rfl) (fun p_6 h => ?_)
        have h : Ok _ _ := h
        change J X K 3 False QQ 0 0 2055 (jw K σ p_5 o) 54 [(0, .ref (K.2.2 + 2017)), (1, .int l1), (2, .int l2_23)] [.int p_6, .ref (K.2.2 + 2017)]
        refine Jm_cV (rest := []) (st9 := fun p_7 => []) C hR hX cv_RX12_303 rfl (Nat.le_of_ble_eq_true rfl) (k12_brings hl  (Ok.ofbnd h)) rfl rfl (Nat.le_of_ble_eq_true rfl) (Nat.le_of_ble_eq_true rfl) (Nat.le_of_ble_eq_true rfl) ⟨(Nat.le_of_ble_eq_true rfl), (Nat.le_of_ble_eq_true rfl)⟩ dX12_undo_54 rfl (fun E n9 w9 hx => JT_n hx) (fun _ => rfl) (fun p_7 h => ?_)
        have h : Ok _ _ := h
        change J X K 3 False QQ 0 0 2055 (jw K σ p_7 o) 57 [(0, .ref (K.2.2 + 2017)), (1, .int l1), (2, .int l2_23)] []
        refine J_aload_n (i := 0) (p := 0) C dX12_undo_57 rfl rfl rfl ?_
        refine Jm_getS (o2 := 18) (r2 := 2035) C fp_RX12_69 rfl rfl rfl dX12_undo_58 rfl ?_
        refine J_aload_n (i := 0) (p := 0) C dX12_undo_61 rfl rfl rfl ?_
        refine Jm_getS (o2 := 17) (r2 := 2034) C fp_RX12_66 rfl rfl rfl dX12_undo_62 rfl ?_
        refine J_aload_n (i := 0) (p := 0) C dX12_undo_65 rfl rfl rfl ?_
        refine Jm_getI C fp_RX12_185 rfl rfl dX12_undo_66 rfl ?_
        obtain ⟨g_8, h⟩ := Ok.ofgd h
        refine Jm_iald C rfl rfl g_8 dX12_undo_69 rfl ?_
        refine J_aload_n (i := 0) (p := 0) C dX12_undo_70 rfl rfl rfl ?_
        refine Jm_getI C fp_RX12_185 rfl rfl dX12_undo_71 rfl ?_
        obtain ⟨g_9, h⟩ := Ok.ofgd h
        obtain ⟨μx_1, e_μx_1, h⟩ := Ok.nm h
        refine Jm_iast C id rfl rfl g_9 e_μx_1 dX12_undo_74 rfl ?_
        refine J_aload_n (i := 0) (p := 0) C dX12_undo_75 rfl rfl rfl ?_
        refine J_aload_n (i := 0) (p := 0) C dX12_undo_76 rfl rfl rfl ?_
        refine Jm_getS (o2 := 17) (r2 := 2034) C fp_RX12_66 rfl rfl rfl dX12_undo_77 rfl ?_
        refine J_aload_n (i := 0) (p := 0) C dX12_undo_80 rfl rfl rfl ?_
        refine Jm_getI C fp_RX12_185 rfl rfl dX12_undo_81 rfl ?_
        obtain ⟨g_10, h⟩ := Ok.ofgd h
        refine Jm_iald C rfl rfl g_10 dX12_undo_84 rfl ?_
        obtain ⟨μx_2, e_μx_2, h⟩ := Ok.nm h
        refine Jm_putI C id fp_RX12_185 fw_11_32 rfl rfl rfl e_μx_2 dX12_undo_85 rfl ?_
        obtain ⟨x2_3, e_x2_3, h⟩ := Ok.nm h
        refine J_iincE (i := 2) (p := 2) (lv' := [(2, .int x2_3), (0, .ref (K.2.2 + 2017)), (1, .int l1)]) C e_x2_3 dX12_undo_88 rfl (by decide) (Nat.le_of_ble_eq_true rfl) rfl rfl ?_
        refine J_goto (t := 23) C dX12_undo_91 (by decide) ?_
        refine J.sub [1, 2, 0] rfl ?_
        exact hB_23 (μx_2, x2_3) h.osome
  unfold f12_undo at h
  refine J_iload_n (i := 1) (p := 1) C dX12_undo_0 rfl rfl rfl ?_
  refine J_iconst (v := 1) C (by decide) dX12_undo_1 rfl ?_
  refine J_sipush (v := 150) C (by decide) dX12_undo_2 rfl ?_
  refine J_cS (rest := []) (st9 := fun p_11 => [.int p_11]) C hR hX cs_RX12_134 (k12_in hl  (Ok.ofbnd h)) rfl rfl (Nat.le_of_ble_eq_true rfl) (Nat.le_of_ble_eq_true rfl) (Nat.le_of_ble_eq_true rfl) ⟨(Nat.le_of_ble_eq_true rfl), (Nat.le_of_ble_eq_true rfl)⟩ dX12_undo_5 rfl (fun E n9 w9 hx => JT_n hx) (fun _ => rfl) (fun p_11 h => ?_)
  have h : Ok _ _ := h
  change J X K 3 False QQ 0 0 2055 (jw K σ μ o) 8 [(0, .ref (K.2.2 + 2017)), (1, .int l1)] [.int p_11]
  refine J_if_ne (t := 17) C dX12_undo_8 (by decide) rfl (fun c_12 => ?_) (fun c_12 => ?_)
  · have h := h.neg c_12
    refine J_aload_n (i := 0) (p := 0) C dX12_undo_17 rfl rfl rfl ?_
    refine Jm_cV (rest := []) (st9 := fun p_13 => []) C hR hX cv_RX12_297 rfl (Nat.le_of_ble_eq_true rfl) (k12_closes hl  (Ok.ofbnd h)) rfl rfl (Nat.le_of_ble_eq_true rfl) (Nat.le_of_ble_eq_true rfl) (Nat.le_of_ble_eq_true rfl) ⟨(Nat.le_of_ble_eq_true rfl), (Nat.le_of_ble_eq_true rfl)⟩ dX12_undo_18 rfl (fun E n9 w9 hx => JT_n hx) (fun _ => rfl) (fun p_13 h => ?_)
    have h : Ok _ _ := h
    change J X K 3 False QQ 0 0 2055 (jw K σ p_13 o) 21 [(0, .ref (K.2.2 + 2017)), (1, .int l1)] []
    refine J_iconst (v := 0) C (by decide) dX12_undo_21 rfl ?_
    obtain ⟨x2_4, e_x2_4, h⟩ := Ok.nm h
    refine J_istoreE_n (i := 2) (lv' := [(2, .int x2_4), (0, .ref (K.2.2 + 2017)), (1, .int l1)]) C e_x2_4 dX12_undo_22 rfl (Nat.le_of_ble_eq_true rfl) rfl rfl ?_
    refine J.sub [1, 2, 0] rfl ?_
    exact hj_23 p_13 x2_4 h
  · have h := h.pos (Decidable.not_not.mp c_12)
    refine J_aload_n (i := 0) (p := 0) C dX12_undo_11 rfl rfl rfl ?_
    refine J_iconst (v := 1) C (by decide) dX12_undo_12 rfl ?_
    refine Jm_cV (rest := []) (st9 := fun p_14 => [.int p_14.1]) C hR hX cv_RX12_206 rfl (Nat.le_of_ble_eq_true rfl) (k12_refuse hl  (Ok.ofbnd h)) rfl rfl (Nat.le_of_ble_eq_true rfl) (Nat.le_of_ble_eq_true rfl) (Nat.le_of_ble_eq_true rfl) ⟨(Nat.le_of_ble_eq_true rfl), (Nat.le_of_ble_eq_true rfl)⟩ dX12_undo_13 rfl (fun E n9 w9 hx => JT_n hx) (fun _ => rfl) (fun p_14 h => ?_)
    have h : Ok _ _ := h
    change J X K 3 False QQ 0 0 2055 (jw K σ p_14.2 o) 16 [(0, .ref (K.2.2 + 2017)), (1, .int l1)] [.int p_14.1]
    rw [← hQQ]
    exact J_iret C hret (Nat.le_of_ble_eq_true rfl) (Nat.le_of_ble_eq_true rfl) ⟨_, h.osome, rfl, rfl, rfl⟩ dX12_undo_16
def f12_redo_j70 (l1 : Int32) (μ_70 : Sto) (l2_70 : Int32) : Option (Int32 × Sto) :=
  bnd (f12_told μ_70 l2_70) fun p_1 =>
  some (p_1.1, p_1.2)
def f12_redo_b23 (l1 : Int32) (μ_23 : Sto) (l2_23 : Int32) : Option ((Sto × Int32) ⊕ (Sto × Int32)) :=
  if l1 ≤ l2_23 then
    some (.inr (μ_23, l2_23))
  else
    gd (inb (fI μ_23 2017 32) 151) <|
    if (aI μ_23 2035 (Int32.toNatClampNeg (fI μ_23 2017 32))) = 0 then
      some (.inr (μ_23, l2_23))
    else
      gd (inb (fI μ_23 2017 32) 151) <|
      stp (uI μ_23 2017 32 (aI μ_23 2035 (Int32.toNatClampNeg (fI μ_23 2017 32)))) fun μx_1 =>
      bnd (f12_undone (fI μx_1 2017 32)) fun p_6 =>
      bnd (f12_brings μx_1 p_6) fun p_7 =>
      stp (l2_23 + (1 : Int32)) fun x2_2 =>
      some (.inl (p_7, x2_2))
def f12_redo_j23 (l1 : Int32) (μ_23 : Sto) (l2_23 : Int32) : Option (Int32 × Sto) :=
  bnd (loopF (fun s_23 => f12_redo_b23 l1 s_23.1 s_23.2) FU (μ_23, l2_23)) fun r_23 =>
    f12_redo_j70 l1 r_23.1 r_23.2
def f12_redo (μ : Sto) (l1 : Int32) : Option (Int32 × Sto) :=
  bnd (f12_in l1 (1 : Int32) (150 : Int32)) fun p_8 =>
  if p_8 = 0 then
    bnd (f12_refuse μ (1 : Int32)) fun p_11 =>
    some (p_11.1, p_11.2)
  else
    bnd (f12_closes μ) fun p_10 =>
    stp (0 : Int32) fun x2_3 =>
    f12_redo_j23 l1 p_10 x2_3
set_option maxHeartbeats 4000000 in
set_option maxRecDepth 100000 in
theorem k12_redo {l : Launch} {K : JK} (hl : l.stackTraces = false) {σ μ : Sto} {o : Int64} {l1 : Int32}  {Qf : Int32 × Sto → Prop} (h : Ok (f12_redo μ l1) Qf) : Con l K yX12_redo (.code yX12_redo cX12_redo 3 (some .int) :: TB) 1 0 0 False [.ref (K.2.2 + 2017), .int l1] 2055 (jw K σ μ o) (PR Qf (fun p => some (.int p.1)) (fun p => jw K σ p.2 o)) PN := by
  refine Con.enter (own := RX12) hl (by decide) rfl (Nat.le_of_ble_eq_true rfl) ?_
  intro X hX hR C hret hnt
  generalize hQQ : jQ X K 0 0 (PR Qf (fun p => some (.int p.1)) (fun p => jw K σ p.2 o)) PN False = QQ
  change J X K 3 False QQ 0 0 2055 (jw K σ μ o) 0 [(0, .ref (K.2.2 + 2017)), (1, .int l1)] []
  have hj_70 : (∀ (μ_70 : Sto) (l2_70 : Int32), Ok (f12_redo_j70 l1 μ_70 l2_70) Qf → J X K 3 False QQ 0 0 2055 (jw K σ μ_70 o) 70 [(0, .ref (K.2.2 + 2017)), (2, .int l2_70)] []) := by
    intro μ_70 l2_70 h
    unfold f12_redo_j70 at h
    refine J_aload_n (i := 0) (p := 0) C dX12_redo_70 rfl rfl rfl ?_
    refine J_iload_n (i := 2) (p := 1) C dX12_redo_71 rfl rfl rfl ?_
    refine Jm_cV (rest := []) (st9 := fun p_1 => [.int p_1.1]) C hR hX cv_RX12_209 rfl (Nat.le_of_ble_eq_true rfl) (k12_told hl  (Ok.ofbnd h)) rfl rfl (Nat.le_of_ble_eq_true rfl) (Nat.le_of_ble_eq_true rfl) (Nat.le_of_ble_eq_true rfl) ⟨(Nat.le_of_ble_eq_true rfl), (Nat.le_of_ble_eq_true rfl)⟩ dX12_redo_72 rfl (fun E n9 w9 hx => JT_n hx) (fun _ => rfl) (fun p_1 h => ?_)
    have h : Ok _ _ := h
    change J X K 3 False QQ 0 0 2055 (jw K σ p_1.2 o) 75 [(0, .ref (K.2.2 + 2017)), (2, .int l2_70)] [.int p_1.1]
    rw [← hQQ]
    exact J_iret C hret (Nat.le_of_ble_eq_true rfl) (Nat.le_of_ble_eq_true rfl) ⟨_, h.osome, rfl, rfl, rfl⟩ dX12_redo_75
  have hj_23 : (∀ (μ_23 : Sto) (l2_23 : Int32), Ok (f12_redo_j23 l1 μ_23 l2_23) Qf → J X K 3 False QQ 0 0 2055 (jw K σ μ_23 o) 23 [(0, .ref (K.2.2 + 2017)), (1, .int l1), (2, .int l2_23)] []) := by
    intro μ_23 l2_23 h
    unfold f12_redo_j23 at h
    refine loop_gen (S := Sto × Int32) (P := fun s_23 => J X K 3 False QQ 0 0 2055 (jw K σ s_23.1 o) 23 [(0, .ref (K.2.2 + 2017)), (1, .int l1), (2, .int s_23.2)] []) ?_ FU (μ_23, l2_23) (Ok.ofbnd h)
    intro B_23 hB_23 hE_23 s_23 h
    obtain ⟨μ_23, l2_23⟩ := s_23
    have h : Ok (f12_redo_b23 l1 μ_23 l2_23) B_23 := h
    change J X K 3 False QQ 0 0 2055 (jw K σ μ_23 o) 23 [(0, .ref (K.2.2 + 2017)), (1, .int l1), (2, .int l2_23)] []
    unfold f12_redo_b23 at h
    refine J_iload_n (i := 2) (p := 2) C dX12_redo_23 rfl rfl rfl ?_
    refine J_iload_n (i := 1) (p := 1) C dX12_redo_24 rfl rfl rfl ?_
    refine J_icmp_ge (t := 70) C dX12_redo_25 (by decide) rfl (fun c_2 => ?_) (fun c_2 => ?_)
    · have h := h.pos c_2
      have h := hE_23 (μ_23, l2_23) h.osome
      try dsimp only at h
      refine J.sub [0, 2] rfl ?_
      exact hj_70 μ_23 l2_23 h
    · have h := h.neg c_2
      refine J_aload_n (i := 0) (p := 0) C dX12_redo_28 rfl rfl rfl ?_
      refine Jm_getS (o2 := 18) (r2 := 2035) C fp_RX12_69 rfl rfl rfl dX12_redo_29 rfl ?_
      refine J_aload_n (i := 0) (p := 0) C dX12_redo_32 rfl rfl rfl ?_
      refine Jm_getI C fp_RX12_185 rfl rfl dX12_redo_33 rfl ?_
      obtain ⟨g_3, h⟩ := Ok.ofgd h
      refine Jm_iald C rfl rfl g_3 dX12_redo_36 rfl ?_
      refine J_if_eq (t := 70) C dX12_redo_37 (by decide) rfl (fun c_4 => ?_) (fun c_4 => ?_)
      · have h := h.pos c_4
        have h := hE_23 (μ_23, l2_23) h.osome
        try dsimp only at h
        refine J.sub [0, 2] rfl ?_
        exact hj_70 μ_23 l2_23 h
      · have h := h.neg c_4
        refine J_aload_n (i := 0) (p := 0) C dX12_redo_40 rfl rfl rfl ?_
        refine J_aload_n (i := 0) (p := 0) C dX12_redo_41 rfl rfl rfl ?_
        refine Jm_getS (o2 := 18) (r2 := 2035) C fp_RX12_69 rfl rfl rfl dX12_redo_42 rfl ?_
        refine J_aload_n (i := 0) (p := 0) C dX12_redo_45 rfl rfl rfl ?_
        refine Jm_getI C fp_RX12_185 rfl rfl dX12_redo_46 rfl ?_
        obtain ⟨g_5, h⟩ := Ok.ofgd h
        refine Jm_iald C rfl rfl g_5 dX12_redo_49 rfl ?_
        obtain ⟨μx_1, e_μx_1, h⟩ := Ok.nm h
        refine Jm_putI C id fp_RX12_185 fw_11_32 rfl rfl rfl e_μx_1 dX12_redo_50 rfl ?_
        refine J_aload_n (i := 0) (p := 0) C dX12_redo_53 rfl rfl rfl ?_
        refine J_aload_n (i := 0) (p := 0) C dX12_redo_54 rfl rfl rfl ?_
        refine Jm_getI C fp_RX12_185 rfl rfl dX12_redo_55 rfl ?_
        refine J_cS (rest := [.ref (K.2.2 + 2017)]) (st9 := fun p_6 => [.int p_6, .ref (K.2.2 + 2017)]) C hR hX cs_RX12_300 (k12_undone hl  (Ok.ofbnd h)) rfl rfl (Nat.le_of_ble_eq_true rfl) (Nat.le_of_ble_eq_true rfl) (Nat.le_of_ble_eq_true rfl) ⟨(Nat.le_of_ble_eq_true rfl), (Nat.le_of_ble_eq_true rfl)⟩ dX12_redo_58 rfl (fun E n9 w9 hx => JT_n hx) (fun _ => rfl) (fun p_6 h => ?_)
        have h : Ok _ _ := h
        change J X K 3 False QQ 0 0 2055 (jw K σ μx_1 o) 61 [(0, .ref (K.2.2 + 2017)), (1, .int l1), (2, .int l2_23)] [.int p_6, .ref (K.2.2 + 2017)]
        refine Jm_cV (rest := []) (st9 := fun p_7 => []) C hR hX cv_RX12_303 rfl (Nat.le_of_ble_eq_true rfl) (k12_brings hl  (Ok.ofbnd h)) rfl rfl (Nat.le_of_ble_eq_true rfl) (Nat.le_of_ble_eq_true rfl) (Nat.le_of_ble_eq_true rfl) ⟨(Nat.le_of_ble_eq_true rfl), (Nat.le_of_ble_eq_true rfl)⟩ dX12_redo_61 rfl (fun E n9 w9 hx => JT_n hx) (fun _ => rfl) (fun p_7 h => ?_)
        have h : Ok _ _ := h
        change J X K 3 False QQ 0 0 2055 (jw K σ p_7 o) 64 [(0, .ref (K.2.2 + 2017)), (1, .int l1), (2, .int l2_23)] []
        obtain ⟨x2_2, e_x2_2, h⟩ := Ok.nm h
        refine J_iincE (i := 2) (p := 2) (lv' := [(2, .int x2_2), (0, .ref (K.2.2 + 2017)), (1, .int l1)]) C e_x2_2 dX12_redo_64 rfl (by decide) (Nat.le_of_ble_eq_true rfl) rfl rfl ?_
        refine J_goto (t := 23) C dX12_redo_67 (by decide) ?_
        refine J.sub [1, 2, 0] rfl ?_
        exact hB_23 (p_7, x2_2) h.osome
  unfold f12_redo at h
  refine J_iload_n (i := 1) (p := 1) C dX12_redo_0 rfl rfl rfl ?_
  refine J_iconst (v := 1) C (by decide) dX12_redo_1 rfl ?_
  refine J_sipush (v := 150) C (by decide) dX12_redo_2 rfl ?_
  refine J_cS (rest := []) (st9 := fun p_8 => [.int p_8]) C hR hX cs_RX12_134 (k12_in hl  (Ok.ofbnd h)) rfl rfl (Nat.le_of_ble_eq_true rfl) (Nat.le_of_ble_eq_true rfl) (Nat.le_of_ble_eq_true rfl) ⟨(Nat.le_of_ble_eq_true rfl), (Nat.le_of_ble_eq_true rfl)⟩ dX12_redo_5 rfl (fun E n9 w9 hx => JT_n hx) (fun _ => rfl) (fun p_8 h => ?_)
  have h : Ok _ _ := h
  change J X K 3 False QQ 0 0 2055 (jw K σ μ o) 8 [(0, .ref (K.2.2 + 2017)), (1, .int l1)] [.int p_8]
  refine J_if_ne (t := 17) C dX12_redo_8 (by decide) rfl (fun c_9 => ?_) (fun c_9 => ?_)
  · have h := h.neg c_9
    refine J_aload_n (i := 0) (p := 0) C dX12_redo_17 rfl rfl rfl ?_
    refine Jm_cV (rest := []) (st9 := fun p_10 => []) C hR hX cv_RX12_297 rfl (Nat.le_of_ble_eq_true rfl) (k12_closes hl  (Ok.ofbnd h)) rfl rfl (Nat.le_of_ble_eq_true rfl) (Nat.le_of_ble_eq_true rfl) (Nat.le_of_ble_eq_true rfl) ⟨(Nat.le_of_ble_eq_true rfl), (Nat.le_of_ble_eq_true rfl)⟩ dX12_redo_18 rfl (fun E n9 w9 hx => JT_n hx) (fun _ => rfl) (fun p_10 h => ?_)
    have h : Ok _ _ := h
    change J X K 3 False QQ 0 0 2055 (jw K σ p_10 o) 21 [(0, .ref (K.2.2 + 2017)), (1, .int l1)] []
    refine J_iconst (v := 0) C (by decide) dX12_redo_21 rfl ?_
    obtain ⟨x2_3, e_x2_3, h⟩ := Ok.nm h
    refine J_istoreE_n (i := 2) (lv' := [(2, .int x2_3), (0, .ref (K.2.2 + 2017)), (1, .int l1)]) C e_x2_3 dX12_redo_22 rfl (Nat.le_of_ble_eq_true rfl) rfl rfl ?_
    refine J.sub [1, 2, 0] rfl ?_
    exact hj_23 p_10 x2_3 h
  · have h := h.pos (Decidable.not_not.mp c_9)
    refine J_aload_n (i := 0) (p := 0) C dX12_redo_11 rfl rfl rfl ?_
    refine J_iconst (v := 1) C (by decide) dX12_redo_12 rfl ?_
    refine Jm_cV (rest := []) (st9 := fun p_11 => [.int p_11.1]) C hR hX cv_RX12_206 rfl (Nat.le_of_ble_eq_true rfl) (k12_refuse hl  (Ok.ofbnd h)) rfl rfl (Nat.le_of_ble_eq_true rfl) (Nat.le_of_ble_eq_true rfl) (Nat.le_of_ble_eq_true rfl) ⟨(Nat.le_of_ble_eq_true rfl), (Nat.le_of_ble_eq_true rfl)⟩ dX12_redo_13 rfl (fun E n9 w9 hx => JT_n hx) (fun _ => rfl) (fun p_11 h => ?_)
    have h : Ok _ _ := h
    change J X K 3 False QQ 0 0 2055 (jw K σ p_11.2 o) 16 [(0, .ref (K.2.2 + 2017)), (1, .int l1)] [.int p_11.1]
    rw [← hQQ]
    exact J_iret C hret (Nat.le_of_ble_eq_true rfl) (Nat.le_of_ble_eq_true rfl) ⟨_, h.osome, rfl, rfl, rfl⟩ dX12_redo_16
def f12_continuations_j31 (μ : Sto) (l2_31 : Int32) (s0_31 : Int32) (s1_31 : Int32) : Option ((Int32 × Int32) ⊕ Int32) :=
  stp (s0_31 + s1_31) fun x1_1 =>
  stp (l2_31 + (1 : Int32)) fun x2_2 =>
  some (.inl (x1_1, x2_2))
def f12_continuations_b4 (μ : Sto) (l1_4 : Int32) (l2_4 : Int32) : Option ((Int32 × Int32) ⊕ Int32) :=
  if (fI μ 2017 31) < l2_4 then
    some (.inr l1_4)
  else
    gd (inb l2_4 151) <|
    if (aI μ 2034 (Int32.toNatClampNeg l2_4)) = (fI μ 2017 32) then
      f12_continuations_j31 μ l2_4 l1_4 (1 : Int32)
    else
      f12_continuations_j31 μ l2_4 l1_4 (0 : Int32)
def f12_continuations_j4 (μ : Sto) (l1_4 : Int32) (l2_4 : Int32) : Option (Int32) :=
  bnd (loopF (fun s_4 => f12_continuations_b4 μ s_4.1 s_4.2) FU (l1_4, l2_4)) fun r_4 =>
    some r_4
def f12_continuations (μ : Sto) : Option (Int32) :=
  stp (0 : Int32) fun x1_3 =>
  stp (1 : Int32) fun x2_4 =>
  f12_continuations_j4 μ x1_3 x2_4
set_option maxHeartbeats 4000000 in
set_option maxRecDepth 100000 in
theorem k12_continuations {l : Launch} {K : JK} (hl : l.stackTraces = false) {σ μ : Sto} {o : Int64}   {Qf : Int32 → Prop} (h : Ok (f12_continuations μ) Qf) : Con l K yX12_continuations (.code yX12_continuations cX12_continuations 3 (some .int) :: TB) 0 0 0 False [.ref (K.2.2 + 2017)] 2055 (jw K σ μ o) (PR Qf (fun p => some (.int p)) (fun p => jw K σ μ o)) PN := by
  refine Con.enter (own := RX12) hl (by decide) rfl (Nat.le_of_ble_eq_true rfl) ?_
  intro X hX hR C hret hnt
  generalize hQQ : jQ X K 0 0 (PR Qf (fun p => some (.int p)) (fun p => jw K σ μ o)) PN False = QQ
  change J X K 3 False QQ 0 0 2055 (jw K σ μ o) 0 [(0, .ref (K.2.2 + 2017))] []
  have hj_4 : (∀ (l1_4 : Int32) (l2_4 : Int32), Ok (f12_continuations_j4 μ l1_4 l2_4) Qf → J X K 3 False QQ 0 0 2055 (jw K σ μ o) 4 [(0, .ref (K.2.2 + 2017)), (1, .int l1_4), (2, .int l2_4)] []) := by
    intro l1_4 l2_4 h
    unfold f12_continuations_j4 at h
    refine loop_gen (S := Int32 × Int32) (P := fun s_4 => J X K 3 False QQ 0 0 2055 (jw K σ μ o) 4 [(0, .ref (K.2.2 + 2017)), (1, .int s_4.1), (2, .int s_4.2)] []) ?_ FU (l1_4, l2_4) (Ok.ofbnd h)
    intro B_4 hB_4 hE_4 s_4 h
    obtain ⟨l1_4, l2_4⟩ := s_4
    have h : Ok (f12_continuations_b4 μ l1_4 l2_4) B_4 := h
    change J X K 3 False QQ 0 0 2055 (jw K σ μ o) 4 [(0, .ref (K.2.2 + 2017)), (1, .int l1_4), (2, .int l2_4)] []
    have hj_31 : (∀ (l2_31 : Int32) (s0_31 : Int32) (s1_31 : Int32), Ok (f12_continuations_j31 μ l2_31 s0_31 s1_31) B_4 → J X K 3 False QQ 0 0 2055 (jw K σ μ o) 31 [(0, .ref (K.2.2 + 2017)), (2, .int l2_31)] [.int s1_31, .int s0_31]) := by
      intro l2_31 s0_31 s1_31 h
      unfold f12_continuations_j31 at h
      refine J_iadd C dX12_continuations_31 rfl ?_
      obtain ⟨x1_1, e_x1_1, h⟩ := Ok.nm h
      refine J_istoreE_n (i := 1) (lv' := [(1, .int x1_1), (0, .ref (K.2.2 + 2017)), (2, .int l2_31)]) C e_x1_1 dX12_continuations_32 rfl (Nat.le_of_ble_eq_true rfl) rfl rfl ?_
      obtain ⟨x2_2, e_x2_2, h⟩ := Ok.nm h
      refine J_iincE (i := 2) (p := 2) (lv' := [(2, .int x2_2), (1, .int x1_1), (0, .ref (K.2.2 + 2017))]) C e_x2_2 dX12_continuations_33 rfl (by decide) (Nat.le_of_ble_eq_true rfl) rfl rfl ?_
      refine J_goto (t := 4) C dX12_continuations_36 (by decide) ?_
      refine J.sub [2, 1, 0] rfl ?_
      exact hB_4 (x1_1, x2_2) h.osome
    unfold f12_continuations_b4 at h
    refine J_iload_n (i := 2) (p := 2) C dX12_continuations_4 rfl rfl rfl ?_
    refine J_aload_n (i := 0) (p := 0) C dX12_continuations_5 rfl rfl rfl ?_
    refine Jm_getI C fp_RX12_182 rfl rfl dX12_continuations_6 rfl ?_
    refine J_icmp_gt (t := 39) C dX12_continuations_9 (by decide) rfl (fun c_1 => ?_) (fun c_1 => ?_)
    · have h := h.pos c_1
      have h := hE_4 l1_4 h.osome
      try dsimp only at h
      refine J_iload_n (i := 1) (p := 1) C dX12_continuations_39 rfl rfl rfl ?_
      rw [← hQQ]
      exact J_iret C hret (Nat.le_of_ble_eq_true rfl) (Nat.le_of_ble_eq_true rfl) ⟨_, h.osome, rfl, rfl, rfl⟩ dX12_continuations_40
    · have h := h.neg c_1
      refine J_iload_n (i := 1) (p := 1) C dX12_continuations_12 rfl rfl rfl ?_
      refine J_aload_n (i := 0) (p := 0) C dX12_continuations_13 rfl rfl rfl ?_
      refine Jm_getS (o2 := 17) (r2 := 2034) C fp_RX12_66 rfl rfl rfl dX12_continuations_14 rfl ?_
      refine J_iload_n (i := 2) (p := 2) C dX12_continuations_17 rfl rfl rfl ?_
      obtain ⟨g_2, h⟩ := Ok.ofgd h
      refine Jm_iald C rfl rfl g_2 dX12_continuations_18 rfl ?_
      refine J_aload_n (i := 0) (p := 0) C dX12_continuations_19 rfl rfl rfl ?_
      refine Jm_getI C fp_RX12_185 rfl rfl dX12_continuations_20 rfl ?_
      refine J_icmp_ne (t := 30) C dX12_continuations_23 (by decide) rfl (fun c_3 => ?_) (fun c_3 => ?_)
      · have h := h.neg c_3
        refine J_iconst (v := 0) C (by decide) dX12_continuations_30 rfl ?_
        refine J.sub [0, 2] rfl ?_
        exact hj_31 l2_4 l1_4 (0 : Int32) h
      · have h := h.pos (Decidable.not_not.mp c_3)
        refine J_iconst (v := 1) C (by decide) dX12_continuations_26 rfl ?_
        refine J_goto (t := 31) C dX12_continuations_27 (by decide) ?_
        refine J.sub [0, 2] rfl ?_
        exact hj_31 l2_4 l1_4 (1 : Int32) h
  unfold f12_continuations at h
  refine J_iconst (v := 0) C (by decide) dX12_continuations_0 rfl ?_
  obtain ⟨x1_3, e_x1_3, h⟩ := Ok.nm h
  refine J_istoreE_n (i := 1) (lv' := [(1, .int x1_3), (0, .ref (K.2.2 + 2017))]) C e_x1_3 dX12_continuations_1 rfl (Nat.le_of_ble_eq_true rfl) rfl rfl ?_
  refine J_iconst (v := 1) C (by decide) dX12_continuations_2 rfl ?_
  obtain ⟨x2_4, e_x2_4, h⟩ := Ok.nm h
  refine J_istoreE_n (i := 2) (lv' := [(2, .int x2_4), (1, .int x1_3), (0, .ref (K.2.2 + 2017))]) C e_x2_4 dX12_continuations_3 rfl (Nat.le_of_ble_eq_true rfl) rfl rfl ?_
  refine J.sub [2, 1, 0] rfl ?_
  exact hj_4 x1_3 x2_4 h
def f12_branch_j58 (l1 : Int32) (μ_31 : Sto) (l2_31 : Int32) (l4_58 : Int32) (s0_58 : Int32) (s1_58 : Int32) : Option ((Int32 × Int32) ⊕ Int32) :=
  stp (s0_58 - s1_58) fun x3_1 =>
  some (.inl (x3_1, l4_58))
def f12_branch_b31 (l1 : Int32) (μ_31 : Sto) (l2_31 : Int32) (l3_31 : Int32) (l4_31 : Int32) : Option ((Int32 × Int32) ⊕ Int32) :=
  if l3_31 < 0 then
    some (.inr l4_31)
  else
    stp (l4_31 + (1 : Int32)) fun x4_3 =>
    gd (inb x4_3 151) <|
    if (aI μ_31 2034 (Int32.toNatClampNeg x4_3)) = (fI μ_31 2017 32) then
      f12_branch_j58 l1 μ_31 l2_31 x4_3 l3_31 (1 : Int32)
    else
      f12_branch_j58 l1 μ_31 l2_31 x4_3 l3_31 (0 : Int32)
def f12_branch_j31 (l1 : Int32) (μ_31 : Sto) (l2_31 : Int32) (l3_31 : Int32) (l4_31 : Int32) : Option (Int32 × Sto) :=
  bnd (loopF (fun s_31 => f12_branch_b31 l1 μ_31 l2_31 s_31.1 s_31.2) FU (l3_31, l4_31)) fun r_31 =>
    gd (inb (fI μ_31 2017 32) 151) <|
    stp (uA μ_31 2035 (Int32.toNatClampNeg (fI μ_31 2017 32)) r_31) fun μx_4 =>
    bnd (f12_told μx_4 l2_31) fun p_7 =>
    some (p_7.1, p_7.2)
def f12_branch (μ : Sto) (l1 : Int32) : Option (Int32 × Sto) :=
  bnd (f12_continuations μ) fun p_8 =>
  stp p_8 fun x2_5 =>
  bnd (f12_in l1 (0 : Int32) (x2_5 - (1 : Int32))) fun p_9 =>
  if p_9 = 0 then
    bnd (f12_refuse μ (1 : Int32)) fun p_12 =>
    some (p_12.1, p_12.2)
  else
    bnd (f12_closes μ) fun p_11 =>
    stp l1 fun x3_6 =>
    stp (0 : Int32) fun x4_7 =>
    f12_branch_j31 l1 p_11 x2_5 x3_6 x4_7
set_option maxHeartbeats 4000000 in
set_option maxRecDepth 100000 in
theorem k12_branch {l : Launch} {K : JK} (hl : l.stackTraces = false) {σ μ : Sto} {o : Int64} {l1 : Int32}  {Qf : Int32 × Sto → Prop} (h : Ok (f12_branch μ l1) Qf) : Con l K yX12_branch (.code yX12_branch cX12_branch 5 (some .int) :: TB) 1 0 0 False [.ref (K.2.2 + 2017), .int l1] 2055 (jw K σ μ o) (PR Qf (fun p => some (.int p.1)) (fun p => jw K σ p.2 o)) PN := by
  refine Con.enter (own := RX12) hl (by decide) rfl (Nat.le_of_ble_eq_true rfl) ?_
  intro X hX hR C hret hnt
  generalize hQQ : jQ X K 0 0 (PR Qf (fun p => some (.int p.1)) (fun p => jw K σ p.2 o)) PN False = QQ
  change J X K 5 False QQ 0 0 2055 (jw K σ μ o) 0 [(0, .ref (K.2.2 + 2017)), (1, .int l1)] []
  have hj_31 : (∀ (μ_31 : Sto) (l2_31 : Int32) (l3_31 : Int32) (l4_31 : Int32), Ok (f12_branch_j31 l1 μ_31 l2_31 l3_31 l4_31) Qf → J X K 5 False QQ 0 0 2055 (jw K σ μ_31 o) 31 [(0, .ref (K.2.2 + 2017)), (2, .int l2_31), (3, .int l3_31), (4, .int l4_31)] []) := by
    intro μ_31 l2_31 l3_31 l4_31 h
    unfold f12_branch_j31 at h
    refine loop_gen (S := Int32 × Int32) (P := fun s_31 => J X K 5 False QQ 0 0 2055 (jw K σ μ_31 o) 31 [(0, .ref (K.2.2 + 2017)), (2, .int l2_31), (3, .int s_31.1), (4, .int s_31.2)] []) ?_ FU (l3_31, l4_31) (Ok.ofbnd h)
    intro B_31 hB_31 hE_31 s_31 h
    obtain ⟨l3_31, l4_31⟩ := s_31
    have h : Ok (f12_branch_b31 l1 μ_31 l2_31 l3_31 l4_31) B_31 := h
    change J X K 5 False QQ 0 0 2055 (jw K σ μ_31 o) 31 [(0, .ref (K.2.2 + 2017)), (2, .int l2_31), (3, .int l3_31), (4, .int l4_31)] []
    have hj_58 : (∀ (l4_58 : Int32) (s0_58 : Int32) (s1_58 : Int32), Ok (f12_branch_j58 l1 μ_31 l2_31 l4_58 s0_58 s1_58) B_31 → J X K 5 False QQ 0 0 2055 (jw K σ μ_31 o) 58 [(0, .ref (K.2.2 + 2017)), (2, .int l2_31), (4, .int l4_58)] [.int s1_58, .int s0_58]) := by
      intro l4_58 s0_58 s1_58 h
      unfold f12_branch_j58 at h
      refine J_isub C dX12_branch_58 rfl ?_
      obtain ⟨x3_1, e_x3_1, h⟩ := Ok.nm h
      refine J_istoreE_n (i := 3) (lv' := [(3, .int x3_1), (0, .ref (K.2.2 + 2017)), (2, .int l2_31), (4, .int l4_58)]) C e_x3_1 dX12_branch_59 rfl (Nat.le_of_ble_eq_true rfl) rfl rfl ?_
      refine J_goto (t := 31) C dX12_branch_60 (by decide) ?_
      refine J.sub [1, 2, 0, 3] rfl ?_
      exact hB_31 (x3_1, l4_58) h.osome
    unfold f12_branch_b31 at h
    refine J_iload_n (i := 3) (p := 2) C dX12_branch_31 rfl rfl rfl ?_
    refine J_if_lt (t := 63) C dX12_branch_32 (by decide) rfl (fun c_1 => ?_) (fun c_1 => ?_)
    · have h := h.pos c_1
      have h := hE_31 l4_31 h.osome
      try dsimp only at h
      refine J_aload_n (i := 0) (p := 0) C dX12_branch_63 rfl rfl rfl ?_
      refine Jm_getS (o2 := 18) (r2 := 2035) C fp_RX12_69 rfl rfl rfl dX12_branch_64 rfl ?_
      refine J_aload_n (i := 0) (p := 0) C dX12_branch_67 rfl rfl rfl ?_
      refine Jm_getI C fp_RX12_185 rfl rfl dX12_branch_68 rfl ?_
      refine J_iload (i := 4) (p := 3) C dX12_branch_71 rfl rfl ?_
      obtain ⟨g_2, h⟩ := Ok.ofgd h
      obtain ⟨μx_2, e_μx_2, h⟩ := Ok.nm h
      refine Jm_iast C id rfl rfl g_2 e_μx_2 dX12_branch_73 rfl ?_
      refine J_aload_n (i := 0) (p := 0) C dX12_branch_74 rfl rfl rfl ?_
      refine J_iload_n (i := 2) (p := 1) C dX12_branch_75 rfl rfl rfl ?_
      refine Jm_cV (rest := []) (st9 := fun p_3 => [.int p_3.1]) C hR hX cv_RX12_209 rfl (Nat.le_of_ble_eq_true rfl) (k12_told hl  (Ok.ofbnd h)) rfl rfl (Nat.le_of_ble_eq_true rfl) (Nat.le_of_ble_eq_true rfl) (Nat.le_of_ble_eq_true rfl) ⟨(Nat.le_of_ble_eq_true rfl), (Nat.le_of_ble_eq_true rfl)⟩ dX12_branch_76 rfl (fun E n9 w9 hx => JT_n hx) (fun _ => rfl) (fun p_3 h => ?_)
      have h : Ok _ _ := h
      change J X K 5 False QQ 0 0 2055 (jw K σ p_3.2 o) 79 [(0, .ref (K.2.2 + 2017)), (2, .int l2_31), (3, .int l3_31), (4, .int l4_31)] [.int p_3.1]
      rw [← hQQ]
      exact J_iret C hret (Nat.le_of_ble_eq_true rfl) (Nat.le_of_ble_eq_true rfl) ⟨_, h.osome, rfl, rfl, rfl⟩ dX12_branch_79
    · have h := h.neg c_1
      obtain ⟨x4_3, e_x4_3, h⟩ := Ok.nm h
      refine J_iincE (i := 4) (p := 3) (lv' := [(4, .int x4_3), (0, .ref (K.2.2 + 2017)), (2, .int l2_31), (3, .int l3_31)]) C e_x4_3 dX12_branch_35 rfl (by decide) (Nat.le_of_ble_eq_true rfl) rfl rfl ?_
      refine J_iload_n (i := 3) (p := 3) C dX12_branch_38 rfl rfl rfl ?_
      refine J_aload_n (i := 0) (p := 1) C dX12_branch_39 rfl rfl rfl ?_
      refine Jm_getS (o2 := 17) (r2 := 2034) C fp_RX12_66 rfl rfl rfl dX12_branch_40 rfl ?_
      refine J_iload (i := 4) (p := 0) C dX12_branch_43 rfl rfl ?_
      obtain ⟨g_4, h⟩ := Ok.ofgd h
      refine Jm_iald C rfl rfl g_4 dX12_branch_45 rfl ?_
      refine J_aload_n (i := 0) (p := 1) C dX12_branch_46 rfl rfl rfl ?_
      refine Jm_getI C fp_RX12_185 rfl rfl dX12_branch_47 rfl ?_
      refine J_icmp_ne (t := 57) C dX12_branch_50 (by decide) rfl (fun c_5 => ?_) (fun c_5 => ?_)
      · have h := h.neg c_5
        refine J_iconst (v := 0) C (by decide) dX12_branch_57 rfl ?_
        refine J.sub [1, 2, 0] rfl ?_
        exact hj_58 x4_3 l3_31 (0 : Int32) h
      · have h := h.pos (Decidable.not_not.mp c_5)
        refine J_iconst (v := 1) C (by decide) dX12_branch_53 rfl ?_
        refine J_goto (t := 58) C dX12_branch_54 (by decide) ?_
        refine J.sub [1, 2, 0] rfl ?_
        exact hj_58 x4_3 l3_31 (1 : Int32) h
  unfold f12_branch at h
  refine J_aload_n (i := 0) (p := 0) C dX12_branch_0 rfl rfl rfl ?_
  refine Jm_cV (rest := []) (st9 := fun p_8 => [.int p_8]) C hR hX cv_RX12_306 rfl (Nat.le_of_ble_eq_true rfl) (k12_continuations hl  (Ok.ofbnd h)) rfl rfl (Nat.le_of_ble_eq_true rfl) (Nat.le_of_ble_eq_true rfl) (Nat.le_of_ble_eq_true rfl) ⟨(Nat.le_of_ble_eq_true rfl), (Nat.le_of_ble_eq_true rfl)⟩ dX12_branch_1 rfl (fun E n9 w9 hx => JT_n hx) (fun _ => rfl) (fun p_8 h => ?_)
  have h : Ok _ _ := h
  change J X K 5 False QQ 0 0 2055 (jw K σ μ o) 4 [(0, .ref (K.2.2 + 2017)), (1, .int l1)] [.int p_8]
  obtain ⟨x2_5, e_x2_5, h⟩ := Ok.nm h
  refine J_istoreE_n (i := 2) (lv' := [(2, .int x2_5), (0, .ref (K.2.2 + 2017)), (1, .int l1)]) C e_x2_5 dX12_branch_4 rfl (Nat.le_of_ble_eq_true rfl) rfl rfl ?_
  refine J_iload_n (i := 1) (p := 2) C dX12_branch_5 rfl rfl rfl ?_
  refine J_iconst (v := 0) C (by decide) dX12_branch_6 rfl ?_
  refine J_iload_n (i := 2) (p := 0) C dX12_branch_7 rfl rfl rfl ?_
  refine J_iconst (v := 1) C (by decide) dX12_branch_8 rfl ?_
  refine J_isub C dX12_branch_9 rfl ?_
  refine J_cS (rest := []) (st9 := fun p_9 => [.int p_9]) C hR hX cs_RX12_134 (k12_in hl  (Ok.ofbnd h)) rfl rfl (Nat.le_of_ble_eq_true rfl) (Nat.le_of_ble_eq_true rfl) (Nat.le_of_ble_eq_true rfl) ⟨(Nat.le_of_ble_eq_true rfl), (Nat.le_of_ble_eq_true rfl)⟩ dX12_branch_10 rfl (fun E n9 w9 hx => JT_n hx) (fun _ => rfl) (fun p_9 h => ?_)
  have h : Ok _ _ := h
  change J X K 5 False QQ 0 0 2055 (jw K σ μ o) 13 [(2, .int x2_5), (0, .ref (K.2.2 + 2017)), (1, .int l1)] [.int p_9]
  refine J_if_ne (t := 22) C dX12_branch_13 (by decide) rfl (fun c_10 => ?_) (fun c_10 => ?_)
  · have h := h.neg c_10
    refine J_aload_n (i := 0) (p := 1) C dX12_branch_22 rfl rfl rfl ?_
    refine Jm_cV (rest := []) (st9 := fun p_11 => []) C hR hX cv_RX12_297 rfl (Nat.le_of_ble_eq_true rfl) (k12_closes hl  (Ok.ofbnd h)) rfl rfl (Nat.le_of_ble_eq_true rfl) (Nat.le_of_ble_eq_true rfl) (Nat.le_of_ble_eq_true rfl) ⟨(Nat.le_of_ble_eq_true rfl), (Nat.le_of_ble_eq_true rfl)⟩ dX12_branch_23 rfl (fun E n9 w9 hx => JT_n hx) (fun _ => rfl) (fun p_11 h => ?_)
    have h : Ok _ _ := h
    change J X K 5 False QQ 0 0 2055 (jw K σ p_11 o) 26 [(2, .int x2_5), (0, .ref (K.2.2 + 2017)), (1, .int l1)] []
    refine J_iload_n (i := 1) (p := 2) C dX12_branch_26 rfl rfl rfl ?_
    obtain ⟨x3_6, e_x3_6, h⟩ := Ok.nm h
    refine J_istoreE_n (i := 3) (lv' := [(3, .int x3_6), (2, .int x2_5), (0, .ref (K.2.2 + 2017)), (1, .int l1)]) C e_x3_6 dX12_branch_27 rfl (Nat.le_of_ble_eq_true rfl) rfl rfl ?_
    refine J_iconst (v := 0) C (by decide) dX12_branch_28 rfl ?_
    obtain ⟨x4_7, e_x4_7, h⟩ := Ok.nm h
    refine J_istoreE (i := 4) (lv' := [(4, .int x4_7), (3, .int x3_6), (2, .int x2_5), (0, .ref (K.2.2 + 2017)), (1, .int l1)]) C e_x4_7 dX12_branch_29 (Nat.le_of_ble_eq_true rfl) rfl rfl ?_
    refine J.sub [3, 2, 1, 0] rfl ?_
    exact hj_31 p_11 x2_5 x3_6 x4_7 h
  · have h := h.pos (Decidable.not_not.mp c_10)
    refine J_aload_n (i := 0) (p := 1) C dX12_branch_16 rfl rfl rfl ?_
    refine J_iconst (v := 1) C (by decide) dX12_branch_17 rfl ?_
    refine Jm_cV (rest := []) (st9 := fun p_12 => [.int p_12.1]) C hR hX cv_RX12_206 rfl (Nat.le_of_ble_eq_true rfl) (k12_refuse hl  (Ok.ofbnd h)) rfl rfl (Nat.le_of_ble_eq_true rfl) (Nat.le_of_ble_eq_true rfl) (Nat.le_of_ble_eq_true rfl) ⟨(Nat.le_of_ble_eq_true rfl), (Nat.le_of_ble_eq_true rfl)⟩ dX12_branch_18 rfl (fun E n9 w9 hx => JT_n hx) (fun _ => rfl) (fun p_12 h => ?_)
    have h : Ok _ _ := h
    change J X K 5 False QQ 0 0 2055 (jw K σ p_12.2 o) 21 [(2, .int x2_5), (0, .ref (K.2.2 + 2017)), (1, .int l1)] [.int p_12.1]
    rw [← hQQ]
    exact J_iret C hret (Nat.le_of_ble_eq_true rfl) (Nat.le_of_ble_eq_true rfl) ⟨_, h.osome, rfl, rfl, rfl⟩ dX12_branch_21
def f12_group (μ : Sto) (l1 : Int32) : Option (Int32 × Sto) :=
  stp (fI μ 2017 34) fun x2_1 =>
  bnd (f12_closes μ) fun p_1 =>
  gd (isB l1) <|
  stp (uI p_1 2017 34 l1) fun μx_2 =>
  bnd (f12_says μx_2 x2_1) fun p_3 =>
  gd (isB p_3.1) <|
  some (p_3.1, p_3.2)
set_option maxHeartbeats 4000000 in
set_option maxRecDepth 100000 in
theorem k12_group {l : Launch} {K : JK} (hl : l.stackTraces = false) {σ μ : Sto} {o : Int64} {l1 : Int32}  {Qf : Int32 × Sto → Prop} (h : Ok (f12_group μ l1) Qf) : Con l K yX12_group (.code yX12_group cX12_group 3 (some .boolean) :: TB) 1 0 0 False [.ref (K.2.2 + 2017), .int l1] 2055 (jw K σ μ o) (PR Qf (fun p => some (.int p.1)) (fun p => jw K σ p.2 o)) PN := by
  refine Con.enter (own := RX12) hl (by decide) rfl (Nat.le_of_ble_eq_true rfl) ?_
  intro X hX hR C hret hnt
  generalize hQQ : jQ X K 0 0 (PR Qf (fun p => some (.int p.1)) (fun p => jw K σ p.2 o)) PN False = QQ
  change J X K 3 False QQ 0 0 2055 (jw K σ μ o) 0 [(0, .ref (K.2.2 + 2017)), (1, .int l1)] []
  unfold f12_group at h
  refine J_aload_n (i := 0) (p := 0) C dX12_group_0 rfl rfl rfl ?_
  refine Jm_getI C fp_RX12_174 rfl rfl dX12_group_1 rfl ?_
  obtain ⟨x2_1, e_x2_1, h⟩ := Ok.nm h
  refine J_istoreE_n (i := 2) (lv' := [(2, .int x2_1), (0, .ref (K.2.2 + 2017)), (1, .int l1)]) C e_x2_1 dX12_group_4 rfl (Nat.le_of_ble_eq_true rfl) rfl rfl ?_
  refine J_aload_n (i := 0) (p := 1) C dX12_group_5 rfl rfl rfl ?_
  refine Jm_cV (rest := []) (st9 := fun p_1 => []) C hR hX cv_RX12_297 rfl (Nat.le_of_ble_eq_true rfl) (k12_closes hl  (Ok.ofbnd h)) rfl rfl (Nat.le_of_ble_eq_true rfl) (Nat.le_of_ble_eq_true rfl) (Nat.le_of_ble_eq_true rfl) ⟨(Nat.le_of_ble_eq_true rfl), (Nat.le_of_ble_eq_true rfl)⟩ dX12_group_6 rfl (fun E n9 w9 hx => JT_n hx) (fun _ => rfl) (fun p_1 h => ?_)
  have h : Ok _ _ := h
  change J X K 3 False QQ 0 0 2055 (jw K σ p_1 o) 9 [(2, .int x2_1), (0, .ref (K.2.2 + 2017)), (1, .int l1)] []
  refine J_aload_n (i := 0) (p := 1) C dX12_group_9 rfl rfl rfl ?_
  refine J_iload_n (i := 1) (p := 2) C dX12_group_10 rfl rfl rfl ?_
  obtain ⟨g_2, h⟩ := Ok.ofgd h
  obtain ⟨μx_2, e_μx_2, h⟩ := Ok.nm h
  refine Jm_putZ C id fp_RX12_174 fw_11_34 rfl g_2 rfl rfl e_μx_2 dX12_group_11 rfl ?_
  refine J_aload_n (i := 0) (p := 1) C dX12_group_14 rfl rfl rfl ?_
  refine J_iload_n (i := 2) (p := 0) C dX12_group_15 rfl rfl rfl ?_
  refine Jm_cV (rest := []) (st9 := fun p_3 => [.int p_3.1]) C hR hX cv_RX12_309 rfl (Nat.le_of_ble_eq_true rfl) (k12_says hl  (Ok.ofbnd h)) rfl rfl (Nat.le_of_ble_eq_true rfl) (Nat.le_of_ble_eq_true rfl) (Nat.le_of_ble_eq_true rfl) ⟨(Nat.le_of_ble_eq_true rfl), (Nat.le_of_ble_eq_true rfl)⟩ dX12_group_16 rfl (fun E n9 w9 hx => JT_n hx) (fun _ => rfl) (fun p_3 h => ?_)
  have h : Ok _ _ := h
  change J X K 3 False QQ 0 0 2055 (jw K σ p_3.2 o) 19 [(2, .int x2_1), (0, .ref (K.2.2 + 2017)), (1, .int l1)] [.int p_3.1]
  obtain ⟨g_4, h⟩ := Ok.ofgd h
  rw [← hQQ]
  exact J_zret C hret (narB g_4).1 (Nat.le_of_ble_eq_true rfl) (Nat.le_of_ble_eq_true rfl) ⟨_, h.osome, rfl, rfl, rfl⟩ dX12_group_19
def f12_depth_b7 (μ : Sto) (l1_7 : Int32) (l2_7 : Int32) : Option ((Int32 × Int32) ⊕ Int32) :=
  if l2_7 = 0 then
    some (.inr l1_7)
  else
    stp (l1_7 + (1 : Int32)) fun x1_1 =>
    gd (inb l2_7 151) <|
    stp (aI μ 2034 (Int32.toNatClampNeg l2_7)) fun x2_2 =>
    some (.inl (x1_1, x2_2))
def f12_depth_j7 (μ : Sto) (l1_7 : Int32) (l2_7 : Int32) : Option (Int32) :=
  bnd (loopF (fun s_7 => f12_depth_b7 μ s_7.1 s_7.2) FU (l1_7, l2_7)) fun r_7 =>
    some r_7
def f12_depth (μ : Sto) : Option (Int32) :=
  stp (0 : Int32) fun x1_3 =>
  stp (fI μ 2017 32) fun x2_4 =>
  f12_depth_j7 μ x1_3 x2_4
set_option maxHeartbeats 4000000 in
set_option maxRecDepth 100000 in
theorem k12_depth {l : Launch} {K : JK} (hl : l.stackTraces = false) {σ μ : Sto} {o : Int64}   {Qf : Int32 → Prop} (h : Ok (f12_depth μ) Qf) : Con l K yX12_depth (.code yX12_depth cX12_depth 3 (some .int) :: TB) 0 0 0 False [.ref (K.2.2 + 2017)] 2055 (jw K σ μ o) (PR Qf (fun p => some (.int p)) (fun p => jw K σ μ o)) PN := by
  refine Con.enter (own := RX12) hl (by decide) rfl (Nat.le_of_ble_eq_true rfl) ?_
  intro X hX hR C hret hnt
  generalize hQQ : jQ X K 0 0 (PR Qf (fun p => some (.int p)) (fun p => jw K σ μ o)) PN False = QQ
  change J X K 3 False QQ 0 0 2055 (jw K σ μ o) 0 [(0, .ref (K.2.2 + 2017))] []
  have hj_7 : (∀ (l1_7 : Int32) (l2_7 : Int32), Ok (f12_depth_j7 μ l1_7 l2_7) Qf → J X K 3 False QQ 0 0 2055 (jw K σ μ o) 7 [(0, .ref (K.2.2 + 2017)), (1, .int l1_7), (2, .int l2_7)] []) := by
    intro l1_7 l2_7 h
    unfold f12_depth_j7 at h
    refine loop_gen (S := Int32 × Int32) (P := fun s_7 => J X K 3 False QQ 0 0 2055 (jw K σ μ o) 7 [(0, .ref (K.2.2 + 2017)), (1, .int s_7.1), (2, .int s_7.2)] []) ?_ FU (l1_7, l2_7) (Ok.ofbnd h)
    intro B_7 hB_7 hE_7 s_7 h
    obtain ⟨l1_7, l2_7⟩ := s_7
    have h : Ok (f12_depth_b7 μ l1_7 l2_7) B_7 := h
    change J X K 3 False QQ 0 0 2055 (jw K σ μ o) 7 [(0, .ref (K.2.2 + 2017)), (1, .int l1_7), (2, .int l2_7)] []
    unfold f12_depth_b7 at h
    refine J_iload_n (i := 2) (p := 2) C dX12_depth_7 rfl rfl rfl ?_
    refine J_if_eq (t := 24) C dX12_depth_8 (by decide) rfl (fun c_1 => ?_) (fun c_1 => ?_)
    · have h := h.pos c_1
      have h := hE_7 l1_7 h.osome
      try dsimp only at h
      refine J_iload_n (i := 1) (p := 1) C dX12_depth_24 rfl rfl rfl ?_
      rw [← hQQ]
      exact J_iret C hret (Nat.le_of_ble_eq_true rfl) (Nat.le_of_ble_eq_true rfl) ⟨_, h.osome, rfl, rfl, rfl⟩ dX12_depth_25
    · have h := h.neg c_1
      obtain ⟨x1_1, e_x1_1, h⟩ := Ok.nm h
      refine J_iincE (i := 1) (p := 1) (lv' := [(1, .int x1_1), (0, .ref (K.2.2 + 2017)), (2, .int l2_7)]) C e_x1_1 dX12_depth_11 rfl (by decide) (Nat.le_of_ble_eq_true rfl) rfl rfl ?_
      refine J_aload_n (i := 0) (p := 1) C dX12_depth_14 rfl rfl rfl ?_
      refine Jm_getS (o2 := 17) (r2 := 2034) C fp_RX12_66 rfl rfl rfl dX12_depth_15 rfl ?_
      refine J_iload_n (i := 2) (p := 2) C dX12_depth_18 rfl rfl rfl ?_
      obtain ⟨g_2, h⟩ := Ok.ofgd h
      refine Jm_iald C rfl rfl g_2 dX12_depth_19 rfl ?_
      obtain ⟨x2_2, e_x2_2, h⟩ := Ok.nm h
      refine J_istoreE_n (i := 2) (lv' := [(2, .int x2_2), (1, .int x1_1), (0, .ref (K.2.2 + 2017))]) C e_x2_2 dX12_depth_20 rfl (Nat.le_of_ble_eq_true rfl) rfl rfl ?_
      refine J_goto (t := 7) C dX12_depth_21 (by decide) ?_
      refine J.sub [2, 1, 0] rfl ?_
      exact hB_7 (x1_1, x2_2) h.osome
  unfold f12_depth at h
  refine J_iconst (v := 0) C (by decide) dX12_depth_0 rfl ?_
  obtain ⟨x1_3, e_x1_3, h⟩ := Ok.nm h
  refine J_istoreE_n (i := 1) (lv' := [(1, .int x1_3), (0, .ref (K.2.2 + 2017))]) C e_x1_3 dX12_depth_1 rfl (Nat.le_of_ble_eq_true rfl) rfl rfl ?_
  refine J_aload_n (i := 0) (p := 1) C dX12_depth_2 rfl rfl rfl ?_
  refine Jm_getI C fp_RX12_185 rfl rfl dX12_depth_3 rfl ?_
  obtain ⟨x2_4, e_x2_4, h⟩ := Ok.nm h
  refine J_istoreE_n (i := 2) (lv' := [(2, .int x2_4), (1, .int x1_3), (0, .ref (K.2.2 + 2017))]) C e_x2_4 dX12_depth_6 rfl (Nat.le_of_ble_eq_true rfl) rfl rfl ?_
  refine J.sub [2, 1, 0] rfl ?_
  exact hj_7 x1_3 x2_4 h
def f12_chain_b12 (μ : Sto) (l1_12 : Int32) (l2_12 : Int32) : Option ((Int32 × Int32) ⊕ Int32) :=
  if l2_12 = 0 then
    some (.inr l1_12)
  else
    stp (l1_12 + (1 : Int32)) fun x1_1 =>
    gd (inb l2_12 151) <|
    stp (aI μ 2035 (Int32.toNatClampNeg l2_12)) fun x2_2 =>
    some (.inl (x1_1, x2_2))
def f12_chain_j12 (μ : Sto) (l1_12 : Int32) (l2_12 : Int32) : Option (Int32) :=
  bnd (loopF (fun s_12 => f12_chain_b12 μ s_12.1 s_12.2) FU (l1_12, l2_12)) fun r_12 =>
    some r_12
def f12_chain (μ : Sto) : Option (Int32) :=
  stp (0 : Int32) fun x1_3 =>
  gd (inb (fI μ 2017 32) 151) <|
  stp (aI μ 2035 (Int32.toNatClampNeg (fI μ 2017 32))) fun x2_4 =>
  f12_chain_j12 μ x1_3 x2_4
set_option maxHeartbeats 4000000 in
set_option maxRecDepth 100000 in
theorem k12_chain {l : Launch} {K : JK} (hl : l.stackTraces = false) {σ μ : Sto} {o : Int64}   {Qf : Int32 → Prop} (h : Ok (f12_chain μ) Qf) : Con l K yX12_chain (.code yX12_chain cX12_chain 3 (some .int) :: TB) 0 0 0 False [.ref (K.2.2 + 2017)] 2055 (jw K σ μ o) (PR Qf (fun p => some (.int p)) (fun p => jw K σ μ o)) PN := by
  refine Con.enter (own := RX12) hl (by decide) rfl (Nat.le_of_ble_eq_true rfl) ?_
  intro X hX hR C hret hnt
  generalize hQQ : jQ X K 0 0 (PR Qf (fun p => some (.int p)) (fun p => jw K σ μ o)) PN False = QQ
  change J X K 3 False QQ 0 0 2055 (jw K σ μ o) 0 [(0, .ref (K.2.2 + 2017))] []
  have hj_12 : (∀ (l1_12 : Int32) (l2_12 : Int32), Ok (f12_chain_j12 μ l1_12 l2_12) Qf → J X K 3 False QQ 0 0 2055 (jw K σ μ o) 12 [(0, .ref (K.2.2 + 2017)), (1, .int l1_12), (2, .int l2_12)] []) := by
    intro l1_12 l2_12 h
    unfold f12_chain_j12 at h
    refine loop_gen (S := Int32 × Int32) (P := fun s_12 => J X K 3 False QQ 0 0 2055 (jw K σ μ o) 12 [(0, .ref (K.2.2 + 2017)), (1, .int s_12.1), (2, .int s_12.2)] []) ?_ FU (l1_12, l2_12) (Ok.ofbnd h)
    intro B_12 hB_12 hE_12 s_12 h
    obtain ⟨l1_12, l2_12⟩ := s_12
    have h : Ok (f12_chain_b12 μ l1_12 l2_12) B_12 := h
    change J X K 3 False QQ 0 0 2055 (jw K σ μ o) 12 [(0, .ref (K.2.2 + 2017)), (1, .int l1_12), (2, .int l2_12)] []
    unfold f12_chain_b12 at h
    refine J_iload_n (i := 2) (p := 2) C dX12_chain_12 rfl rfl rfl ?_
    refine J_if_eq (t := 29) C dX12_chain_13 (by decide) rfl (fun c_1 => ?_) (fun c_1 => ?_)
    · have h := h.pos c_1
      have h := hE_12 l1_12 h.osome
      try dsimp only at h
      refine J_iload_n (i := 1) (p := 1) C dX12_chain_29 rfl rfl rfl ?_
      rw [← hQQ]
      exact J_iret C hret (Nat.le_of_ble_eq_true rfl) (Nat.le_of_ble_eq_true rfl) ⟨_, h.osome, rfl, rfl, rfl⟩ dX12_chain_30
    · have h := h.neg c_1
      obtain ⟨x1_1, e_x1_1, h⟩ := Ok.nm h
      refine J_iincE (i := 1) (p := 1) (lv' := [(1, .int x1_1), (0, .ref (K.2.2 + 2017)), (2, .int l2_12)]) C e_x1_1 dX12_chain_16 rfl (by decide) (Nat.le_of_ble_eq_true rfl) rfl rfl ?_
      refine J_aload_n (i := 0) (p := 1) C dX12_chain_19 rfl rfl rfl ?_
      refine Jm_getS (o2 := 18) (r2 := 2035) C fp_RX12_69 rfl rfl rfl dX12_chain_20 rfl ?_
      refine J_iload_n (i := 2) (p := 2) C dX12_chain_23 rfl rfl rfl ?_
      obtain ⟨g_2, h⟩ := Ok.ofgd h
      refine Jm_iald C rfl rfl g_2 dX12_chain_24 rfl ?_
      obtain ⟨x2_2, e_x2_2, h⟩ := Ok.nm h
      refine J_istoreE_n (i := 2) (lv' := [(2, .int x2_2), (1, .int x1_1), (0, .ref (K.2.2 + 2017))]) C e_x2_2 dX12_chain_25 rfl (Nat.le_of_ble_eq_true rfl) rfl rfl ?_
      refine J_goto (t := 12) C dX12_chain_26 (by decide) ?_
      refine J.sub [2, 1, 0] rfl ?_
      exact hB_12 (x1_1, x2_2) h.osome
  unfold f12_chain at h
  refine J_iconst (v := 0) C (by decide) dX12_chain_0 rfl ?_
  obtain ⟨x1_3, e_x1_3, h⟩ := Ok.nm h
  refine J_istoreE_n (i := 1) (lv' := [(1, .int x1_3), (0, .ref (K.2.2 + 2017))]) C e_x1_3 dX12_chain_1 rfl (Nat.le_of_ble_eq_true rfl) rfl rfl ?_
  refine J_aload_n (i := 0) (p := 1) C dX12_chain_2 rfl rfl rfl ?_
  refine Jm_getS (o2 := 18) (r2 := 2035) C fp_RX12_69 rfl rfl rfl dX12_chain_3 rfl ?_
  refine J_aload_n (i := 0) (p := 1) C dX12_chain_6 rfl rfl rfl ?_
  refine Jm_getI C fp_RX12_185 rfl rfl dX12_chain_7 rfl ?_
  obtain ⟨g_3, h⟩ := Ok.ofgd h
  refine Jm_iald C rfl rfl g_3 dX12_chain_10 rfl ?_
  obtain ⟨x2_4, e_x2_4, h⟩ := Ok.nm h
  refine J_istoreE_n (i := 2) (lv' := [(2, .int x2_4), (1, .int x1_3), (0, .ref (K.2.2 + 2017))]) C e_x2_4 dX12_chain_11 rfl (Nat.le_of_ble_eq_true rfl) rfl rfl ?_
  refine J.sub [2, 1, 0] rfl ?_
  exact hj_12 x1_3 x2_4 h
def f12_acts_ (μ : Sto) (l1 : Int32) : Option (Int32 × Sto) :=
  if Int32.toInt l1 = 0 then
    bnd (f12_told μ (fI μ 2017 31)) fun p_2 =>
    some (p_2.1, p_2.2)
  else if Int32.toInt l1 = 1 then
    bnd (f12_depth μ) fun p_4 =>
    bnd (f12_told μ p_4) fun p_5 =>
    some (p_5.1, p_5.2)
  else if Int32.toInt l1 = 2 then
    bnd (f12_chain μ) fun p_7 =>
    bnd (f12_told μ p_7) fun p_8 =>
    some (p_8.1, p_8.2)
  else if Int32.toInt l1 = 3 then
    bnd (f12_continuations μ) fun p_10 =>
    bnd (f12_told μ p_10) fun p_11 =>
    some (p_11.1, p_11.2)
  else
    bnd (f12_refuse μ (1 : Int32)) fun p_12 =>
    some (p_12.1, p_12.2)
set_option maxHeartbeats 4000000 in
set_option maxRecDepth 100000 in
theorem k12_acts_ {l : Launch} {K : JK} (hl : l.stackTraces = false) {σ μ : Sto} {o : Int64} {l1 : Int32}  {Qf : Int32 × Sto → Prop} (h : Ok (f12_acts_ μ l1) Qf) : Con l K yX12_acts_ (.code yX12_acts_ cX12_acts_ 2 (some .int) :: TB) 1 0 0 False [.ref (K.2.2 + 2017), .int l1] 2055 (jw K σ μ o) (PR Qf (fun p => some (.int p.1)) (fun p => jw K σ p.2 o)) PN := by
  refine Con.enter (own := RX12) hl (by decide) rfl (Nat.le_of_ble_eq_true rfl) ?_
  intro X hX hR C hret hnt
  generalize hQQ : jQ X K 0 0 (PR Qf (fun p => some (.int p.1)) (fun p => jw K σ p.2 o)) PN False = QQ
  change J X K 2 False QQ 0 0 2055 (jw K σ μ o) 0 [(0, .ref (K.2.2 + 2017)), (1, .int l1)] []
  unfold f12_acts_ at h
  refine J_iload_n (i := 1) (p := 1) C dX12_acts__0 rfl rfl rfl ?_
  by_cases c_2 : Int32.toInt l1 = 0
  · have h := h.pos c_2
    refine J_tab (t := 32) C 0 c_2 dX12_acts__1 (by decide) (by decide) rfl (by decide) ?_
    refine J_aload_n (i := 0) (p := 0) C dX12_acts__32 rfl rfl rfl ?_
    refine J_aload_n (i := 0) (p := 0) C dX12_acts__33 rfl rfl rfl ?_
    refine Jm_getI C fp_RX12_182 rfl rfl dX12_acts__34 rfl ?_
    refine Jm_cV (rest := []) (st9 := fun p_2 => [.int p_2.1]) C hR hX cv_RX12_209 rfl (Nat.le_of_ble_eq_true rfl) (k12_told hl  (Ok.ofbnd h)) rfl rfl (Nat.le_of_ble_eq_true rfl) (Nat.le_of_ble_eq_true rfl) (Nat.le_of_ble_eq_true rfl) ⟨(Nat.le_of_ble_eq_true rfl), (Nat.le_of_ble_eq_true rfl)⟩ dX12_acts__37 rfl (fun E n9 w9 hx => JT_n hx) (fun _ => rfl) (fun p_2 h => ?_)
    have h : Ok _ _ := h
    change J X K 2 False QQ 0 0 2055 (jw K σ p_2.2 o) 40 [(0, .ref (K.2.2 + 2017)), (1, .int l1)] [.int p_2.1]
    rw [← hQQ]
    exact J_iret C hret (Nat.le_of_ble_eq_true rfl) (Nat.le_of_ble_eq_true rfl) ⟨_, h.osome, rfl, rfl, rfl⟩ dX12_acts__40
  · have h := h.neg c_2
    by_cases c_5 : Int32.toInt l1 = 1
    · have h := h.pos c_5
      refine J_tab (t := 41) C 1 c_5 dX12_acts__1 (by decide) (by decide) rfl (by decide) ?_
      refine J_aload_n (i := 0) (p := 0) C dX12_acts__41 rfl rfl rfl ?_
      refine J_aload_n (i := 0) (p := 0) C dX12_acts__42 rfl rfl rfl ?_
      refine Jm_cV (rest := [.ref (K.2.2 + 2017)]) (st9 := fun p_4 => [.int p_4, .ref (K.2.2 + 2017)]) C hR hX cv_RX12_313 rfl (Nat.le_of_ble_eq_true rfl) (k12_depth hl  (Ok.ofbnd h)) rfl rfl (Nat.le_of_ble_eq_true rfl) (Nat.le_of_ble_eq_true rfl) (Nat.le_of_ble_eq_true rfl) ⟨(Nat.le_of_ble_eq_true rfl), (Nat.le_of_ble_eq_true rfl)⟩ dX12_acts__43 rfl (fun E n9 w9 hx => JT_n hx) (fun _ => rfl) (fun p_4 h => ?_)
      have h : Ok _ _ := h
      change J X K 2 False QQ 0 0 2055 (jw K σ μ o) 46 [(0, .ref (K.2.2 + 2017)), (1, .int l1)] [.int p_4, .ref (K.2.2 + 2017)]
      refine Jm_cV (rest := []) (st9 := fun p_5 => [.int p_5.1]) C hR hX cv_RX12_209 rfl (Nat.le_of_ble_eq_true rfl) (k12_told hl  (Ok.ofbnd h)) rfl rfl (Nat.le_of_ble_eq_true rfl) (Nat.le_of_ble_eq_true rfl) (Nat.le_of_ble_eq_true rfl) ⟨(Nat.le_of_ble_eq_true rfl), (Nat.le_of_ble_eq_true rfl)⟩ dX12_acts__46 rfl (fun E n9 w9 hx => JT_n hx) (fun _ => rfl) (fun p_5 h => ?_)
      have h : Ok _ _ := h
      change J X K 2 False QQ 0 0 2055 (jw K σ p_5.2 o) 49 [(0, .ref (K.2.2 + 2017)), (1, .int l1)] [.int p_5.1]
      rw [← hQQ]
      exact J_iret C hret (Nat.le_of_ble_eq_true rfl) (Nat.le_of_ble_eq_true rfl) ⟨_, h.osome, rfl, rfl, rfl⟩ dX12_acts__49
    · have h := h.neg c_5
      by_cases c_8 : Int32.toInt l1 = 2
      · have h := h.pos c_8
        refine J_tab (t := 50) C 2 c_8 dX12_acts__1 (by decide) (by decide) rfl (by decide) ?_
        refine J_aload_n (i := 0) (p := 0) C dX12_acts__50 rfl rfl rfl ?_
        refine J_aload_n (i := 0) (p := 0) C dX12_acts__51 rfl rfl rfl ?_
        refine Jm_cV (rest := [.ref (K.2.2 + 2017)]) (st9 := fun p_7 => [.int p_7, .ref (K.2.2 + 2017)]) C hR hX cv_RX12_316 rfl (Nat.le_of_ble_eq_true rfl) (k12_chain hl  (Ok.ofbnd h)) rfl rfl (Nat.le_of_ble_eq_true rfl) (Nat.le_of_ble_eq_true rfl) (Nat.le_of_ble_eq_true rfl) ⟨(Nat.le_of_ble_eq_true rfl), (Nat.le_of_ble_eq_true rfl)⟩ dX12_acts__52 rfl (fun E n9 w9 hx => JT_n hx) (fun _ => rfl) (fun p_7 h => ?_)
        have h : Ok _ _ := h
        change J X K 2 False QQ 0 0 2055 (jw K σ μ o) 55 [(0, .ref (K.2.2 + 2017)), (1, .int l1)] [.int p_7, .ref (K.2.2 + 2017)]
        refine Jm_cV (rest := []) (st9 := fun p_8 => [.int p_8.1]) C hR hX cv_RX12_209 rfl (Nat.le_of_ble_eq_true rfl) (k12_told hl  (Ok.ofbnd h)) rfl rfl (Nat.le_of_ble_eq_true rfl) (Nat.le_of_ble_eq_true rfl) (Nat.le_of_ble_eq_true rfl) ⟨(Nat.le_of_ble_eq_true rfl), (Nat.le_of_ble_eq_true rfl)⟩ dX12_acts__55 rfl (fun E n9 w9 hx => JT_n hx) (fun _ => rfl) (fun p_8 h => ?_)
        have h : Ok _ _ := h
        change J X K 2 False QQ 0 0 2055 (jw K σ p_8.2 o) 58 [(0, .ref (K.2.2 + 2017)), (1, .int l1)] [.int p_8.1]
        rw [← hQQ]
        exact J_iret C hret (Nat.le_of_ble_eq_true rfl) (Nat.le_of_ble_eq_true rfl) ⟨_, h.osome, rfl, rfl, rfl⟩ dX12_acts__58
      · have h := h.neg c_8
        by_cases c_11 : Int32.toInt l1 = 3
        · have h := h.pos c_11
          refine J_tab (t := 59) C 3 c_11 dX12_acts__1 (by decide) (by decide) rfl (by decide) ?_
          refine J_aload_n (i := 0) (p := 0) C dX12_acts__59 rfl rfl rfl ?_
          refine J_aload_n (i := 0) (p := 0) C dX12_acts__60 rfl rfl rfl ?_
          refine Jm_cV (rest := [.ref (K.2.2 + 2017)]) (st9 := fun p_10 => [.int p_10, .ref (K.2.2 + 2017)]) C hR hX cv_RX12_306 rfl (Nat.le_of_ble_eq_true rfl) (k12_continuations hl  (Ok.ofbnd h)) rfl rfl (Nat.le_of_ble_eq_true rfl) (Nat.le_of_ble_eq_true rfl) (Nat.le_of_ble_eq_true rfl) ⟨(Nat.le_of_ble_eq_true rfl), (Nat.le_of_ble_eq_true rfl)⟩ dX12_acts__61 rfl (fun E n9 w9 hx => JT_n hx) (fun _ => rfl) (fun p_10 h => ?_)
          have h : Ok _ _ := h
          change J X K 2 False QQ 0 0 2055 (jw K σ μ o) 64 [(0, .ref (K.2.2 + 2017)), (1, .int l1)] [.int p_10, .ref (K.2.2 + 2017)]
          refine Jm_cV (rest := []) (st9 := fun p_11 => [.int p_11.1]) C hR hX cv_RX12_209 rfl (Nat.le_of_ble_eq_true rfl) (k12_told hl  (Ok.ofbnd h)) rfl rfl (Nat.le_of_ble_eq_true rfl) (Nat.le_of_ble_eq_true rfl) (Nat.le_of_ble_eq_true rfl) ⟨(Nat.le_of_ble_eq_true rfl), (Nat.le_of_ble_eq_true rfl)⟩ dX12_acts__64 rfl (fun E n9 w9 hx => JT_n hx) (fun _ => rfl) (fun p_11 h => ?_)
          have h : Ok _ _ := h
          change J X K 2 False QQ 0 0 2055 (jw K σ p_11.2 o) 67 [(0, .ref (K.2.2 + 2017)), (1, .int l1)] [.int p_11.1]
          rw [← hQQ]
          exact J_iret C hret (Nat.le_of_ble_eq_true rfl) (Nat.le_of_ble_eq_true rfl) ⟨_, h.osome, rfl, rfl, rfl⟩ dX12_acts__67
        · have h := h.neg c_11
          refine J_tabO (t := 68) C dX12_acts__1 (by omega) (by decide) ?_
          refine J_aload_n (i := 0) (p := 0) C dX12_acts__68 rfl rfl rfl ?_
          refine J_iconst (v := 1) C (by decide) dX12_acts__69 rfl ?_
          refine Jm_cV (rest := []) (st9 := fun p_12 => [.int p_12.1]) C hR hX cv_RX12_206 rfl (Nat.le_of_ble_eq_true rfl) (k12_refuse hl  (Ok.ofbnd h)) rfl rfl (Nat.le_of_ble_eq_true rfl) (Nat.le_of_ble_eq_true rfl) (Nat.le_of_ble_eq_true rfl) ⟨(Nat.le_of_ble_eq_true rfl), (Nat.le_of_ble_eq_true rfl)⟩ dX12_acts__70 rfl (fun E n9 w9 hx => JT_n hx) (fun _ => rfl) (fun p_12 h => ?_)
          have h : Ok _ _ := h
          change J X K 2 False QQ 0 0 2055 (jw K σ p_12.2 o) 73 [(0, .ref (K.2.2 + 2017)), (1, .int l1)] [.int p_12.1]
          rw [← hQQ]
          exact J_iret C hret (Nat.le_of_ble_eq_true rfl) (Nat.le_of_ble_eq_true rfl) ⟨_, h.osome, rfl, rfl, rfl⟩ dX12_acts__73
def f12_setCursor (μ : Sto) (l1 : Int32) : Option (Int32 × Sto) :=
  bnd (f12_isPlace μ l1) fun p_1 =>
  if p_1 = 0 then
    bnd (f12_refuse μ (1 : Int32)) fun p_6 =>
    some (p_6.1, p_6.2)
  else
    stp (fI μ 2017 6) fun x2_1 =>
    stp (uI μ 2017 6 (1 : Int32)) fun μx_2 =>
    gd (inb (0 : Int32) 8) <|
    stp (uA μx_2 2019 (Int32.toNatClampNeg (0 : Int32)) l1) fun μx_3 =>
    bnd (f12_opensAt μx_3 l1) fun p_4 =>
    bnd (f12_told p_4 x2_1) fun p_5 =>
    some (p_5.1, p_5.2)
set_option maxHeartbeats 4000000 in
set_option maxRecDepth 100000 in
theorem k12_setCursor {l : Launch} {K : JK} (hl : l.stackTraces = false) {σ μ : Sto} {o : Int64} {l1 : Int32}  {Qf : Int32 × Sto → Prop} (h : Ok (f12_setCursor μ l1) Qf) : Con l K yX12_setCursor (.code yX12_setCursor cX12_setCursor 3 (some .int) :: TB) 2 0 0 False [.ref (K.2.2 + 2017), .int l1] 2055 (jw K σ μ o) (PR Qf (fun p => some (.int p.1)) (fun p => jw K σ p.2 o)) PN := by
  refine Con.enter (own := RX12) hl (by decide) rfl (Nat.le_of_ble_eq_true rfl) ?_
  intro X hX hR C hret hnt
  generalize hQQ : jQ X K 0 0 (PR Qf (fun p => some (.int p.1)) (fun p => jw K σ p.2 o)) PN False = QQ
  change J X K 3 False QQ 0 0 2055 (jw K σ μ o) 0 [(0, .ref (K.2.2 + 2017)), (1, .int l1)] []
  unfold f12_setCursor at h
  refine J_aload_n (i := 0) (p := 0) C dX12_setCursor_0 rfl rfl rfl ?_
  refine J_iload_n (i := 1) (p := 1) C dX12_setCursor_1 rfl rfl rfl ?_
  refine Jm_cV (rest := []) (st9 := fun p_1 => [.int p_1]) C hR hX cv_RX12_218 rfl (Nat.le_of_ble_eq_true rfl) (k12_isPlace hl  (Ok.ofbnd h)) rfl rfl (Nat.le_of_ble_eq_true rfl) (Nat.le_of_ble_eq_true rfl) (Nat.le_of_ble_eq_true rfl) ⟨(Nat.le_of_ble_eq_true rfl), (Nat.le_of_ble_eq_true rfl)⟩ dX12_setCursor_2 rfl (fun E n9 w9 hx => JT_n hx) (fun _ => rfl) (fun p_1 h => ?_)
  have h : Ok _ _ := h
  change J X K 3 False QQ 0 0 2055 (jw K σ μ o) 5 [(0, .ref (K.2.2 + 2017)), (1, .int l1)] [.int p_1]
  refine J_if_ne (t := 14) C dX12_setCursor_5 (by decide) rfl (fun c_2 => ?_) (fun c_2 => ?_)
  · have h := h.neg c_2
    refine J_aload_n (i := 0) (p := 0) C dX12_setCursor_14 rfl rfl rfl ?_
    refine Jm_getI C fp_RX12_26 rfl rfl dX12_setCursor_15 rfl ?_
    obtain ⟨x2_1, e_x2_1, h⟩ := Ok.nm h
    refine J_istoreE_n (i := 2) (lv' := [(2, .int x2_1), (0, .ref (K.2.2 + 2017)), (1, .int l1)]) C e_x2_1 dX12_setCursor_18 rfl (Nat.le_of_ble_eq_true rfl) rfl rfl ?_
    refine J_aload_n (i := 0) (p := 1) C dX12_setCursor_19 rfl rfl rfl ?_
    refine J_iconst (v := 1) C (by decide) dX12_setCursor_20 rfl ?_
    obtain ⟨μx_2, e_μx_2, h⟩ := Ok.nm h
    refine Jm_putI C id fp_RX12_26 fw_11_6 rfl rfl rfl e_μx_2 dX12_setCursor_21 rfl ?_
    refine J_aload_n (i := 0) (p := 1) C dX12_setCursor_24 rfl rfl rfl ?_
    refine Jm_getS (o2 := 2) (r2 := 2019) C fp_RX12_13 rfl rfl rfl dX12_setCursor_25 rfl ?_
    refine J_iconst (v := 0) C (by decide) dX12_setCursor_28 rfl ?_
    refine J_iload_n (i := 1) (p := 2) C dX12_setCursor_29 rfl rfl rfl ?_
    obtain ⟨g_3, h⟩ := Ok.ofgd h
    obtain ⟨μx_3, e_μx_3, h⟩ := Ok.nm h
    refine Jm_iast C id rfl rfl g_3 e_μx_3 dX12_setCursor_30 rfl ?_
    refine J_aload_n (i := 0) (p := 1) C dX12_setCursor_31 rfl rfl rfl ?_
    refine J_iload_n (i := 1) (p := 2) C dX12_setCursor_32 rfl rfl rfl ?_
    refine Jm_cV (rest := []) (st9 := fun p_4 => []) C hR hX cv_RX12_294 rfl (Nat.le_of_ble_eq_true rfl) (k12_opensAt hl  (Ok.ofbnd h)) rfl rfl (Nat.le_of_ble_eq_true rfl) (Nat.le_of_ble_eq_true rfl) (Nat.le_of_ble_eq_true rfl) ⟨(Nat.le_of_ble_eq_true rfl), (Nat.le_of_ble_eq_true rfl)⟩ dX12_setCursor_33 rfl (fun E n9 w9 hx => JT_n hx) (fun _ => rfl) (fun p_4 h => ?_)
    have h : Ok _ _ := h
    change J X K 3 False QQ 0 0 2055 (jw K σ p_4 o) 36 [(2, .int x2_1), (0, .ref (K.2.2 + 2017)), (1, .int l1)] []
    refine J_aload_n (i := 0) (p := 1) C dX12_setCursor_36 rfl rfl rfl ?_
    refine J_iload_n (i := 2) (p := 0) C dX12_setCursor_37 rfl rfl rfl ?_
    refine Jm_cV (rest := []) (st9 := fun p_5 => [.int p_5.1]) C hR hX cv_RX12_209 rfl (Nat.le_of_ble_eq_true rfl) (k12_told hl  (Ok.ofbnd h)) rfl rfl (Nat.le_of_ble_eq_true rfl) (Nat.le_of_ble_eq_true rfl) (Nat.le_of_ble_eq_true rfl) ⟨(Nat.le_of_ble_eq_true rfl), (Nat.le_of_ble_eq_true rfl)⟩ dX12_setCursor_38 rfl (fun E n9 w9 hx => JT_n hx) (fun _ => rfl) (fun p_5 h => ?_)
    have h : Ok _ _ := h
    change J X K 3 False QQ 0 0 2055 (jw K σ p_5.2 o) 41 [(2, .int x2_1), (0, .ref (K.2.2 + 2017)), (1, .int l1)] [.int p_5.1]
    rw [← hQQ]
    exact J_iret C hret (Nat.le_of_ble_eq_true rfl) (Nat.le_of_ble_eq_true rfl) ⟨_, h.osome, rfl, rfl, rfl⟩ dX12_setCursor_41
  · have h := h.pos (Decidable.not_not.mp c_2)
    refine J_aload_n (i := 0) (p := 0) C dX12_setCursor_8 rfl rfl rfl ?_
    refine J_iconst (v := 1) C (by decide) dX12_setCursor_9 rfl ?_
    refine Jm_cV (rest := []) (st9 := fun p_6 => [.int p_6.1]) C hR hX cv_RX12_206 rfl (Nat.le_of_ble_eq_true rfl) (k12_refuse hl  (Ok.ofbnd h)) rfl rfl (Nat.le_of_ble_eq_true rfl) (Nat.le_of_ble_eq_true rfl) (Nat.le_of_ble_eq_true rfl) ⟨(Nat.le_of_ble_eq_true rfl), (Nat.le_of_ble_eq_true rfl)⟩ dX12_setCursor_10 rfl (fun E n9 w9 hx => JT_n hx) (fun _ => rfl) (fun p_6 h => ?_)
    have h : Ok _ _ := h
    change J X K 3 False QQ 0 0 2055 (jw K σ p_6.2 o) 13 [(0, .ref (K.2.2 + 2017)), (1, .int l1)] [.int p_6.1]
    rw [← hQQ]
    exact J_iret C hret (Nat.le_of_ble_eq_true rfl) (Nat.le_of_ble_eq_true rfl) ⟨_, h.osome, rfl, rfl, rfl⟩ dX12_setCursor_13
def f12_addCursor_j45 (l1 : Int32) (μ_18 : Sto) (l3_45 : Int32) (s0_45 : Int32) : Option ((Int32 × Int32) ⊕ Int32) :=
  stp s0_45 fun x2_1 =>
  stp (l3_45 + (1 : Int32)) fun x3_2 =>
  some (.inl (x2_1, x3_2))
def f12_addCursor_j40 (l1 : Int32) (μ_18 : Sto) (l3_40 : Int32) : Option ((Int32 × Int32) ⊕ Int32) :=
  f12_addCursor_j45 l1 μ_18 l3_40 (1 : Int32)
def f12_addCursor_b18 (l1 : Int32) (μ_18 : Sto) (l2_18 : Int32) (l3_18 : Int32) : Option ((Int32 × Int32) ⊕ Int32) :=
  if (fI μ_18 2017 6) ≤ l3_18 then
    some (.inr l2_18)
  else
    if l2_18 = 0 then
      gd (inb l3_18 8) <|
      if (aI μ_18 2019 (Int32.toNatClampNeg l3_18)) = l1 then
        f12_addCursor_j40 l1 μ_18 l3_18
      else
        f12_addCursor_j45 l1 μ_18 l3_18 (0 : Int32)
    else
      f12_addCursor_j40 l1 μ_18 l3_18
def f12_addCursor_j18 (l1 : Int32) (μ_18 : Sto) (l2_18 : Int32) (l3_18 : Int32) : Option (Int32 × Sto) :=
  bnd (loopF (fun s_18 => f12_addCursor_b18 l1 μ_18 s_18.1 s_18.2) FU (l2_18, l3_18)) fun r_18 =>
    if r_18 = 0 then
      if (fI μ_18 2017 6) = (8 : Int32) then
        bnd (f12_refuse μ_18 (2 : Int32)) fun p_19 =>
        some (p_19.1, p_19.2)
      else
        gd (inb (fI μ_18 2017 6) 8) <|
        stp (uA μ_18 2019 (Int32.toNatClampNeg (fI μ_18 2017 6)) l1) fun μx_5 =>
        stp (uI μx_5 2017 6 ((fI μx_5 2017 6) + (1 : Int32))) fun μx_6 =>
        bnd (f12_orders μx_6) fun p_16 =>
        bnd (f12_opensAt p_16 l1) fun p_17 =>
        bnd (f12_told p_17 (fI p_17 2017 6)) fun p_18 =>
        some (p_18.1, p_18.2)
    else
      bnd (f12_told μ_18 (fI μ_18 2017 6)) fun p_20 =>
      some (p_20.1, p_20.2)
def f12_addCursor (μ : Sto) (l1 : Int32) : Option (Int32 × Sto) :=
  bnd (f12_isPlace μ l1) fun p_21 =>
  if p_21 = 0 then
    bnd (f12_refuse μ (1 : Int32)) fun p_23 =>
    some (p_23.1, p_23.2)
  else
    stp (0 : Int32) fun x2_7 =>
    stp (0 : Int32) fun x3_8 =>
    f12_addCursor_j18 l1 μ x2_7 x3_8
set_option maxHeartbeats 4000000 in
set_option maxRecDepth 100000 in
theorem k12_addCursor {l : Launch} {K : JK} (hl : l.stackTraces = false) {σ μ : Sto} {o : Int64} {l1 : Int32}  {Qf : Int32 × Sto → Prop} (h : Ok (f12_addCursor μ l1) Qf) : Con l K yX12_addCursor (.code yX12_addCursor cX12_addCursor 4 (some .int) :: TB) 2 0 0 False [.ref (K.2.2 + 2017), .int l1] 2055 (jw K σ μ o) (PR Qf (fun p => some (.int p.1)) (fun p => jw K σ p.2 o)) PN := by
  refine Con.enter (own := RX12) hl (by decide) rfl (Nat.le_of_ble_eq_true rfl) ?_
  intro X hX hR C hret hnt
  generalize hQQ : jQ X K 0 0 (PR Qf (fun p => some (.int p.1)) (fun p => jw K σ p.2 o)) PN False = QQ
  change J X K 4 False QQ 0 0 2055 (jw K σ μ o) 0 [(0, .ref (K.2.2 + 2017)), (1, .int l1)] []
  have hj_18 : (∀ (μ_18 : Sto) (l2_18 : Int32) (l3_18 : Int32), Ok (f12_addCursor_j18 l1 μ_18 l2_18 l3_18) Qf → J X K 4 False QQ 0 0 2055 (jw K σ μ_18 o) 18 [(0, .ref (K.2.2 + 2017)), (1, .int l1), (2, .int l2_18), (3, .int l3_18)] []) := by
    intro μ_18 l2_18 l3_18 h
    unfold f12_addCursor_j18 at h
    refine loop_gen (S := Int32 × Int32) (P := fun s_18 => J X K 4 False QQ 0 0 2055 (jw K σ μ_18 o) 18 [(0, .ref (K.2.2 + 2017)), (1, .int l1), (2, .int s_18.1), (3, .int s_18.2)] []) ?_ FU (l2_18, l3_18) (Ok.ofbnd h)
    intro B_18 hB_18 hE_18 s_18 h
    obtain ⟨l2_18, l3_18⟩ := s_18
    have h : Ok (f12_addCursor_b18 l1 μ_18 l2_18 l3_18) B_18 := h
    change J X K 4 False QQ 0 0 2055 (jw K σ μ_18 o) 18 [(0, .ref (K.2.2 + 2017)), (1, .int l1), (2, .int l2_18), (3, .int l3_18)] []
    have hj_45 : (∀ (l3_45 : Int32) (s0_45 : Int32), Ok (f12_addCursor_j45 l1 μ_18 l3_45 s0_45) B_18 → J X K 4 False QQ 0 0 2055 (jw K σ μ_18 o) 45 [(0, .ref (K.2.2 + 2017)), (1, .int l1), (3, .int l3_45)] [.int s0_45]) := by
      intro l3_45 s0_45 h
      unfold f12_addCursor_j45 at h
      obtain ⟨x2_1, e_x2_1, h⟩ := Ok.nm h
      refine J_istoreE_n (i := 2) (lv' := [(2, .int x2_1), (0, .ref (K.2.2 + 2017)), (1, .int l1), (3, .int l3_45)]) C e_x2_1 dX12_addCursor_45 rfl (Nat.le_of_ble_eq_true rfl) rfl rfl ?_
      obtain ⟨x3_2, e_x3_2, h⟩ := Ok.nm h
      refine J_iincE (i := 3) (p := 3) (lv' := [(3, .int x3_2), (2, .int x2_1), (0, .ref (K.2.2 + 2017)), (1, .int l1)]) C e_x3_2 dX12_addCursor_46 rfl (by decide) (Nat.le_of_ble_eq_true rfl) rfl rfl ?_
      refine J_goto (t := 18) C dX12_addCursor_49 (by decide) ?_
      refine J.sub [2, 3, 1, 0] rfl ?_
      exact hB_18 (x2_1, x3_2) h.osome
    have hj_40 : (∀ (l3_40 : Int32), Ok (f12_addCursor_j40 l1 μ_18 l3_40) B_18 → J X K 4 False QQ 0 0 2055 (jw K σ μ_18 o) 40 [(0, .ref (K.2.2 + 2017)), (1, .int l1), (3, .int l3_40)] []) := by
      intro l3_40 h
      unfold f12_addCursor_j40 at h
      refine J_iconst (v := 1) C (by decide) dX12_addCursor_40 rfl ?_
      refine J_goto (t := 45) C dX12_addCursor_41 (by decide) ?_
      exact hj_45 l3_40 (1 : Int32) h
    unfold f12_addCursor_b18 at h
    refine J_iload_n (i := 3) (p := 3) C dX12_addCursor_18 rfl rfl rfl ?_
    refine J_aload_n (i := 0) (p := 0) C dX12_addCursor_19 rfl rfl rfl ?_
    refine Jm_getI C fp_RX12_26 rfl rfl dX12_addCursor_20 rfl ?_
    refine J_icmp_ge (t := 52) C dX12_addCursor_23 (by decide) rfl (fun c_1 => ?_) (fun c_1 => ?_)
    · have h := h.pos c_1
      have h := hE_18 l2_18 h.osome
      try dsimp only at h
      refine J_iload_n (i := 2) (p := 2) C dX12_addCursor_52 rfl rfl rfl ?_
      refine J_if_eq (t := 65) C dX12_addCursor_53 (by decide) rfl (fun c_2 => ?_) (fun c_2 => ?_)
      · have h := h.pos c_2
        refine J_aload_n (i := 0) (p := 0) C dX12_addCursor_65 rfl rfl rfl ?_
        refine Jm_getI C fp_RX12_26 rfl rfl dX12_addCursor_66 rfl ?_
        refine J_bipush (v := 8) C (by decide) dX12_addCursor_69 rfl ?_
        refine J_icmp_ne (t := 80) C dX12_addCursor_71 (by decide) rfl (fun c_3 => ?_) (fun c_3 => ?_)
        · have h := h.neg c_3
          refine J_aload_n (i := 0) (p := 0) C dX12_addCursor_80 rfl rfl rfl ?_
          refine Jm_getS (o2 := 2) (r2 := 2019) C fp_RX12_13 rfl rfl rfl dX12_addCursor_81 rfl ?_
          refine J_aload_n (i := 0) (p := 0) C dX12_addCursor_84 rfl rfl rfl ?_
          refine Jm_getI C fp_RX12_26 rfl rfl dX12_addCursor_85 rfl ?_
          refine J_iload_n (i := 1) (p := 1) C dX12_addCursor_88 rfl rfl rfl ?_
          obtain ⟨g_4, h⟩ := Ok.ofgd h
          obtain ⟨μx_3, e_μx_3, h⟩ := Ok.nm h
          refine Jm_iast C id rfl rfl g_4 e_μx_3 dX12_addCursor_89 rfl ?_
          refine J_aload_n (i := 0) (p := 0) C dX12_addCursor_90 rfl rfl rfl ?_
          refine J_dup C rfl dX12_addCursor_91 rfl ?_
          refine Jm_getI C fp_RX12_26 rfl rfl dX12_addCursor_92 rfl ?_
          refine J_iconst (v := 1) C (by decide) dX12_addCursor_95 rfl ?_
          refine J_iadd C dX12_addCursor_96 rfl ?_
          obtain ⟨μx_4, e_μx_4, h⟩ := Ok.nm h
          refine Jm_putI C id fp_RX12_26 fw_11_6 rfl rfl rfl e_μx_4 dX12_addCursor_97 rfl ?_
          refine J_aload_n (i := 0) (p := 0) C dX12_addCursor_100 rfl rfl rfl ?_
          refine Jm_cV (rest := []) (st9 := fun p_5 => []) C hR hX cv_RX12_197 rfl (Nat.le_of_ble_eq_true rfl) (k12_orders hl  (Ok.ofbnd h)) rfl rfl (Nat.le_of_ble_eq_true rfl) (Nat.le_of_ble_eq_true rfl) (Nat.le_of_ble_eq_true rfl) ⟨(Nat.le_of_ble_eq_true rfl), (Nat.le_of_ble_eq_true rfl)⟩ dX12_addCursor_101 rfl (fun E n9 w9 hx => JT_n hx) (fun _ => rfl) (fun p_5 h => ?_)
          have h : Ok _ _ := h
          change J X K 4 False QQ 0 0 2055 (jw K σ p_5 o) 104 [(0, .ref (K.2.2 + 2017)), (1, .int l1), (2, .int l2_18), (3, .int l3_18)] []
          refine J_aload_n (i := 0) (p := 0) C dX12_addCursor_104 rfl rfl rfl ?_
          refine J_iload_n (i := 1) (p := 1) C dX12_addCursor_105 rfl rfl rfl ?_
          refine Jm_cV (rest := []) (st9 := fun p_6 => []) C hR hX cv_RX12_294 rfl (Nat.le_of_ble_eq_true rfl) (k12_opensAt hl  (Ok.ofbnd h)) rfl rfl (Nat.le_of_ble_eq_true rfl) (Nat.le_of_ble_eq_true rfl) (Nat.le_of_ble_eq_true rfl) ⟨(Nat.le_of_ble_eq_true rfl), (Nat.le_of_ble_eq_true rfl)⟩ dX12_addCursor_106 rfl (fun E n9 w9 hx => JT_n hx) (fun _ => rfl) (fun p_6 h => ?_)
          have h : Ok _ _ := h
          change J X K 4 False QQ 0 0 2055 (jw K σ p_6 o) 109 [(0, .ref (K.2.2 + 2017)), (1, .int l1), (2, .int l2_18), (3, .int l3_18)] []
          refine J_aload_n (i := 0) (p := 0) C dX12_addCursor_109 rfl rfl rfl ?_
          refine J_aload_n (i := 0) (p := 0) C dX12_addCursor_110 rfl rfl rfl ?_
          refine Jm_getI C fp_RX12_26 rfl rfl dX12_addCursor_111 rfl ?_
          refine Jm_cV (rest := []) (st9 := fun p_7 => [.int p_7.1]) C hR hX cv_RX12_209 rfl (Nat.le_of_ble_eq_true rfl) (k12_told hl  (Ok.ofbnd h)) rfl rfl (Nat.le_of_ble_eq_true rfl) (Nat.le_of_ble_eq_true rfl) (Nat.le_of_ble_eq_true rfl) ⟨(Nat.le_of_ble_eq_true rfl), (Nat.le_of_ble_eq_true rfl)⟩ dX12_addCursor_114 rfl (fun E n9 w9 hx => JT_n hx) (fun _ => rfl) (fun p_7 h => ?_)
          have h : Ok _ _ := h
          change J X K 4 False QQ 0 0 2055 (jw K σ p_7.2 o) 117 [(0, .ref (K.2.2 + 2017)), (1, .int l1), (2, .int l2_18), (3, .int l3_18)] [.int p_7.1]
          rw [← hQQ]
          exact J_iret C hret (Nat.le_of_ble_eq_true rfl) (Nat.le_of_ble_eq_true rfl) ⟨_, h.osome, rfl, rfl, rfl⟩ dX12_addCursor_117
        · have h := h.pos (Decidable.not_not.mp c_3)
          refine J_aload_n (i := 0) (p := 0) C dX12_addCursor_74 rfl rfl rfl ?_
          refine J_iconst (v := 2) C (by decide) dX12_addCursor_75 rfl ?_
          refine Jm_cV (rest := []) (st9 := fun p_8 => [.int p_8.1]) C hR hX cv_RX12_206 rfl (Nat.le_of_ble_eq_true rfl) (k12_refuse hl  (Ok.ofbnd h)) rfl rfl (Nat.le_of_ble_eq_true rfl) (Nat.le_of_ble_eq_true rfl) (Nat.le_of_ble_eq_true rfl) ⟨(Nat.le_of_ble_eq_true rfl), (Nat.le_of_ble_eq_true rfl)⟩ dX12_addCursor_76 rfl (fun E n9 w9 hx => JT_n hx) (fun _ => rfl) (fun p_8 h => ?_)
          have h : Ok _ _ := h
          change J X K 4 False QQ 0 0 2055 (jw K σ p_8.2 o) 79 [(0, .ref (K.2.2 + 2017)), (1, .int l1), (2, .int l2_18), (3, .int l3_18)] [.int p_8.1]
          rw [← hQQ]
          exact J_iret C hret (Nat.le_of_ble_eq_true rfl) (Nat.le_of_ble_eq_true rfl) ⟨_, h.osome, rfl, rfl, rfl⟩ dX12_addCursor_79
      · have h := h.neg c_2
        refine J_aload_n (i := 0) (p := 0) C dX12_addCursor_56 rfl rfl rfl ?_
        refine J_aload_n (i := 0) (p := 0) C dX12_addCursor_57 rfl rfl rfl ?_
        refine Jm_getI C fp_RX12_26 rfl rfl dX12_addCursor_58 rfl ?_
        refine Jm_cV (rest := []) (st9 := fun p_9 => [.int p_9.1]) C hR hX cv_RX12_209 rfl (Nat.le_of_ble_eq_true rfl) (k12_told hl  (Ok.ofbnd h)) rfl rfl (Nat.le_of_ble_eq_true rfl) (Nat.le_of_ble_eq_true rfl) (Nat.le_of_ble_eq_true rfl) ⟨(Nat.le_of_ble_eq_true rfl), (Nat.le_of_ble_eq_true rfl)⟩ dX12_addCursor_61 rfl (fun E n9 w9 hx => JT_n hx) (fun _ => rfl) (fun p_9 h => ?_)
        have h : Ok _ _ := h
        change J X K 4 False QQ 0 0 2055 (jw K σ p_9.2 o) 64 [(0, .ref (K.2.2 + 2017)), (1, .int l1), (2, .int l2_18), (3, .int l3_18)] [.int p_9.1]
        rw [← hQQ]
        exact J_iret C hret (Nat.le_of_ble_eq_true rfl) (Nat.le_of_ble_eq_true rfl) ⟨_, h.osome, rfl, rfl, rfl⟩ dX12_addCursor_64
    · have h := h.neg c_1
      refine J_iload_n (i := 2) (p := 2) C dX12_addCursor_26 rfl rfl rfl ?_
      refine J_if_ne (t := 40) C dX12_addCursor_27 (by decide) rfl (fun c_10 => ?_) (fun c_10 => ?_)
      · have h := h.neg c_10
        refine J.sub [0, 1, 3] rfl ?_
        exact hj_40 l3_18 h
      · have h := h.pos (Decidable.not_not.mp c_10)
        refine J_aload_n (i := 0) (p := 0) C dX12_addCursor_30 rfl rfl rfl ?_
        refine Jm_getS (o2 := 2) (r2 := 2019) C fp_RX12_13 rfl rfl rfl dX12_addCursor_31 rfl ?_
        refine J_iload_n (i := 3) (p := 3) C dX12_addCursor_34 rfl rfl rfl ?_
        obtain ⟨g_11, h⟩ := Ok.ofgd h
        refine Jm_iald C rfl rfl g_11 dX12_addCursor_35 rfl ?_
        refine J_iload_n (i := 1) (p := 1) C dX12_addCursor_36 rfl rfl rfl ?_
        refine J_icmp_ne (t := 44) C dX12_addCursor_37 (by decide) rfl (fun c_12 => ?_) (fun c_12 => ?_)
        · have h := h.neg c_12
          refine J_iconst (v := 0) C (by decide) dX12_addCursor_44 rfl ?_
          refine J.sub [0, 1, 3] rfl ?_
          exact hj_45 l3_18 (0 : Int32) h
        · have h := h.pos (Decidable.not_not.mp c_12)
          refine J.sub [0, 1, 3] rfl ?_
          exact hj_40 l3_18 h
  unfold f12_addCursor at h
  refine J_aload_n (i := 0) (p := 0) C dX12_addCursor_0 rfl rfl rfl ?_
  refine J_iload_n (i := 1) (p := 1) C dX12_addCursor_1 rfl rfl rfl ?_
  refine Jm_cV (rest := []) (st9 := fun p_21 => [.int p_21]) C hR hX cv_RX12_218 rfl (Nat.le_of_ble_eq_true rfl) (k12_isPlace hl  (Ok.ofbnd h)) rfl rfl (Nat.le_of_ble_eq_true rfl) (Nat.le_of_ble_eq_true rfl) (Nat.le_of_ble_eq_true rfl) ⟨(Nat.le_of_ble_eq_true rfl), (Nat.le_of_ble_eq_true rfl)⟩ dX12_addCursor_2 rfl (fun E n9 w9 hx => JT_n hx) (fun _ => rfl) (fun p_21 h => ?_)
  have h : Ok _ _ := h
  change J X K 4 False QQ 0 0 2055 (jw K σ μ o) 5 [(0, .ref (K.2.2 + 2017)), (1, .int l1)] [.int p_21]
  refine J_if_ne (t := 14) C dX12_addCursor_5 (by decide) rfl (fun c_22 => ?_) (fun c_22 => ?_)
  · have h := h.neg c_22
    refine J_iconst (v := 0) C (by decide) dX12_addCursor_14 rfl ?_
    obtain ⟨x2_7, e_x2_7, h⟩ := Ok.nm h
    refine J_istoreE_n (i := 2) (lv' := [(2, .int x2_7), (0, .ref (K.2.2 + 2017)), (1, .int l1)]) C e_x2_7 dX12_addCursor_15 rfl (Nat.le_of_ble_eq_true rfl) rfl rfl ?_
    refine J_iconst (v := 0) C (by decide) dX12_addCursor_16 rfl ?_
    obtain ⟨x3_8, e_x3_8, h⟩ := Ok.nm h
    refine J_istoreE_n (i := 3) (lv' := [(3, .int x3_8), (2, .int x2_7), (0, .ref (K.2.2 + 2017)), (1, .int l1)]) C e_x3_8 dX12_addCursor_17 rfl (Nat.le_of_ble_eq_true rfl) rfl rfl ?_
    refine J.sub [2, 3, 1, 0] rfl ?_
    exact hj_18 μ x2_7 x3_8 h
  · have h := h.pos (Decidable.not_not.mp c_22)
    refine J_aload_n (i := 0) (p := 0) C dX12_addCursor_8 rfl rfl rfl ?_
    refine J_iconst (v := 1) C (by decide) dX12_addCursor_9 rfl ?_
    refine Jm_cV (rest := []) (st9 := fun p_23 => [.int p_23.1]) C hR hX cv_RX12_206 rfl (Nat.le_of_ble_eq_true rfl) (k12_refuse hl  (Ok.ofbnd h)) rfl rfl (Nat.le_of_ble_eq_true rfl) (Nat.le_of_ble_eq_true rfl) (Nat.le_of_ble_eq_true rfl) ⟨(Nat.le_of_ble_eq_true rfl), (Nat.le_of_ble_eq_true rfl)⟩ dX12_addCursor_10 rfl (fun E n9 w9 hx => JT_n hx) (fun _ => rfl) (fun p_23 h => ?_)
    have h : Ok _ _ := h
    change J X K 4 False QQ 0 0 2055 (jw K σ p_23.2 o) 13 [(0, .ref (K.2.2 + 2017)), (1, .int l1)] [.int p_23.1]
    rw [← hQQ]
    exact J_iret C hret (Nat.le_of_ble_eq_true rfl) (Nat.le_of_ble_eq_true rfl) ⟨_, h.osome, rfl, rfl, rfl⟩ dX12_addCursor_13
def f12_visibleFrom_j81 (l1 : Int32) (l2 : Int32) (μ : Sto) (l3_81 : Int32) : Option (Int32) :=
  some l3_81
def f12_visibleFrom_j71 (l1 : Int32) (l2 : Int32) (μ : Sto) (l5_37 : Int32) (l6_37 : Int32) (l3_71 : Int32) (l4_71 : Int32) (l7_71 : Int32) : Option ((Int32 × Int32 × Int32) ⊕ Int32) :=
  stp (l7_71 + l5_37) fun x7_1 =>
  some (.inl (l3_71, l4_71, x7_1))
def f12_visibleFrom_b37 (l1 : Int32) (l2 : Int32) (μ : Sto) (l3_37 : Int32) (l4_37 : Int32) (l5_37 : Int32) (l6_37 : Int32) (l7_37 : Int32) : Option ((Int32 × Int32 × Int32) ⊕ Int32) :=
  if l4_37 ≤ 0 then
    some (.inr l3_37)
  else
    bnd (f12_in l7_37 (0 : Int32) (l6_37 - (1 : Int32))) fun p_2 =>
    if p_2 = 0 then
      some (.inr l3_37)
    else
      gd (inb l7_37 301) <|
      if (aI μ 2022 (Int32.toNatClampNeg l7_37)) = 0 then
        stp l7_37 fun x3_2 =>
        stp (l4_37 + (-1 : Int32)) fun x4_3 =>
        f12_visibleFrom_j71 l1 l2 μ l5_37 l6_37 x3_2 x4_3 l7_37
      else
        f12_visibleFrom_j71 l1 l2 μ l5_37 l6_37 l3_37 l4_37 l7_37
def f12_visibleFrom_j37 (l1 : Int32) (l2 : Int32) (μ : Sto) (l3_37 : Int32) (l4_37 : Int32) (l5_37 : Int32) (l6_37 : Int32) (l7_37 : Int32) : Option (Int32) :=
  bnd (loopF (fun s_37 => f12_visibleFrom_b37 l1 l2 μ s_37.1 s_37.2.1 l5_37 l6_37 s_37.2.2) FU (l3_37, l4_37, l7_37)) fun r_37 =>
    f12_visibleFrom_j81 l1 l2 μ r_37
def f12_visibleFrom_j23 (l1 : Int32) (l2 : Int32) (μ : Sto) (l3_23 : Int32) (l4_23 : Int32) (s0_23 : Int32) : Option (Int32) :=
  stp s0_23 fun x5_4 =>
  bnd (f12_lines μ) fun p_6 =>
  stp p_6 fun x6_5 =>
  stp (l1 + x5_4) fun x7_6 =>
  f12_visibleFrom_j37 l1 l2 μ l3_23 l4_23 x5_4 x6_5 x7_6
def f12_visibleFrom_j12 (l1 : Int32) (l2 : Int32) (μ : Sto) (l3_12 : Int32) (s0_12 : Int32) : Option (Int32) :=
  stp s0_12 fun x4_7 =>
  if 0 ≤ l2 then
    f12_visibleFrom_j23 l1 l2 μ l3_12 x4_7 (1 : Int32)
  else
    f12_visibleFrom_j23 l1 l2 μ l3_12 x4_7 (-1 : Int32)
def f12_visibleFrom (μ : Sto) (l1 : Int32) (l2 : Int32) : Option (Int32) :=
  stp l1 fun x3_8 =>
  if 0 ≤ l2 then
    f12_visibleFrom_j12 l1 l2 μ x3_8 l2
  else
    f12_visibleFrom_j12 l1 l2 μ x3_8 (-l2)
set_option maxHeartbeats 4000000 in
set_option maxRecDepth 100000 in
theorem k12_visibleFrom {l : Launch} {K : JK} (hl : l.stackTraces = false) {σ μ : Sto} {o : Int64} {l1 : Int32} {l2 : Int32}  {Qf : Int32 → Prop} (h : Ok (f12_visibleFrom μ l1 l2) Qf) : Con l K yX12_visibleFrom (.code yX12_visibleFrom cX12_visibleFrom 8 (some .int) :: TB) 1 0 0 False [.ref (K.2.2 + 2017), .int l1, .int l2] 2055 (jw K σ μ o) (PR Qf (fun p => some (.int p)) (fun p => jw K σ μ o)) PN := by
  refine Con.enter (own := RX12) hl (by decide) rfl (Nat.le_of_ble_eq_true rfl) ?_
  intro X hX hR C hret hnt
  generalize hQQ : jQ X K 0 0 (PR Qf (fun p => some (.int p)) (fun p => jw K σ μ o)) PN False = QQ
  change J X K 8 False QQ 0 0 2055 (jw K σ μ o) 0 [(0, .ref (K.2.2 + 2017)), (1, .int l1), (2, .int l2)] []
  have hj_81 : (∀ (l3_81 : Int32), Ok (f12_visibleFrom_j81 l1 l2 μ l3_81) Qf → J X K 8 False QQ 0 0 2055 (jw K σ μ o) 81 [(3, .int l3_81)] []) := by
    intro l3_81 h
    unfold f12_visibleFrom_j81 at h
    refine J_iload_n (i := 3) (p := 0) C dX12_visibleFrom_81 rfl rfl rfl ?_
    rw [← hQQ]
    exact J_iret C hret (Nat.le_of_ble_eq_true rfl) (Nat.le_of_ble_eq_true rfl) ⟨_, h.osome, rfl, rfl, rfl⟩ dX12_visibleFrom_82
  have hj_37 : (∀ (l3_37 : Int32) (l4_37 : Int32) (l5_37 : Int32) (l6_37 : Int32) (l7_37 : Int32), Ok (f12_visibleFrom_j37 l1 l2 μ l3_37 l4_37 l5_37 l6_37 l7_37) Qf → J X K 8 False QQ 0 0 2055 (jw K σ μ o) 37 [(0, .ref (K.2.2 + 2017)), (3, .int l3_37), (4, .int l4_37), (5, .int l5_37), (6, .int l6_37), (7, .int l7_37)] []) := by
    intro l3_37 l4_37 l5_37 l6_37 l7_37 h
    unfold f12_visibleFrom_j37 at h
    refine loop_gen (S := Int32 × Int32 × Int32) (P := fun s_37 => J X K 8 False QQ 0 0 2055 (jw K σ μ o) 37 [(0, .ref (K.2.2 + 2017)), (3, .int s_37.1), (4, .int s_37.2.1), (5, .int l5_37), (6, .int l6_37), (7, .int s_37.2.2)] []) ?_ FU (l3_37, l4_37, l7_37) (Ok.ofbnd h)
    intro B_37 hB_37 hE_37 s_37 h
    obtain ⟨l3_37, l4_37, l7_37⟩ := s_37
    have h : Ok (f12_visibleFrom_b37 l1 l2 μ l3_37 l4_37 l5_37 l6_37 l7_37) B_37 := h
    change J X K 8 False QQ 0 0 2055 (jw K σ μ o) 37 [(0, .ref (K.2.2 + 2017)), (3, .int l3_37), (4, .int l4_37), (5, .int l5_37), (6, .int l6_37), (7, .int l7_37)] []
    have hj_71 : (∀ (l3_71 : Int32) (l4_71 : Int32) (l7_71 : Int32), Ok (f12_visibleFrom_j71 l1 l2 μ l5_37 l6_37 l3_71 l4_71 l7_71) B_37 → J X K 8 False QQ 0 0 2055 (jw K σ μ o) 71 [(0, .ref (K.2.2 + 2017)), (3, .int l3_71), (4, .int l4_71), (5, .int l5_37), (6, .int l6_37), (7, .int l7_71)] []) := by
      intro l3_71 l4_71 l7_71 h
      unfold f12_visibleFrom_j71 at h
      refine J_iload (i := 7) (p := 5) C dX12_visibleFrom_71 rfl rfl ?_
      refine J_iload (i := 5) (p := 3) C dX12_visibleFrom_73 rfl rfl ?_
      refine J_iadd C dX12_visibleFrom_75 rfl ?_
      obtain ⟨x7_1, e_x7_1, h⟩ := Ok.nm h
      refine J_istoreE (i := 7) (lv' := [(7, .int x7_1), (0, .ref (K.2.2 + 2017)), (3, .int l3_71), (4, .int l4_71), (5, .int l5_37), (6, .int l6_37)]) C e_x7_1 dX12_visibleFrom_76 (Nat.le_of_ble_eq_true rfl) rfl rfl ?_
      refine J_goto (t := 37) C dX12_visibleFrom_78 (by decide) ?_
      refine J.sub [1, 2, 3, 4, 5, 0] rfl ?_
      exact hB_37 (l3_71, l4_71, x7_1) h.osome
    unfold f12_visibleFrom_b37 at h
    refine J_iload (i := 4) (p := 2) C dX12_visibleFrom_37 rfl rfl ?_
    refine J_if_le (t := 81) C dX12_visibleFrom_39 (by decide) rfl (fun c_1 => ?_) (fun c_1 => ?_)
    · have h := h.pos c_1
      have h := hE_37 l3_37 h.osome
      try dsimp only at h
      refine J.sub [1] rfl ?_
      exact hj_81 l3_37 h
    · have h := h.neg c_1
      refine J_iload (i := 7) (p := 5) C dX12_visibleFrom_42 rfl rfl ?_
      refine J_iconst (v := 0) C (by decide) dX12_visibleFrom_44 rfl ?_
      refine J_iload (i := 6) (p := 4) C dX12_visibleFrom_45 rfl rfl ?_
      refine J_iconst (v := 1) C (by decide) dX12_visibleFrom_47 rfl ?_
      refine J_isub C dX12_visibleFrom_48 rfl ?_
      refine J_cS (rest := []) (st9 := fun p_2 => [.int p_2]) C hR hX cs_RX12_134 (k12_in hl  (Ok.ofbnd h)) rfl rfl (Nat.le_of_ble_eq_true rfl) (Nat.le_of_ble_eq_true rfl) (Nat.le_of_ble_eq_true rfl) ⟨(Nat.le_of_ble_eq_true rfl), (Nat.le_of_ble_eq_true rfl)⟩ dX12_visibleFrom_49 rfl (fun E n9 w9 hx => JT_n hx) (fun _ => rfl) (fun p_2 h => ?_)
      have h : Ok _ _ := h
      change J X K 8 False QQ 0 0 2055 (jw K σ μ o) 52 [(0, .ref (K.2.2 + 2017)), (3, .int l3_37), (4, .int l4_37), (5, .int l5_37), (6, .int l6_37), (7, .int l7_37)] [.int p_2]
      refine J_if_eq (t := 81) C dX12_visibleFrom_52 (by decide) rfl (fun c_3 => ?_) (fun c_3 => ?_)
      · have h := h.pos c_3
        have h := hE_37 l3_37 h.osome
        try dsimp only at h
        refine J.sub [1] rfl ?_
        exact hj_81 l3_37 h
      · have h := h.neg c_3
        refine J_aload_n (i := 0) (p := 0) C dX12_visibleFrom_55 rfl rfl rfl ?_
        refine Jm_getS (o2 := 5) (r2 := 2022) C fp_RX12_23 rfl rfl rfl dX12_visibleFrom_56 rfl ?_
        refine J_iload (i := 7) (p := 5) C dX12_visibleFrom_59 rfl rfl ?_
        obtain ⟨g_4, h⟩ := Ok.ofgd h
        refine Jm_zald C rfl rfl g_4 dX12_visibleFrom_61 rfl ?_
        refine J_if_ne (t := 71) C dX12_visibleFrom_62 (by decide) rfl (fun c_5 => ?_) (fun c_5 => ?_)
        · have h := h.neg c_5
          exact hj_71 l3_37 l4_37 l7_37 h
        · have h := h.pos (Decidable.not_not.mp c_5)
          refine J_iload (i := 7) (p := 5) C dX12_visibleFrom_65 rfl rfl ?_
          obtain ⟨x3_2, e_x3_2, h⟩ := Ok.nm h
          refine J_istoreE_n (i := 3) (lv' := [(3, .int x3_2), (0, .ref (K.2.2 + 2017)), (4, .int l4_37), (5, .int l5_37), (6, .int l6_37), (7, .int l7_37)]) C e_x3_2 dX12_visibleFrom_67 rfl (Nat.le_of_ble_eq_true rfl) rfl rfl ?_
          obtain ⟨x4_3, e_x4_3, h⟩ := Ok.nm h
          refine J_iincE (i := 4) (p := 2) (lv' := [(4, .int x4_3), (3, .int x3_2), (0, .ref (K.2.2 + 2017)), (5, .int l5_37), (6, .int l6_37), (7, .int l7_37)]) C e_x4_3 dX12_visibleFrom_68 rfl (by decide) (Nat.le_of_ble_eq_true rfl) rfl rfl ?_
          refine J.sub [2, 1, 0, 3, 4, 5] rfl ?_
          exact hj_71 x3_2 x4_3 l7_37 h
  have hj_23 : (∀ (l3_23 : Int32) (l4_23 : Int32) (s0_23 : Int32), Ok (f12_visibleFrom_j23 l1 l2 μ l3_23 l4_23 s0_23) Qf → J X K 8 False QQ 0 0 2055 (jw K σ μ o) 23 [(0, .ref (K.2.2 + 2017)), (1, .int l1), (3, .int l3_23), (4, .int l4_23)] [.int s0_23]) := by
    intro l3_23 l4_23 s0_23 h
    unfold f12_visibleFrom_j23 at h
    obtain ⟨x5_4, e_x5_4, h⟩ := Ok.nm h
    refine J_istoreE (i := 5) (lv' := [(5, .int x5_4), (0, .ref (K.2.2 + 2017)), (1, .int l1), (3, .int l3_23), (4, .int l4_23)]) C e_x5_4 dX12_visibleFrom_23 (Nat.le_of_ble_eq_true rfl) rfl rfl ?_
    refine J_aload_n (i := 0) (p := 1) C dX12_visibleFrom_25 rfl rfl rfl ?_
    refine Jm_cV (rest := []) (st9 := fun p_6 => [.int p_6]) C hR hX cv_RX12_141 rfl (Nat.le_of_ble_eq_true rfl) (k12_lines hl  (Ok.ofbnd h)) rfl rfl (Nat.le_of_ble_eq_true rfl) (Nat.le_of_ble_eq_true rfl) (Nat.le_of_ble_eq_true rfl) ⟨(Nat.le_of_ble_eq_true rfl), (Nat.le_of_ble_eq_true rfl)⟩ dX12_visibleFrom_26 rfl (fun E n9 w9 hx => JT_n hx) (fun _ => rfl) (fun p_6 h => ?_)
    have h : Ok _ _ := h
    change J X K 8 False QQ 0 0 2055 (jw K σ μ o) 29 [(5, .int x5_4), (0, .ref (K.2.2 + 2017)), (1, .int l1), (3, .int l3_23), (4, .int l4_23)] [.int p_6]
    obtain ⟨x6_5, e_x6_5, h⟩ := Ok.nm h
    refine J_istoreE (i := 6) (lv' := [(6, .int x6_5), (5, .int x5_4), (0, .ref (K.2.2 + 2017)), (1, .int l1), (3, .int l3_23), (4, .int l4_23)]) C e_x6_5 dX12_visibleFrom_29 (Nat.le_of_ble_eq_true rfl) rfl rfl ?_
    refine J_iload_n (i := 1) (p := 3) C dX12_visibleFrom_31 rfl rfl rfl ?_
    refine J_iload (i := 5) (p := 1) C dX12_visibleFrom_32 rfl rfl ?_
    refine J_iadd C dX12_visibleFrom_34 rfl ?_
    obtain ⟨x7_6, e_x7_6, h⟩ := Ok.nm h
    refine J_istoreE (i := 7) (lv' := [(7, .int x7_6), (6, .int x6_5), (5, .int x5_4), (0, .ref (K.2.2 + 2017)), (1, .int l1), (3, .int l3_23), (4, .int l4_23)]) C e_x7_6 dX12_visibleFrom_35 (Nat.le_of_ble_eq_true rfl) rfl rfl ?_
    refine J.sub [3, 5, 6, 2, 1, 0] rfl ?_
    exact hj_37 l3_23 l4_23 x5_4 x6_5 x7_6 h
  have hj_12 : (∀ (l3_12 : Int32) (s0_12 : Int32), Ok (f12_visibleFrom_j12 l1 l2 μ l3_12 s0_12) Qf → J X K 8 False QQ 0 0 2055 (jw K σ μ o) 12 [(0, .ref (K.2.2 + 2017)), (1, .int l1), (2, .int l2), (3, .int l3_12)] [.int s0_12]) := by
    intro l3_12 s0_12 h
    unfold f12_visibleFrom_j12 at h
    obtain ⟨x4_7, e_x4_7, h⟩ := Ok.nm h
    refine J_istoreE (i := 4) (lv' := [(4, .int x4_7), (0, .ref (K.2.2 + 2017)), (1, .int l1), (2, .int l2), (3, .int l3_12)]) C e_x4_7 dX12_visibleFrom_12 (Nat.le_of_ble_eq_true rfl) rfl rfl ?_
    refine J_iload_n (i := 2) (p := 3) C dX12_visibleFrom_14 rfl rfl rfl ?_
    refine J_if_ge (t := 22) C dX12_visibleFrom_15 (by decide) rfl (fun c_7 => ?_) (fun c_7 => ?_)
    · have h := h.pos c_7
      refine J_iconst (v := 1) C (by decide) dX12_visibleFrom_22 rfl ?_
      refine J.sub [1, 2, 4, 0] rfl ?_
      exact hj_23 l3_12 x4_7 (1 : Int32) h
    · have h := h.neg c_7
      refine J_iconst (v := -1) C (by decide) dX12_visibleFrom_18 rfl ?_
      refine J_goto (t := 23) C dX12_visibleFrom_19 (by decide) ?_
      refine J.sub [1, 2, 4, 0] rfl ?_
      exact hj_23 l3_12 x4_7 (-1 : Int32) h
  unfold f12_visibleFrom at h
  refine J_iload_n (i := 1) (p := 1) C dX12_visibleFrom_0 rfl rfl rfl ?_
  obtain ⟨x3_8, e_x3_8, h⟩ := Ok.nm h
  refine J_istoreE_n (i := 3) (lv' := [(3, .int x3_8), (0, .ref (K.2.2 + 2017)), (1, .int l1), (2, .int l2)]) C e_x3_8 dX12_visibleFrom_1 rfl (Nat.le_of_ble_eq_true rfl) rfl rfl ?_
  refine J_iload_n (i := 2) (p := 3) C dX12_visibleFrom_2 rfl rfl rfl ?_
  refine J_if_ge (t := 11) C dX12_visibleFrom_3 (by decide) rfl (fun c_8 => ?_) (fun c_8 => ?_)
  · have h := h.pos c_8
    refine J_iload_n (i := 2) (p := 3) C dX12_visibleFrom_11 rfl rfl rfl ?_
    refine J.sub [1, 2, 3, 0] rfl ?_
    exact hj_12 x3_8 l2 h
  · have h := h.neg c_8
    refine J_iload_n (i := 2) (p := 3) C dX12_visibleFrom_6 rfl rfl rfl ?_
    refine J_ineg C dX12_visibleFrom_7 rfl ?_
    refine J_goto (t := 12) C dX12_visibleFrom_8 (by decide) ?_
    refine J.sub [1, 2, 3, 0] rfl ?_
    exact hj_12 x3_8 (-l2) h
def f12_wordFrom_j104 (l1 : Int32) (l2 : Int32) (μ : Sto) (l3_104 : Int32) : Option (Int32) :=
  some l3_104
def f12_wordFrom_b64 (l1 : Int32) (l2 : Int32) (μ : Sto) (l3_64 : Int32) (l4_64 : Int32) (l5_64 : Int32) : Option (Int32 ⊕ Int32) :=
  bnd (f12_in (l3_64 + l5_64) (0 : Int32) ((fI μ 2017 5) - (1 : Int32))) fun p_1 =>
  if p_1 = 0 then
    some (.inr l3_64)
  else
    gd (inb (l3_64 + l5_64) 3000) <|
    bnd (f12_isOfWord (aI μ 2018 (Int32.toNatClampNeg (l3_64 + l5_64)))) fun p_4 =>
    if p_4 = 0 then
      some (.inr l3_64)
    else
      stp (l3_64 + l4_64) fun x3_1 =>
      some (.inl x3_1)
def f12_wordFrom_j64 (l1 : Int32) (l2 : Int32) (μ : Sto) (l3_64 : Int32) (l4_64 : Int32) (l5_64 : Int32) : Option (Int32) :=
  bnd (loopF (fun s_64 => f12_wordFrom_b64 l1 l2 μ s_64 l4_64 l5_64) FU l3_64) fun r_64 =>
    f12_wordFrom_j104 l1 l2 μ r_64
def f12_wordFrom_b24 (l1 : Int32) (l2 : Int32) (μ : Sto) (l3_24 : Int32) (l4_24 : Int32) (l5_24 : Int32) : Option (Int32 ⊕ Int32) :=
  bnd (f12_in (l3_24 + l5_24) (0 : Int32) ((fI μ 2017 5) - (1 : Int32))) fun p_6 =>
  if p_6 = 0 then
    some (.inr l3_24)
  else
    gd (inb (l3_24 + l5_24) 3000) <|
    bnd (f12_isOfWord (aI μ 2018 (Int32.toNatClampNeg (l3_24 + l5_24)))) fun p_9 =>
    if p_9 = 0 then
      stp (l3_24 + l4_24) fun x3_2 =>
      some (.inl x3_2)
    else
      some (.inr l3_24)
def f12_wordFrom_j24 (l1 : Int32) (l2 : Int32) (μ : Sto) (l3_24 : Int32) (l4_24 : Int32) (l5_24 : Int32) : Option (Int32) :=
  bnd (loopF (fun s_24 => f12_wordFrom_b24 l1 l2 μ s_24 l4_24 l5_24) FU l3_24) fun r_24 =>
    f12_wordFrom_j64 l1 l2 μ r_24 l4_24 l5_24
def f12_wordFrom_j22 (l1 : Int32) (l2 : Int32) (μ : Sto) (l3_22 : Int32) (l4_22 : Int32) (s0_22 : Int32) : Option (Int32) :=
  stp s0_22 fun x5_3 =>
  f12_wordFrom_j24 l1 l2 μ l3_22 l4_22 x5_3
def f12_wordFrom_j11 (l1 : Int32) (l2 : Int32) (μ : Sto) (l3_11 : Int32) (s0_11 : Int32) : Option (Int32) :=
  stp s0_11 fun x4_4 =>
  if l2 = 0 then
    f12_wordFrom_j22 l1 l2 μ l3_11 x4_4 (-1 : Int32)
  else
    f12_wordFrom_j22 l1 l2 μ l3_11 x4_4 (0 : Int32)
def f12_wordFrom (μ : Sto) (l1 : Int32) (l2 : Int32) : Option (Int32) :=
  stp l1 fun x3_5 =>
  if l2 = 0 then
    f12_wordFrom_j11 l1 l2 μ x3_5 (-1 : Int32)
  else
    f12_wordFrom_j11 l1 l2 μ x3_5 (1 : Int32)
set_option maxHeartbeats 4000000 in
set_option maxRecDepth 100000 in
theorem k12_wordFrom {l : Launch} {K : JK} (hl : l.stackTraces = false) {σ μ : Sto} {o : Int64} {l1 : Int32} {l2 : Int32}  {Qf : Int32 → Prop} (h : Ok (f12_wordFrom μ l1 l2) Qf) : Con l K yX12_wordFrom (.code yX12_wordFrom cX12_wordFrom 6 (some .int) :: TB) 2 0 0 False [.ref (K.2.2 + 2017), .int l1, .int l2] 2055 (jw K σ μ o) (PR Qf (fun p => some (.int p)) (fun p => jw K σ μ o)) PN := by
  refine Con.enter (own := RX12) hl (by decide) rfl (Nat.le_of_ble_eq_true rfl) ?_
  intro X hX hR C hret hnt
  generalize hQQ : jQ X K 0 0 (PR Qf (fun p => some (.int p)) (fun p => jw K σ μ o)) PN False = QQ
  change J X K 6 False QQ 0 0 2055 (jw K σ μ o) 0 [(0, .ref (K.2.2 + 2017)), (1, .int l1), (2, .int l2)] []
  have hj_104 : (∀ (l3_104 : Int32), Ok (f12_wordFrom_j104 l1 l2 μ l3_104) Qf → J X K 6 False QQ 0 0 2055 (jw K σ μ o) 104 [(3, .int l3_104)] []) := by
    intro l3_104 h
    unfold f12_wordFrom_j104 at h
    refine J_iload_n (i := 3) (p := 0) C dX12_wordFrom_104 rfl rfl rfl ?_
    rw [← hQQ]
    exact J_iret C hret (Nat.le_of_ble_eq_true rfl) (Nat.le_of_ble_eq_true rfl) ⟨_, h.osome, rfl, rfl, rfl⟩ dX12_wordFrom_105
  have hj_64 : (∀ (l3_64 : Int32) (l4_64 : Int32) (l5_64 : Int32), Ok (f12_wordFrom_j64 l1 l2 μ l3_64 l4_64 l5_64) Qf → J X K 6 False QQ 0 0 2055 (jw K σ μ o) 64 [(0, .ref (K.2.2 + 2017)), (3, .int l3_64), (4, .int l4_64), (5, .int l5_64)] []) := by
    intro l3_64 l4_64 l5_64 h
    unfold f12_wordFrom_j64 at h
    refine loop_gen (S := Int32) (P := fun s_64 => J X K 6 False QQ 0 0 2055 (jw K σ μ o) 64 [(0, .ref (K.2.2 + 2017)), (3, .int s_64), (4, .int l4_64), (5, .int l5_64)] []) ?_ FU l3_64 (Ok.ofbnd h)
    intro B_64 hB_64 hE_64 s_64 h
    generalize s_64 = l3_64 at h ⊢
    have h : Ok (f12_wordFrom_b64 l1 l2 μ l3_64 l4_64 l5_64) B_64 := h
    change J X K 6 False QQ 0 0 2055 (jw K σ μ o) 64 [(0, .ref (K.2.2 + 2017)), (3, .int l3_64), (4, .int l4_64), (5, .int l5_64)] []
    unfold f12_wordFrom_b64 at h
    refine J_iload_n (i := 3) (p := 1) C dX12_wordFrom_64 rfl rfl rfl ?_
    refine J_iload (i := 5) (p := 3) C dX12_wordFrom_65 rfl rfl ?_
    refine J_iadd C dX12_wordFrom_67 rfl ?_
    refine J_iconst (v := 0) C (by decide) dX12_wordFrom_68 rfl ?_
    refine J_aload_n (i := 0) (p := 0) C dX12_wordFrom_69 rfl rfl rfl ?_
    refine Jm_getI C fp_RX12_138 rfl rfl dX12_wordFrom_70 rfl ?_
    refine J_iconst (v := 1) C (by decide) dX12_wordFrom_73 rfl ?_
    refine J_isub C dX12_wordFrom_74 rfl ?_
    refine J_cS (rest := []) (st9 := fun p_1 => [.int p_1]) C hR hX cs_RX12_134 (k12_in hl  (Ok.ofbnd h)) rfl rfl (Nat.le_of_ble_eq_true rfl) (Nat.le_of_ble_eq_true rfl) (Nat.le_of_ble_eq_true rfl) ⟨(Nat.le_of_ble_eq_true rfl), (Nat.le_of_ble_eq_true rfl)⟩ dX12_wordFrom_75 rfl (fun E n9 w9 hx => JT_n hx) (fun _ => rfl) (fun p_1 h => ?_)
    have h : Ok _ _ := h
    change J X K 6 False QQ 0 0 2055 (jw K σ μ o) 78 [(0, .ref (K.2.2 + 2017)), (3, .int l3_64), (4, .int l4_64), (5, .int l5_64)] [.int p_1]
    refine J_if_eq (t := 104) C dX12_wordFrom_78 (by decide) rfl (fun c_2 => ?_) (fun c_2 => ?_)
    · have h := h.pos c_2
      have h := hE_64 l3_64 h.osome
      try dsimp only at h
      refine J.sub [1] rfl ?_
      exact hj_104 l3_64 h
    · have h := h.neg c_2
      refine J_aload_n (i := 0) (p := 0) C dX12_wordFrom_81 rfl rfl rfl ?_
      refine Jm_getS (o2 := 1) (r2 := 2018) C fp_RX12_7 rfl rfl rfl dX12_wordFrom_82 rfl ?_
      refine J_iload_n (i := 3) (p := 1) C dX12_wordFrom_85 rfl rfl rfl ?_
      refine J_iload (i := 5) (p := 3) C dX12_wordFrom_86 rfl rfl ?_
      refine J_iadd C dX12_wordFrom_88 rfl ?_
      obtain ⟨g_3, h⟩ := Ok.ofgd h
      refine Jm_iald C rfl rfl g_3 dX12_wordFrom_89 rfl ?_
      refine J_cS (rest := []) (st9 := fun p_4 => [.int p_4]) C hR hX cs_RX12_285 (k12_isOfWord hl  (Ok.ofbnd h)) rfl rfl (Nat.le_of_ble_eq_true rfl) (Nat.le_of_ble_eq_true rfl) (Nat.le_of_ble_eq_true rfl) ⟨(Nat.le_of_ble_eq_true rfl), (Nat.le_of_ble_eq_true rfl)⟩ dX12_wordFrom_90 rfl (fun E n9 w9 hx => JT_n hx) (fun _ => rfl) (fun p_4 h => ?_)
      have h : Ok _ _ := h
      change J X K 6 False QQ 0 0 2055 (jw K σ μ o) 93 [(0, .ref (K.2.2 + 2017)), (3, .int l3_64), (4, .int l4_64), (5, .int l5_64)] [.int p_4]
      refine J_if_eq (t := 104) C dX12_wordFrom_93 (by decide) rfl (fun c_5 => ?_) (fun c_5 => ?_)
      · have h := h.pos c_5
        have h := hE_64 l3_64 h.osome
        try dsimp only at h
        refine J.sub [1] rfl ?_
        exact hj_104 l3_64 h
      · have h := h.neg c_5
        refine J_iload_n (i := 3) (p := 1) C dX12_wordFrom_96 rfl rfl rfl ?_
        refine J_iload (i := 4) (p := 2) C dX12_wordFrom_97 rfl rfl ?_
        refine J_iadd C dX12_wordFrom_99 rfl ?_
        obtain ⟨x3_1, e_x3_1, h⟩ := Ok.nm h
        refine J_istoreE_n (i := 3) (lv' := [(3, .int x3_1), (0, .ref (K.2.2 + 2017)), (4, .int l4_64), (5, .int l5_64)]) C e_x3_1 dX12_wordFrom_100 rfl (Nat.le_of_ble_eq_true rfl) rfl rfl ?_
        refine J_goto (t := 64) C dX12_wordFrom_101 (by decide) ?_
        refine J.sub [1, 0, 2, 3] rfl ?_
        exact hB_64 x3_1 h.osome
  have hj_24 : (∀ (l3_24 : Int32) (l4_24 : Int32) (l5_24 : Int32), Ok (f12_wordFrom_j24 l1 l2 μ l3_24 l4_24 l5_24) Qf → J X K 6 False QQ 0 0 2055 (jw K σ μ o) 24 [(0, .ref (K.2.2 + 2017)), (3, .int l3_24), (4, .int l4_24), (5, .int l5_24)] []) := by
    intro l3_24 l4_24 l5_24 h
    unfold f12_wordFrom_j24 at h
    refine loop_gen (S := Int32) (P := fun s_24 => J X K 6 False QQ 0 0 2055 (jw K σ μ o) 24 [(0, .ref (K.2.2 + 2017)), (3, .int s_24), (4, .int l4_24), (5, .int l5_24)] []) ?_ FU l3_24 (Ok.ofbnd h)
    intro B_24 hB_24 hE_24 s_24 h
    generalize s_24 = l3_24 at h ⊢
    have h : Ok (f12_wordFrom_b24 l1 l2 μ l3_24 l4_24 l5_24) B_24 := h
    change J X K 6 False QQ 0 0 2055 (jw K σ μ o) 24 [(0, .ref (K.2.2 + 2017)), (3, .int l3_24), (4, .int l4_24), (5, .int l5_24)] []
    unfold f12_wordFrom_b24 at h
    refine J_iload_n (i := 3) (p := 1) C dX12_wordFrom_24 rfl rfl rfl ?_
    refine J_iload (i := 5) (p := 3) C dX12_wordFrom_25 rfl rfl ?_
    refine J_iadd C dX12_wordFrom_27 rfl ?_
    refine J_iconst (v := 0) C (by decide) dX12_wordFrom_28 rfl ?_
    refine J_aload_n (i := 0) (p := 0) C dX12_wordFrom_29 rfl rfl rfl ?_
    refine Jm_getI C fp_RX12_138 rfl rfl dX12_wordFrom_30 rfl ?_
    refine J_iconst (v := 1) C (by decide) dX12_wordFrom_33 rfl ?_
    refine J_isub C dX12_wordFrom_34 rfl ?_
    refine J_cS (rest := []) (st9 := fun p_6 => [.int p_6]) C hR hX cs_RX12_134 (k12_in hl  (Ok.ofbnd h)) rfl rfl (Nat.le_of_ble_eq_true rfl) (Nat.le_of_ble_eq_true rfl) (Nat.le_of_ble_eq_true rfl) ⟨(Nat.le_of_ble_eq_true rfl), (Nat.le_of_ble_eq_true rfl)⟩ dX12_wordFrom_35 rfl (fun E n9 w9 hx => JT_n hx) (fun _ => rfl) (fun p_6 h => ?_)
    have h : Ok _ _ := h
    change J X K 6 False QQ 0 0 2055 (jw K σ μ o) 38 [(0, .ref (K.2.2 + 2017)), (3, .int l3_24), (4, .int l4_24), (5, .int l5_24)] [.int p_6]
    refine J_if_eq (t := 64) C dX12_wordFrom_38 (by decide) rfl (fun c_7 => ?_) (fun c_7 => ?_)
    · have h := h.pos c_7
      have h := hE_24 l3_24 h.osome
      try dsimp only at h
      exact hj_64 l3_24 l4_24 l5_24 h
    · have h := h.neg c_7
      refine J_aload_n (i := 0) (p := 0) C dX12_wordFrom_41 rfl rfl rfl ?_
      refine Jm_getS (o2 := 1) (r2 := 2018) C fp_RX12_7 rfl rfl rfl dX12_wordFrom_42 rfl ?_
      refine J_iload_n (i := 3) (p := 1) C dX12_wordFrom_45 rfl rfl rfl ?_
      refine J_iload (i := 5) (p := 3) C dX12_wordFrom_46 rfl rfl ?_
      refine J_iadd C dX12_wordFrom_48 rfl ?_
      obtain ⟨g_8, h⟩ := Ok.ofgd h
      refine Jm_iald C rfl rfl g_8 dX12_wordFrom_49 rfl ?_
      refine J_cS (rest := []) (st9 := fun p_9 => [.int p_9]) C hR hX cs_RX12_285 (k12_isOfWord hl  (Ok.ofbnd h)) rfl rfl (Nat.le_of_ble_eq_true rfl) (Nat.le_of_ble_eq_true rfl) (Nat.le_of_ble_eq_true rfl) ⟨(Nat.le_of_ble_eq_true rfl), (Nat.le_of_ble_eq_true rfl)⟩ dX12_wordFrom_50 rfl (fun E n9 w9 hx => JT_n hx) (fun _ => rfl) (fun p_9 h => ?_)
      have h : Ok _ _ := h
      change J X K 6 False QQ 0 0 2055 (jw K σ μ o) 53 [(0, .ref (K.2.2 + 2017)), (3, .int l3_24), (4, .int l4_24), (5, .int l5_24)] [.int p_9]
      refine J_if_ne (t := 64) C dX12_wordFrom_53 (by decide) rfl (fun c_10 => ?_) (fun c_10 => ?_)
      · have h := h.neg c_10
        have h := hE_24 l3_24 h.osome
        try dsimp only at h
        exact hj_64 l3_24 l4_24 l5_24 h
      · have h := h.pos (Decidable.not_not.mp c_10)
        refine J_iload_n (i := 3) (p := 1) C dX12_wordFrom_56 rfl rfl rfl ?_
        refine J_iload (i := 4) (p := 2) C dX12_wordFrom_57 rfl rfl ?_
        refine J_iadd C dX12_wordFrom_59 rfl ?_
        obtain ⟨x3_2, e_x3_2, h⟩ := Ok.nm h
        refine J_istoreE_n (i := 3) (lv' := [(3, .int x3_2), (0, .ref (K.2.2 + 2017)), (4, .int l4_24), (5, .int l5_24)]) C e_x3_2 dX12_wordFrom_60 rfl (Nat.le_of_ble_eq_true rfl) rfl rfl ?_
        refine J_goto (t := 24) C dX12_wordFrom_61 (by decide) ?_
        refine J.sub [1, 0, 2, 3] rfl ?_
        exact hB_24 x3_2 h.osome
  have hj_22 : (∀ (l3_22 : Int32) (l4_22 : Int32) (s0_22 : Int32), Ok (f12_wordFrom_j22 l1 l2 μ l3_22 l4_22 s0_22) Qf → J X K 6 False QQ 0 0 2055 (jw K σ μ o) 22 [(0, .ref (K.2.2 + 2017)), (3, .int l3_22), (4, .int l4_22)] [.int s0_22]) := by
    intro l3_22 l4_22 s0_22 h
    unfold f12_wordFrom_j22 at h
    obtain ⟨x5_3, e_x5_3, h⟩ := Ok.nm h
    refine J_istoreE (i := 5) (lv' := [(5, .int x5_3), (0, .ref (K.2.2 + 2017)), (3, .int l3_22), (4, .int l4_22)]) C e_x5_3 dX12_wordFrom_22 (Nat.le_of_ble_eq_true rfl) rfl rfl ?_
    refine J.sub [1, 2, 3, 0] rfl ?_
    exact hj_24 l3_22 l4_22 x5_3 h
  have hj_11 : (∀ (l3_11 : Int32) (s0_11 : Int32), Ok (f12_wordFrom_j11 l1 l2 μ l3_11 s0_11) Qf → J X K 6 False QQ 0 0 2055 (jw K σ μ o) 11 [(0, .ref (K.2.2 + 2017)), (2, .int l2), (3, .int l3_11)] [.int s0_11]) := by
    intro l3_11 s0_11 h
    unfold f12_wordFrom_j11 at h
    obtain ⟨x4_4, e_x4_4, h⟩ := Ok.nm h
    refine J_istoreE (i := 4) (lv' := [(4, .int x4_4), (0, .ref (K.2.2 + 2017)), (2, .int l2), (3, .int l3_11)]) C e_x4_4 dX12_wordFrom_11 (Nat.le_of_ble_eq_true rfl) rfl rfl ?_
    refine J_iload_n (i := 2) (p := 2) C dX12_wordFrom_13 rfl rfl rfl ?_
    refine J_if_eq (t := 21) C dX12_wordFrom_14 (by decide) rfl (fun c_11 => ?_) (fun c_11 => ?_)
    · have h := h.pos c_11
      refine J_iconst (v := -1) C (by decide) dX12_wordFrom_21 rfl ?_
      refine J.sub [1, 3, 0] rfl ?_
      exact hj_22 l3_11 x4_4 (-1 : Int32) h
    · have h := h.neg c_11
      refine J_iconst (v := 0) C (by decide) dX12_wordFrom_17 rfl ?_
      refine J_goto (t := 22) C dX12_wordFrom_18 (by decide) ?_
      refine J.sub [1, 3, 0] rfl ?_
      exact hj_22 l3_11 x4_4 (0 : Int32) h
  unfold f12_wordFrom at h
  refine J_iload_n (i := 1) (p := 1) C dX12_wordFrom_0 rfl rfl rfl ?_
  obtain ⟨x3_5, e_x3_5, h⟩ := Ok.nm h
  refine J_istoreE_n (i := 3) (lv' := [(3, .int x3_5), (0, .ref (K.2.2 + 2017)), (1, .int l1), (2, .int l2)]) C e_x3_5 dX12_wordFrom_1 rfl (Nat.le_of_ble_eq_true rfl) rfl rfl ?_
  refine J_iload_n (i := 2) (p := 3) C dX12_wordFrom_2 rfl rfl rfl ?_
  refine J_if_eq (t := 10) C dX12_wordFrom_3 (by decide) rfl (fun c_12 => ?_) (fun c_12 => ?_)
  · have h := h.pos c_12
    refine J_iconst (v := -1) C (by decide) dX12_wordFrom_10 rfl ?_
    refine J.sub [1, 3, 0] rfl ?_
    exact hj_11 x3_5 (-1 : Int32) h
  · have h := h.neg c_12
    refine J_iconst (v := 1) C (by decide) dX12_wordFrom_6 rfl ?_
    refine J_goto (t := 11) C dX12_wordFrom_7 (by decide) ?_
    refine J.sub [1, 3, 0] rfl ?_
    exact hj_11 x3_5 (1 : Int32) h
def f12_paragraphFrom_j137 (l1 : Int32) (l2 : Int32) (μ : Sto) (s0_137 : Int32) : Option (Int32) :=
  some s0_137
def f12_paragraphFrom_j112 (l1 : Int32) (l2 : Int32) (μ : Sto) (l3_112 : Int32) (l6_112 : Int32) (l7_112 : Int32) : Option ((Int32 × Int32 × Int32) ⊕ (Int32 ⊕ Int32)) :=
  stp l6_112 fun x5_1 =>
  stp (l7_112 + (1 : Int32)) fun x4_2 =>
  some (.inl (l3_112, x4_2, x5_1))
def f12_paragraphFrom_j111 (l1 : Int32) (l2 : Int32) (μ : Sto) (l6_111 : Int32) (l7_111 : Int32) (s0_111 : Int32) : Option ((Int32 × Int32 × Int32) ⊕ (Int32 ⊕ Int32)) :=
  stp s0_111 fun x3_3 =>
  f12_paragraphFrom_j112 l1 l2 μ x3_3 l6_111 l7_111
def f12_paragraphFrom_j99 (l1 : Int32) (l2 : Int32) (μ : Sto) (l3_99 : Int32) (l4_99 : Int32) (l6_99 : Int32) (l7_99 : Int32) : Option ((Int32 × Int32 × Int32) ⊕ (Int32 ⊕ Int32)) :=
  if l1 ≤ l4_99 then
    f12_paragraphFrom_j111 l1 l2 μ l6_99 l7_99 l3_99
  else
    f12_paragraphFrom_j111 l1 l2 μ l6_99 l7_99 l4_99
def f12_paragraphFrom_j76 (l1 : Int32) (l2 : Int32) (μ : Sto) (l3_76 : Int32) (l4_76 : Int32) (l5_76 : Int32) (l6_76 : Int32) (l7_76 : Int32) : Option ((Int32 × Int32 × Int32) ⊕ (Int32 ⊕ Int32)) :=
  if l6_76 = 0 then
    if l5_76 = 0 then
      f12_paragraphFrom_j112 l1 l2 μ l3_76 l6_76 l7_76
    else
      if l2 = 0 then
        f12_paragraphFrom_j99 l1 l2 μ l3_76 l4_76 l6_76 l7_76
      else
        if l4_76 ≤ l1 then
          f12_paragraphFrom_j99 l1 l2 μ l3_76 l4_76 l6_76 l7_76
        else
          some (.inr (Sum.inr l4_76))
  else
    f12_paragraphFrom_j112 l1 l2 μ l3_76 l6_76 l7_76
def f12_paragraphFrom_j68 (l1 : Int32) (l2 : Int32) (μ : Sto) (l3_24 : Int32) (l4_24 : Int32) (l5_24 : Int32) (l7_68 : Int32) (s0_68 : Int32) : Option ((Int32 × Int32) ⊕ (Int32 × Int32)) :=
  stp s0_68 fun x6_4 =>
  stp (l7_68 + (1 : Int32)) fun x7_5 =>
  some (.inl (x6_4, x7_5))
def f12_paragraphFrom_j67 (l1 : Int32) (l2 : Int32) (μ : Sto) (l3_24 : Int32) (l4_24 : Int32) (l5_24 : Int32) (l7_67 : Int32) : Option ((Int32 × Int32) ⊕ (Int32 × Int32)) :=
  f12_paragraphFrom_j68 l1 l2 μ l3_24 l4_24 l5_24 l7_67 (0 : Int32)
def f12_paragraphFrom_b24 (l1 : Int32) (l2 : Int32) (μ : Sto) (l3_24 : Int32) (l4_24 : Int32) (l5_24 : Int32) (l6_24 : Int32) (l7_24 : Int32) : Option ((Int32 × Int32) ⊕ (Int32 × Int32)) :=
  if (fI μ 2017 5) ≤ l7_24 then
    some (.inr (l6_24, l7_24))
  else
    gd (inb l7_24 3000) <|
    if (aI μ 2018 (Int32.toNatClampNeg l7_24)) = (10 : Int32) then
      some (.inr (l6_24, l7_24))
    else
      if l6_24 = 0 then
        f12_paragraphFrom_j67 l1 l2 μ l3_24 l4_24 l5_24 l7_24
      else
        gd (inb l7_24 3000) <|
        bnd (f12_isSpace (aI μ 2018 (Int32.toNatClampNeg l7_24))) fun p_11 =>
        if p_11 = 0 then
          f12_paragraphFrom_j67 l1 l2 μ l3_24 l4_24 l5_24 l7_24
        else
          f12_paragraphFrom_j68 l1 l2 μ l3_24 l4_24 l5_24 l7_24 (1 : Int32)
def f12_paragraphFrom_j24 (l1 : Int32) (l2 : Int32) (μ : Sto) (l3_24 : Int32) (l4_24 : Int32) (l5_24 : Int32) (l6_24 : Int32) (l7_24 : Int32) : Option ((Int32 × Int32 × Int32) ⊕ (Int32 ⊕ Int32)) :=
  bnd (loopF (fun s_24 => f12_paragraphFrom_b24 l1 l2 μ l3_24 l4_24 l5_24 s_24.1 s_24.2) FU (l6_24, l7_24)) fun r_24 =>
    f12_paragraphFrom_j76 l1 l2 μ l3_24 l4_24 l5_24 r_24.1 r_24.2
def f12_paragraphFrom_b8 (l1 : Int32) (l2 : Int32) (μ : Sto) (l3_8 : Int32) (l4_8 : Int32) (l5_8 : Int32) : Option ((Int32 × Int32 × Int32) ⊕ (Int32 ⊕ Int32)) :=
  if (fI μ 2017 5) < l4_8 then
    some (.inr (Sum.inl l3_8))
  else
    stp (1 : Int32) fun x6_6 =>
    stp l4_8 fun x7_7 =>
    f12_paragraphFrom_j24 l1 l2 μ l3_8 l4_8 l5_8 x6_6 x7_7
def f12_paragraphFrom_j8 (l1 : Int32) (l2 : Int32) (μ : Sto) (l3_8 : Int32) (l4_8 : Int32) (l5_8 : Int32) : Option (Int32) :=
  bnd (loopF (fun s_8 => f12_paragraphFrom_b8 l1 l2 μ s_8.1 s_8.2.1 s_8.2.2) FU (l3_8, l4_8, l5_8)) fun r_8 =>
    match r_8 with
    | .inl r_8x =>
      if l2 = 0 then
        f12_paragraphFrom_j137 l1 l2 μ r_8x
      else
        f12_paragraphFrom_j137 l1 l2 μ (fI μ 2017 5)
    | .inr r_8y =>
      some r_8y
def f12_paragraphFrom (μ : Sto) (l1 : Int32) (l2 : Int32) : Option (Int32) :=
  stp (0 : Int32) fun x3_8 =>
  stp (0 : Int32) fun x4_9 =>
  stp (1 : Int32) fun x5_10 =>
  f12_paragraphFrom_j8 l1 l2 μ x3_8 x4_9 x5_10
set_option maxHeartbeats 4000000 in
set_option maxRecDepth 100000 in
theorem k12_paragraphFrom {l : Launch} {K : JK} (hl : l.stackTraces = false) {σ μ : Sto} {o : Int64} {l1 : Int32} {l2 : Int32}  {Qf : Int32 → Prop} (h : Ok (f12_paragraphFrom μ l1 l2) Qf) : Con l K yX12_paragraphFrom (.code yX12_paragraphFrom cX12_paragraphFrom 8 (some .int) :: TB) 1 0 0 False [.ref (K.2.2 + 2017), .int l1, .int l2] 2055 (jw K σ μ o) (PR Qf (fun p => some (.int p)) (fun p => jw K σ μ o)) PN := by
  refine Con.enter (own := RX12) hl (by decide) rfl (Nat.le_of_ble_eq_true rfl) ?_
  intro X hX hR C hret hnt
  generalize hQQ : jQ X K 0 0 (PR Qf (fun p => some (.int p)) (fun p => jw K σ μ o)) PN False = QQ
  change J X K 8 False QQ 0 0 2055 (jw K σ μ o) 0 [(0, .ref (K.2.2 + 2017)), (1, .int l1), (2, .int l2)] []
  have hj_137 : (∀ (s0_137 : Int32), Ok (f12_paragraphFrom_j137 l1 l2 μ s0_137) Qf → J X K 8 False QQ 0 0 2055 (jw K σ μ o) 137 [] [.int s0_137]) := by
    intro s0_137 h
    unfold f12_paragraphFrom_j137 at h
    rw [← hQQ]
    exact J_iret C hret (Nat.le_of_ble_eq_true rfl) (Nat.le_of_ble_eq_true rfl) ⟨_, h.osome, rfl, rfl, rfl⟩ dX12_paragraphFrom_137
  have hj_8 : (∀ (l3_8 : Int32) (l4_8 : Int32) (l5_8 : Int32), Ok (f12_paragraphFrom_j8 l1 l2 μ l3_8 l4_8 l5_8) Qf → J X K 8 False QQ 0 0 2055 (jw K σ μ o) 8 [(0, .ref (K.2.2 + 2017)), (1, .int l1), (2, .int l2), (3, .int l3_8), (4, .int l4_8), (5, .int l5_8)] []) := by
    intro l3_8 l4_8 l5_8 h
    unfold f12_paragraphFrom_j8 at h
    refine loop_gen (S := Int32 × Int32 × Int32) (P := fun s_8 => J X K 8 False QQ 0 0 2055 (jw K σ μ o) 8 [(0, .ref (K.2.2 + 2017)), (1, .int l1), (2, .int l2), (3, .int s_8.1), (4, .int s_8.2.1), (5, .int s_8.2.2)] []) ?_ FU (l3_8, l4_8, l5_8) (Ok.ofbnd h)
    intro B_8 hB_8 hE_8 s_8 h
    obtain ⟨l3_8, l4_8, l5_8⟩ := s_8
    have h : Ok (f12_paragraphFrom_b8 l1 l2 μ l3_8 l4_8 l5_8) B_8 := h
    change J X K 8 False QQ 0 0 2055 (jw K σ μ o) 8 [(0, .ref (K.2.2 + 2017)), (1, .int l1), (2, .int l2), (3, .int l3_8), (4, .int l4_8), (5, .int l5_8)] []
    have hj_112 : (∀ (l3_112 : Int32) (l6_112 : Int32) (l7_112 : Int32), Ok (f12_paragraphFrom_j112 l1 l2 μ l3_112 l6_112 l7_112) B_8 → J X K 8 False QQ 0 0 2055 (jw K σ μ o) 112 [(0, .ref (K.2.2 + 2017)), (1, .int l1), (2, .int l2), (3, .int l3_112), (6, .int l6_112), (7, .int l7_112)] []) := by
      intro l3_112 l6_112 l7_112 h
      unfold f12_paragraphFrom_j112 at h
      refine J_iload (i := 6) (p := 4) C dX12_paragraphFrom_112 rfl rfl ?_
      obtain ⟨x5_1, e_x5_1, h⟩ := Ok.nm h
      refine J_istoreE (i := 5) (lv' := [(5, .int x5_1), (0, .ref (K.2.2 + 2017)), (1, .int l1), (2, .int l2), (3, .int l3_112), (6, .int l6_112), (7, .int l7_112)]) C e_x5_1 dX12_paragraphFrom_114 (Nat.le_of_ble_eq_true rfl) rfl rfl ?_
      refine J_iload (i := 7) (p := 6) C dX12_paragraphFrom_116 rfl rfl ?_
      refine J_iconst (v := 1) C (by decide) dX12_paragraphFrom_118 rfl ?_
      refine J_iadd C dX12_paragraphFrom_119 rfl ?_
      obtain ⟨x4_2, e_x4_2, h⟩ := Ok.nm h
      refine J_istoreE (i := 4) (lv' := [(4, .int x4_2), (5, .int x5_1), (0, .ref (K.2.2 + 2017)), (1, .int l1), (2, .int l2), (3, .int l3_112), (6, .int l6_112), (7, .int l7_112)]) C e_x4_2 dX12_paragraphFrom_120 (Nat.le_of_ble_eq_true rfl) rfl rfl ?_
      refine J_goto (t := 8) C dX12_paragraphFrom_122 (by decide) ?_
      refine J.sub [2, 3, 4, 5, 0, 1] rfl ?_
      exact hB_8 (l3_112, x4_2, x5_1) h.osome
    have hj_111 : (∀ (l6_111 : Int32) (l7_111 : Int32) (s0_111 : Int32), Ok (f12_paragraphFrom_j111 l1 l2 μ l6_111 l7_111 s0_111) B_8 → J X K 8 False QQ 0 0 2055 (jw K σ μ o) 111 [(0, .ref (K.2.2 + 2017)), (1, .int l1), (2, .int l2), (6, .int l6_111), (7, .int l7_111)] [.int s0_111]) := by
      intro l6_111 l7_111 s0_111 h
      unfold f12_paragraphFrom_j111 at h
      obtain ⟨x3_3, e_x3_3, h⟩ := Ok.nm h
      refine J_istoreE_n (i := 3) (lv' := [(3, .int x3_3), (0, .ref (K.2.2 + 2017)), (1, .int l1), (2, .int l2), (6, .int l6_111), (7, .int l7_111)]) C e_x3_3 dX12_paragraphFrom_111 rfl (Nat.le_of_ble_eq_true rfl) rfl rfl ?_
      refine J.sub [1, 2, 3, 0, 4, 5] rfl ?_
      exact hj_112 x3_3 l6_111 l7_111 h
    have hj_99 : (∀ (l3_99 : Int32) (l4_99 : Int32) (l6_99 : Int32) (l7_99 : Int32), Ok (f12_paragraphFrom_j99 l1 l2 μ l3_99 l4_99 l6_99 l7_99) B_8 → J X K 8 False QQ 0 0 2055 (jw K σ μ o) 99 [(0, .ref (K.2.2 + 2017)), (1, .int l1), (2, .int l2), (3, .int l3_99), (4, .int l4_99), (6, .int l6_99), (7, .int l7_99)] []) := by
      intro l3_99 l4_99 l6_99 l7_99 h
      unfold f12_paragraphFrom_j99 at h
      refine J_iload (i := 4) (p := 4) C dX12_paragraphFrom_99 rfl rfl ?_
      refine J_iload_n (i := 1) (p := 1) C dX12_paragraphFrom_101 rfl rfl rfl ?_
      refine J_icmp_ge (t := 110) C dX12_paragraphFrom_102 (by decide) rfl (fun c_1 => ?_) (fun c_1 => ?_)
      · have h := h.pos c_1
        refine J_iload_n (i := 3) (p := 3) C dX12_paragraphFrom_110 rfl rfl rfl ?_
        refine J.sub [0, 1, 2, 5, 6] rfl ?_
        exact hj_111 l6_99 l7_99 l3_99 h
      · have h := h.neg c_1
        refine J_iload (i := 4) (p := 4) C dX12_paragraphFrom_105 rfl rfl ?_
        refine J_goto (t := 111) C dX12_paragraphFrom_107 (by decide) ?_
        refine J.sub [0, 1, 2, 5, 6] rfl ?_
        exact hj_111 l6_99 l7_99 l4_99 h
    have hj_76 : (∀ (l3_76 : Int32) (l4_76 : Int32) (l5_76 : Int32) (l6_76 : Int32) (l7_76 : Int32), Ok (f12_paragraphFrom_j76 l1 l2 μ l3_76 l4_76 l5_76 l6_76 l7_76) B_8 → J X K 8 False QQ 0 0 2055 (jw K σ μ o) 76 [(0, .ref (K.2.2 + 2017)), (1, .int l1), (2, .int l2), (3, .int l3_76), (4, .int l4_76), (5, .int l5_76), (6, .int l6_76), (7, .int l7_76)] []) := by
      intro l3_76 l4_76 l5_76 l6_76 l7_76 h
      unfold f12_paragraphFrom_j76 at h
      refine J_iload (i := 6) (p := 6) C dX12_paragraphFrom_76 rfl rfl ?_
      refine J_if_ne (t := 112) C dX12_paragraphFrom_78 (by decide) rfl (fun c_2 => ?_) (fun c_2 => ?_)
      · have h := h.neg c_2
        refine J.sub [0, 1, 2, 3, 6, 7] rfl ?_
        exact hj_112 l3_76 l6_76 l7_76 h
      · have h := h.pos (Decidable.not_not.mp c_2)
        refine J_iload (i := 5) (p := 5) C dX12_paragraphFrom_81 rfl rfl ?_
        refine J_if_eq (t := 112) C dX12_paragraphFrom_83 (by decide) rfl (fun c_3 => ?_) (fun c_3 => ?_)
        · have h := h.pos c_3
          refine J.sub [0, 1, 2, 3, 6, 7] rfl ?_
          exact hj_112 l3_76 l6_76 l7_76 h
        · have h := h.neg c_3
          refine J_iload_n (i := 2) (p := 2) C dX12_paragraphFrom_86 rfl rfl rfl ?_
          refine J_if_eq (t := 99) C dX12_paragraphFrom_87 (by decide) rfl (fun c_4 => ?_) (fun c_4 => ?_)
          · have h := h.pos c_4
            refine J.sub [0, 1, 2, 3, 4, 6, 7] rfl ?_
            exact hj_99 l3_76 l4_76 l6_76 l7_76 h
          · have h := h.neg c_4
            refine J_iload (i := 4) (p := 4) C dX12_paragraphFrom_90 rfl rfl ?_
            refine J_iload_n (i := 1) (p := 1) C dX12_paragraphFrom_92 rfl rfl rfl ?_
            refine J_icmp_le (t := 99) C dX12_paragraphFrom_93 (by decide) rfl (fun c_5 => ?_) (fun c_5 => ?_)
            · have h := h.pos c_5
              refine J.sub [0, 1, 2, 3, 4, 6, 7] rfl ?_
              exact hj_99 l3_76 l4_76 l6_76 l7_76 h
            · have h := h.neg c_5
              have h := hE_8 (Sum.inr l4_76) h.osome
              try dsimp only at h
              refine J_iload (i := 4) (p := 4) C dX12_paragraphFrom_96 rfl rfl ?_
              rw [← hQQ]
              exact J_iret C hret (Nat.le_of_ble_eq_true rfl) (Nat.le_of_ble_eq_true rfl) ⟨_, h.osome, rfl, rfl, rfl⟩ dX12_paragraphFrom_98
    have hj_24 : (∀ (l3_24 : Int32) (l4_24 : Int32) (l5_24 : Int32) (l6_24 : Int32) (l7_24 : Int32), Ok (f12_paragraphFrom_j24 l1 l2 μ l3_24 l4_24 l5_24 l6_24 l7_24) B_8 → J X K 8 False QQ 0 0 2055 (jw K σ μ o) 24 [(0, .ref (K.2.2 + 2017)), (1, .int l1), (2, .int l2), (3, .int l3_24), (4, .int l4_24), (5, .int l5_24), (6, .int l6_24), (7, .int l7_24)] []) := by
      intro l3_24 l4_24 l5_24 l6_24 l7_24 h
      unfold f12_paragraphFrom_j24 at h
      refine loop_gen (S := Int32 × Int32) (P := fun s_24 => J X K 8 False QQ 0 0 2055 (jw K σ μ o) 24 [(0, .ref (K.2.2 + 2017)), (1, .int l1), (2, .int l2), (3, .int l3_24), (4, .int l4_24), (5, .int l5_24), (6, .int s_24.1), (7, .int s_24.2)] []) ?_ FU (l6_24, l7_24) (Ok.ofbnd h)
      intro B_24 hB_24 hE_24 s_24 h
      obtain ⟨l6_24, l7_24⟩ := s_24
      have h : Ok (f12_paragraphFrom_b24 l1 l2 μ l3_24 l4_24 l5_24 l6_24 l7_24) B_24 := h
      change J X K 8 False QQ 0 0 2055 (jw K σ μ o) 24 [(0, .ref (K.2.2 + 2017)), (1, .int l1), (2, .int l2), (3, .int l3_24), (4, .int l4_24), (5, .int l5_24), (6, .int l6_24), (7, .int l7_24)] []
      have hj_68 : (∀ (l7_68 : Int32) (s0_68 : Int32), Ok (f12_paragraphFrom_j68 l1 l2 μ l3_24 l4_24 l5_24 l7_68 s0_68) B_24 → J X K 8 False QQ 0 0 2055 (jw K σ μ o) 68 [(0, .ref (K.2.2 + 2017)), (1, .int l1), (2, .int l2), (3, .int l3_24), (4, .int l4_24), (5, .int l5_24), (7, .int l7_68)] [.int s0_68]) := by
        intro l7_68 s0_68 h
        unfold f12_paragraphFrom_j68 at h
        obtain ⟨x6_4, e_x6_4, h⟩ := Ok.nm h
        refine J_istoreE (i := 6) (lv' := [(6, .int x6_4), (0, .ref (K.2.2 + 2017)), (1, .int l1), (2, .int l2), (3, .int l3_24), (4, .int l4_24), (5, .int l5_24), (7, .int l7_68)]) C e_x6_4 dX12_paragraphFrom_68 (Nat.le_of_ble_eq_true rfl) rfl rfl ?_
        obtain ⟨x7_5, e_x7_5, h⟩ := Ok.nm h
        refine J_iincE (i := 7) (p := 7) (lv' := [(7, .int x7_5), (6, .int x6_4), (0, .ref (K.2.2 + 2017)), (1, .int l1), (2, .int l2), (3, .int l3_24), (4, .int l4_24), (5, .int l5_24)]) C e_x7_5 dX12_paragraphFrom_70 rfl (by decide) (Nat.le_of_ble_eq_true rfl) rfl rfl ?_
        refine J_goto (t := 24) C dX12_paragraphFrom_73 (by decide) ?_
        refine J.sub [2, 3, 4, 5, 6, 7, 1, 0] rfl ?_
        exact hB_24 (x6_4, x7_5) h.osome
      have hj_67 : (∀ (l7_67 : Int32), Ok (f12_paragraphFrom_j67 l1 l2 μ l3_24 l4_24 l5_24 l7_67) B_24 → J X K 8 False QQ 0 0 2055 (jw K σ μ o) 67 [(0, .ref (K.2.2 + 2017)), (1, .int l1), (2, .int l2), (3, .int l3_24), (4, .int l4_24), (5, .int l5_24), (7, .int l7_67)] []) := by
        intro l7_67 h
        unfold f12_paragraphFrom_j67 at h
        refine J_iconst (v := 0) C (by decide) dX12_paragraphFrom_67 rfl ?_
        exact hj_68 l7_67 (0 : Int32) h
      unfold f12_paragraphFrom_b24 at h
      refine J_iload (i := 7) (p := 7) C dX12_paragraphFrom_24 rfl rfl ?_
      refine J_aload_n (i := 0) (p := 0) C dX12_paragraphFrom_26 rfl rfl rfl ?_
      refine Jm_getI C fp_RX12_138 rfl rfl dX12_paragraphFrom_27 rfl ?_
      refine J_icmp_ge (t := 76) C dX12_paragraphFrom_30 (by decide) rfl (fun c_6 => ?_) (fun c_6 => ?_)
      · have h := h.pos c_6
        have h := hE_24 (l6_24, l7_24) h.osome
        try dsimp only at h
        exact hj_76 l3_24 l4_24 l5_24 l6_24 l7_24 h
      · have h := h.neg c_6
        refine J_aload_n (i := 0) (p := 0) C dX12_paragraphFrom_33 rfl rfl rfl ?_
        refine Jm_getS (o2 := 1) (r2 := 2018) C fp_RX12_7 rfl rfl rfl dX12_paragraphFrom_34 rfl ?_
        refine J_iload (i := 7) (p := 7) C dX12_paragraphFrom_37 rfl rfl ?_
        obtain ⟨g_7, h⟩ := Ok.ofgd h
        refine Jm_iald C rfl rfl g_7 dX12_paragraphFrom_39 rfl ?_
        refine J_bipush (v := 10) C (by decide) dX12_paragraphFrom_40 rfl ?_
        refine J_icmp_eq (t := 76) C dX12_paragraphFrom_42 (by decide) rfl (fun c_8 => ?_) (fun c_8 => ?_)
        · have h := h.pos c_8
          have h := hE_24 (l6_24, l7_24) h.osome
          try dsimp only at h
          exact hj_76 l3_24 l4_24 l5_24 l6_24 l7_24 h
        · have h := h.neg c_8
          refine J_iload (i := 6) (p := 6) C dX12_paragraphFrom_45 rfl rfl ?_
          refine J_if_eq (t := 67) C dX12_paragraphFrom_47 (by decide) rfl (fun c_9 => ?_) (fun c_9 => ?_)
          · have h := h.pos c_9
            refine J.sub [0, 1, 2, 3, 4, 5, 7] rfl ?_
            exact hj_67 l7_24 h
          · have h := h.neg c_9
            refine J_aload_n (i := 0) (p := 0) C dX12_paragraphFrom_50 rfl rfl rfl ?_
            refine Jm_getS (o2 := 1) (r2 := 2018) C fp_RX12_7 rfl rfl rfl dX12_paragraphFrom_51 rfl ?_
            refine J_iload (i := 7) (p := 7) C dX12_paragraphFrom_54 rfl rfl ?_
            obtain ⟨g_10, h⟩ := Ok.ofgd h
            refine Jm_iald C rfl rfl g_10 dX12_paragraphFrom_56 rfl ?_
            refine J_cS (rest := []) (st9 := fun p_11 => [.int p_11]) C hR hX cs_RX12_276 (k12_isSpace hl  (Ok.ofbnd h)) rfl rfl (Nat.le_of_ble_eq_true rfl) (Nat.le_of_ble_eq_true rfl) (Nat.le_of_ble_eq_true rfl) ⟨(Nat.le_of_ble_eq_true rfl), (Nat.le_of_ble_eq_true rfl)⟩ dX12_paragraphFrom_57 rfl (fun E n9 w9 hx => JT_n hx) (fun _ => rfl) (fun p_11 h => ?_)
            have h : Ok _ _ := h
            change J X K 8 False QQ 0 0 2055 (jw K σ μ o) 60 [(0, .ref (K.2.2 + 2017)), (1, .int l1), (2, .int l2), (3, .int l3_24), (4, .int l4_24), (5, .int l5_24), (6, .int l6_24), (7, .int l7_24)] [.int p_11]
            refine J_if_eq (t := 67) C dX12_paragraphFrom_60 (by decide) rfl (fun c_12 => ?_) (fun c_12 => ?_)
            · have h := h.pos c_12
              refine J.sub [0, 1, 2, 3, 4, 5, 7] rfl ?_
              exact hj_67 l7_24 h
            · have h := h.neg c_12
              refine J_iconst (v := 1) C (by decide) dX12_paragraphFrom_63 rfl ?_
              refine J_goto (t := 68) C dX12_paragraphFrom_64 (by decide) ?_
              refine J.sub [0, 1, 2, 3, 4, 5, 7] rfl ?_
              exact hj_68 l7_24 (1 : Int32) h
    unfold f12_paragraphFrom_b8 at h
    refine J_iload (i := 4) (p := 4) C dX12_paragraphFrom_8 rfl rfl ?_
    refine J_aload_n (i := 0) (p := 0) C dX12_paragraphFrom_10 rfl rfl rfl ?_
    refine Jm_getI C fp_RX12_138 rfl rfl dX12_paragraphFrom_11 rfl ?_
    refine J_icmp_gt (t := 125) C dX12_paragraphFrom_14 (by decide) rfl (fun c_13 => ?_) (fun c_13 => ?_)
    · have h := h.pos c_13
      have h := hE_8 (Sum.inl l3_8) h.osome
      try dsimp only at h
      refine J_iload_n (i := 2) (p := 2) C dX12_paragraphFrom_125 rfl rfl rfl ?_
      refine J_if_eq (t := 136) C dX12_paragraphFrom_126 (by decide) rfl (fun c_14 => ?_) (fun c_14 => ?_)
      · have h := h.pos c_14
        refine J_iload_n (i := 3) (p := 3) C dX12_paragraphFrom_136 rfl rfl rfl ?_
        refine J.sub [] rfl ?_
        exact hj_137 l3_8 h
      · have h := h.neg c_14
        refine J_aload_n (i := 0) (p := 0) C dX12_paragraphFrom_129 rfl rfl rfl ?_
        refine Jm_getI C fp_RX12_138 rfl rfl dX12_paragraphFrom_130 rfl ?_
        refine J_goto (t := 137) C dX12_paragraphFrom_133 (by decide) ?_
        refine J.sub [] rfl ?_
        exact hj_137 (fI μ 2017 5) h
    · have h := h.neg c_13
      refine J_iconst (v := 1) C (by decide) dX12_paragraphFrom_17 rfl ?_
      obtain ⟨x6_6, e_x6_6, h⟩ := Ok.nm h
      refine J_istoreE (i := 6) (lv' := [(6, .int x6_6), (0, .ref (K.2.2 + 2017)), (1, .int l1), (2, .int l2), (3, .int l3_8), (4, .int l4_8), (5, .int l5_8)]) C e_x6_6 dX12_paragraphFrom_18 (Nat.le_of_ble_eq_true rfl) rfl rfl ?_
      refine J_iload (i := 4) (p := 5) C dX12_paragraphFrom_20 rfl rfl ?_
      obtain ⟨x7_7, e_x7_7, h⟩ := Ok.nm h
      refine J_istoreE (i := 7) (lv' := [(7, .int x7_7), (6, .int x6_6), (0, .ref (K.2.2 + 2017)), (1, .int l1), (2, .int l2), (3, .int l3_8), (4, .int l4_8), (5, .int l5_8)]) C e_x7_7 dX12_paragraphFrom_22 (Nat.le_of_ble_eq_true rfl) rfl rfl ?_
      refine J.sub [2, 3, 4, 5, 6, 7, 1, 0] rfl ?_
      exact hj_24 l3_8 l4_8 l5_8 x6_6 x7_7 h
  unfold f12_paragraphFrom at h
  refine J_iconst (v := 0) C (by decide) dX12_paragraphFrom_0 rfl ?_
  obtain ⟨x3_8, e_x3_8, h⟩ := Ok.nm h
  refine J_istoreE_n (i := 3) (lv' := [(3, .int x3_8), (0, .ref (K.2.2 + 2017)), (1, .int l1), (2, .int l2)]) C e_x3_8 dX12_paragraphFrom_1 rfl (Nat.le_of_ble_eq_true rfl) rfl rfl ?_
  refine J_iconst (v := 0) C (by decide) dX12_paragraphFrom_2 rfl ?_
  obtain ⟨x4_9, e_x4_9, h⟩ := Ok.nm h
  refine J_istoreE (i := 4) (lv' := [(4, .int x4_9), (3, .int x3_8), (0, .ref (K.2.2 + 2017)), (1, .int l1), (2, .int l2)]) C e_x4_9 dX12_paragraphFrom_3 (Nat.le_of_ble_eq_true rfl) rfl rfl ?_
  refine J_iconst (v := 1) C (by decide) dX12_paragraphFrom_5 rfl ?_
  obtain ⟨x5_10, e_x5_10, h⟩ := Ok.nm h
  refine J_istoreE (i := 5) (lv' := [(5, .int x5_10), (4, .int x4_9), (3, .int x3_8), (0, .ref (K.2.2 + 2017)), (1, .int l1), (2, .int l2)]) C e_x5_10 dX12_paragraphFrom_6 (Nat.le_of_ble_eq_true rfl) rfl rfl ?_
  refine J.sub [3, 4, 5, 2, 1, 0] rfl ?_
  exact hj_8 x3_8 x4_9 x5_10 h
def f12_movedCursor_j165 (l1 : Int32) (l2 : Int32) (l3 : Int32) (μ : Sto) (l5_120 : Int32) (l6_165 : Int32) (s0_165 : Int32) : Option ((Int32 × Int32) ⊕ Int32) :=
  stp s0_165 fun x4_1 =>
  stp (l6_165 + (1 : Int32)) fun x6_2 =>
  some (.inl (x4_1, x6_2))
def f12_movedCursor_j162 (l1 : Int32) (l2 : Int32) (l3 : Int32) (μ : Sto) (l5_120 : Int32) (l6_162 : Int32) (s1_162 : Int32) (s2_162 : Int32) : Option ((Int32 × Int32) ⊕ Int32) :=
  bnd (f12_paragraphFrom μ s1_162 s2_162) fun p_1 =>
  f12_movedCursor_j165 l1 l2 l3 μ l5_120 l6_162 p_1
def f12_movedCursor_j144 (l1 : Int32) (l2 : Int32) (l3 : Int32) (μ : Sto) (l5_120 : Int32) (l6_144 : Int32) (s1_144 : Int32) (s2_144 : Int32) : Option ((Int32 × Int32) ⊕ Int32) :=
  bnd (f12_wordFrom μ s1_144 s2_144) fun p_2 =>
  f12_movedCursor_j165 l1 l2 l3 μ l5_120 l6_144 p_2
def f12_movedCursor_b120 (l1 : Int32) (l2 : Int32) (l3 : Int32) (μ : Sto) (l4_120 : Int32) (l5_120 : Int32) (l6_120 : Int32) : Option ((Int32 × Int32) ⊕ Int32) :=
  if l5_120 ≤ l6_120 then
    some (.inr l4_120)
  else
    if l2 = (2 : Int32) then
      if l3 ≤ 0 then
        f12_movedCursor_j144 l1 l2 l3 μ l5_120 l6_120 l4_120 (0 : Int32)
      else
        f12_movedCursor_j144 l1 l2 l3 μ l5_120 l6_120 l4_120 (1 : Int32)
    else
      if l3 ≤ 0 then
        f12_movedCursor_j162 l1 l2 l3 μ l5_120 l6_120 l4_120 (0 : Int32)
      else
        f12_movedCursor_j162 l1 l2 l3 μ l5_120 l6_120 l4_120 (1 : Int32)
def f12_movedCursor_j120 (l1 : Int32) (l2 : Int32) (l3 : Int32) (μ : Sto) (l4_120 : Int32) (l5_120 : Int32) (l6_120 : Int32) : Option (Int32) :=
  bnd (loopF (fun s_120 => f12_movedCursor_b120 l1 l2 l3 μ s_120.1 l5_120 s_120.2) FU (l4_120, l6_120)) fun r_120 =>
    some r_120
def f12_movedCursor_j115 (l1 : Int32) (l2 : Int32) (l3 : Int32) (μ : Sto) (l4_115 : Int32) (s0_115 : Int32) : Option (Int32) :=
  stp s0_115 fun x5_3 =>
  stp (0 : Int32) fun x6_4 =>
  f12_movedCursor_j120 l1 l2 l3 μ l4_115 x5_3 x6_4
def f12_movedCursor_j101 (l1 : Int32) (l2 : Int32) (l3 : Int32) (μ : Sto) (s0_101 : Int32) : Option (Int32) :=
  some s0_101
def f12_movedCursor_j62 (l1 : Int32) (l2 : Int32) (l3 : Int32) (μ : Sto) (s0_62 : Int32) : Option (Int32) :=
  some s0_62
def f12_movedCursor (μ : Sto) (l1 : Int32) (l2 : Int32) (l3 : Int32) : Option (Int32) :=
  if l2 = 0 then
    bnd (f12_less (fI μ 2017 5) (l1 + l3)) fun p_22 =>
    bnd (f12_more (0 : Int32) p_22) fun p_23 =>
    some p_23
  else
    if l2 = (1 : Int32) then
      bnd (f12_lineAt μ l1) fun p_17 =>
      stp p_17 fun x4_6 =>
      bnd (f12_visibleFrom μ x4_6 l3) fun p_18 =>
      stp p_18 fun x5_7 =>
      if x5_7 = x4_6 then
        f12_movedCursor_j62 l1 l2 l3 μ l1
      else
        bnd (f12_column μ l1) fun p_20 =>
        bnd (f12_placeIn μ x5_7 p_20) fun p_21 =>
        f12_movedCursor_j62 l1 l2 l3 μ p_21
    else
      if l2 = (3 : Int32) then
        if 0 ≤ l3 then
          if l3 ≤ 0 then
            f12_movedCursor_j101 l1 l2 l3 μ l1
          else
            bnd (f12_lineAt μ l1) fun p_13 =>
            bnd (f12_endOf μ p_13) fun p_14 =>
            f12_movedCursor_j101 l1 l2 l3 μ p_14
        else
          bnd (f12_lineAt μ l1) fun p_15 =>
          bnd (f12_beginOf μ p_15) fun p_16 =>
          f12_movedCursor_j101 l1 l2 l3 μ p_16
      else
        stp l1 fun x4_5 =>
        if 0 ≤ l3 then
          f12_movedCursor_j115 l1 l2 l3 μ x4_5 l3
        else
          f12_movedCursor_j115 l1 l2 l3 μ x4_5 (-l3)
set_option maxHeartbeats 4000000 in
set_option maxRecDepth 100000 in
theorem k12_movedCursor {l : Launch} {K : JK} (hl : l.stackTraces = false) {σ μ : Sto} {o : Int64} {l1 : Int32} {l2 : Int32} {l3 : Int32}  {Qf : Int32 → Prop} (h : Ok (f12_movedCursor μ l1 l2 l3) Qf) : Con l K yX12_movedCursor (.code yX12_movedCursor cX12_movedCursor 7 (some .int) :: TB) 3 0 0 False [.ref (K.2.2 + 2017), .int l1, .int l2, .int l3] 2055 (jw K σ μ o) (PR Qf (fun p => some (.int p)) (fun p => jw K σ μ o)) PN := by
  refine Con.enter (own := RX12) hl (by decide) rfl (Nat.le_of_ble_eq_true rfl) ?_
  intro X hX hR C hret hnt
  generalize hQQ : jQ X K 0 0 (PR Qf (fun p => some (.int p)) (fun p => jw K σ μ o)) PN False = QQ
  change J X K 7 False QQ 0 0 2055 (jw K σ μ o) 0 [(0, .ref (K.2.2 + 2017)), (1, .int l1), (2, .int l2), (3, .int l3)] []
  have hj_120 : (∀ (l4_120 : Int32) (l5_120 : Int32) (l6_120 : Int32), Ok (f12_movedCursor_j120 l1 l2 l3 μ l4_120 l5_120 l6_120) Qf → J X K 7 False QQ 0 0 2055 (jw K σ μ o) 120 [(0, .ref (K.2.2 + 2017)), (2, .int l2), (3, .int l3), (4, .int l4_120), (5, .int l5_120), (6, .int l6_120)] []) := by
    intro l4_120 l5_120 l6_120 h
    unfold f12_movedCursor_j120 at h
    refine loop_gen (S := Int32 × Int32) (P := fun s_120 => J X K 7 False QQ 0 0 2055 (jw K σ μ o) 120 [(0, .ref (K.2.2 + 2017)), (2, .int l2), (3, .int l3), (4, .int s_120.1), (5, .int l5_120), (6, .int s_120.2)] []) ?_ FU (l4_120, l6_120) (Ok.ofbnd h)
    intro B_120 hB_120 hE_120 s_120 h
    obtain ⟨l4_120, l6_120⟩ := s_120
    have h : Ok (f12_movedCursor_b120 l1 l2 l3 μ l4_120 l5_120 l6_120) B_120 := h
    change J X K 7 False QQ 0 0 2055 (jw K σ μ o) 120 [(0, .ref (K.2.2 + 2017)), (2, .int l2), (3, .int l3), (4, .int l4_120), (5, .int l5_120), (6, .int l6_120)] []
    have hj_165 : (∀ (l6_165 : Int32) (s0_165 : Int32), Ok (f12_movedCursor_j165 l1 l2 l3 μ l5_120 l6_165 s0_165) B_120 → J X K 7 False QQ 0 0 2055 (jw K σ μ o) 165 [(0, .ref (K.2.2 + 2017)), (2, .int l2), (3, .int l3), (5, .int l5_120), (6, .int l6_165)] [.int s0_165]) := by
      intro l6_165 s0_165 h
      unfold f12_movedCursor_j165 at h
      obtain ⟨x4_1, e_x4_1, h⟩ := Ok.nm h
      refine J_istoreE (i := 4) (lv' := [(4, .int x4_1), (0, .ref (K.2.2 + 2017)), (2, .int l2), (3, .int l3), (5, .int l5_120), (6, .int l6_165)]) C e_x4_1 dX12_movedCursor_165 (Nat.le_of_ble_eq_true rfl) rfl rfl ?_
      obtain ⟨x6_2, e_x6_2, h⟩ := Ok.nm h
      refine J_iincE (i := 6) (p := 5) (lv' := [(6, .int x6_2), (4, .int x4_1), (0, .ref (K.2.2 + 2017)), (2, .int l2), (3, .int l3), (5, .int l5_120)]) C e_x6_2 dX12_movedCursor_167 rfl (by decide) (Nat.le_of_ble_eq_true rfl) rfl rfl ?_
      refine J_goto (t := 120) C dX12_movedCursor_170 (by decide) ?_
      refine J.sub [2, 3, 4, 1, 5, 0] rfl ?_
      exact hB_120 (x4_1, x6_2) h.osome
    have hj_162 : (∀ (l6_162 : Int32) (s1_162 : Int32) (s2_162 : Int32), Ok (f12_movedCursor_j162 l1 l2 l3 μ l5_120 l6_162 s1_162 s2_162) B_120 → J X K 7 False QQ 0 0 2055 (jw K σ μ o) 162 [(0, .ref (K.2.2 + 2017)), (2, .int l2), (3, .int l3), (5, .int l5_120), (6, .int l6_162)] [.int s2_162, .int s1_162, .ref (K.2.2 + 2017)]) := by
      intro l6_162 s1_162 s2_162 h
      unfold f12_movedCursor_j162 at h
      refine Jm_cV (rest := []) (st9 := fun p_1 => [.int p_1]) C hR hX cv_RX12_332 rfl (Nat.le_of_ble_eq_true rfl) (k12_paragraphFrom hl  (Ok.ofbnd h)) rfl rfl (Nat.le_of_ble_eq_true rfl) (Nat.le_of_ble_eq_true rfl) (Nat.le_of_ble_eq_true rfl) ⟨(Nat.le_of_ble_eq_true rfl), (Nat.le_of_ble_eq_true rfl)⟩ dX12_movedCursor_162 rfl (fun E n9 w9 hx => JT_n hx) (fun _ => rfl) (fun p_1 h => ?_)
      have h : Ok _ _ := h
      change J X K 7 False QQ 0 0 2055 (jw K σ μ o) 165 [(0, .ref (K.2.2 + 2017)), (2, .int l2), (3, .int l3), (5, .int l5_120), (6, .int l6_162)] [.int p_1]
      exact hj_165 l6_162 p_1 h
    have hj_144 : (∀ (l6_144 : Int32) (s1_144 : Int32) (s2_144 : Int32), Ok (f12_movedCursor_j144 l1 l2 l3 μ l5_120 l6_144 s1_144 s2_144) B_120 → J X K 7 False QQ 0 0 2055 (jw K σ μ o) 144 [(0, .ref (K.2.2 + 2017)), (2, .int l2), (3, .int l3), (5, .int l5_120), (6, .int l6_144)] [.int s2_144, .int s1_144, .ref (K.2.2 + 2017)]) := by
      intro l6_144 s1_144 s2_144 h
      unfold f12_movedCursor_j144 at h
      refine Jm_cV (rest := []) (st9 := fun p_2 => [.int p_2]) C hR hX cv_RX12_328 rfl (Nat.le_of_ble_eq_true rfl) (k12_wordFrom hl  (Ok.ofbnd h)) rfl rfl (Nat.le_of_ble_eq_true rfl) (Nat.le_of_ble_eq_true rfl) (Nat.le_of_ble_eq_true rfl) ⟨(Nat.le_of_ble_eq_true rfl), (Nat.le_of_ble_eq_true rfl)⟩ dX12_movedCursor_144 rfl (fun E n9 w9 hx => JT_n hx) (fun _ => rfl) (fun p_2 h => ?_)
      have h : Ok _ _ := h
      change J X K 7 False QQ 0 0 2055 (jw K σ μ o) 147 [(0, .ref (K.2.2 + 2017)), (2, .int l2), (3, .int l3), (5, .int l5_120), (6, .int l6_144)] [.int p_2]
      refine J_goto (t := 165) C dX12_movedCursor_147 (by decide) ?_
      exact hj_165 l6_144 p_2 h
    unfold f12_movedCursor_b120 at h
    refine J_iload (i := 6) (p := 5) C dX12_movedCursor_120 rfl rfl ?_
    refine J_iload (i := 5) (p := 4) C dX12_movedCursor_122 rfl rfl ?_
    refine J_icmp_ge (t := 173) C dX12_movedCursor_124 (by decide) rfl (fun c_3 => ?_) (fun c_3 => ?_)
    · have h := h.pos c_3
      have h := hE_120 l4_120 h.osome
      try dsimp only at h
      refine J_iload (i := 4) (p := 3) C dX12_movedCursor_173 rfl rfl ?_
      rw [← hQQ]
      exact J_iret C hret (Nat.le_of_ble_eq_true rfl) (Nat.le_of_ble_eq_true rfl) ⟨_, h.osome, rfl, rfl, rfl⟩ dX12_movedCursor_175
    · have h := h.neg c_3
      refine J_iload_n (i := 2) (p := 1) C dX12_movedCursor_127 rfl rfl rfl ?_
      refine J_iconst (v := 2) C (by decide) dX12_movedCursor_128 rfl ?_
      refine J_icmp_ne (t := 150) C dX12_movedCursor_129 (by decide) rfl (fun c_4 => ?_) (fun c_4 => ?_)
      · have h := h.neg c_4
        refine J_aload_n (i := 0) (p := 0) C dX12_movedCursor_150 rfl rfl rfl ?_
        refine J_iload (i := 4) (p := 3) C dX12_movedCursor_151 rfl rfl ?_
        refine J_iload_n (i := 3) (p := 2) C dX12_movedCursor_153 rfl rfl rfl ?_
        refine J_if_le (t := 161) C dX12_movedCursor_154 (by decide) rfl (fun c_5 => ?_) (fun c_5 => ?_)
        · have h := h.pos c_5
          refine J_iconst (v := 0) C (by decide) dX12_movedCursor_161 rfl ?_
          refine J.sub [0, 1, 2, 4, 5] rfl ?_
          exact hj_162 l6_120 l4_120 (0 : Int32) h
        · have h := h.neg c_5
          refine J_iconst (v := 1) C (by decide) dX12_movedCursor_157 rfl ?_
          refine J_goto (t := 162) C dX12_movedCursor_158 (by decide) ?_
          refine J.sub [0, 1, 2, 4, 5] rfl ?_
          exact hj_162 l6_120 l4_120 (1 : Int32) h
      · have h := h.pos (Decidable.not_not.mp c_4)
        refine J_aload_n (i := 0) (p := 0) C dX12_movedCursor_132 rfl rfl rfl ?_
        refine J_iload (i := 4) (p := 3) C dX12_movedCursor_133 rfl rfl ?_
        refine J_iload_n (i := 3) (p := 2) C dX12_movedCursor_135 rfl rfl rfl ?_
        refine J_if_le (t := 143) C dX12_movedCursor_136 (by decide) rfl (fun c_6 => ?_) (fun c_6 => ?_)
        · have h := h.pos c_6
          refine J_iconst (v := 0) C (by decide) dX12_movedCursor_143 rfl ?_
          refine J.sub [0, 1, 2, 4, 5] rfl ?_
          exact hj_144 l6_120 l4_120 (0 : Int32) h
        · have h := h.neg c_6
          refine J_iconst (v := 1) C (by decide) dX12_movedCursor_139 rfl ?_
          refine J_goto (t := 144) C dX12_movedCursor_140 (by decide) ?_
          refine J.sub [0, 1, 2, 4, 5] rfl ?_
          exact hj_144 l6_120 l4_120 (1 : Int32) h
  have hj_115 : (∀ (l4_115 : Int32) (s0_115 : Int32), Ok (f12_movedCursor_j115 l1 l2 l3 μ l4_115 s0_115) Qf → J X K 7 False QQ 0 0 2055 (jw K σ μ o) 115 [(0, .ref (K.2.2 + 2017)), (2, .int l2), (3, .int l3), (4, .int l4_115)] [.int s0_115]) := by
    intro l4_115 s0_115 h
    unfold f12_movedCursor_j115 at h
    obtain ⟨x5_3, e_x5_3, h⟩ := Ok.nm h
    refine J_istoreE (i := 5) (lv' := [(5, .int x5_3), (0, .ref (K.2.2 + 2017)), (2, .int l2), (3, .int l3), (4, .int l4_115)]) C e_x5_3 dX12_movedCursor_115 (Nat.le_of_ble_eq_true rfl) rfl rfl ?_
    refine J_iconst (v := 0) C (by decide) dX12_movedCursor_117 rfl ?_
    obtain ⟨x6_4, e_x6_4, h⟩ := Ok.nm h
    refine J_istoreE (i := 6) (lv' := [(6, .int x6_4), (5, .int x5_3), (0, .ref (K.2.2 + 2017)), (2, .int l2), (3, .int l3), (4, .int l4_115)]) C e_x6_4 dX12_movedCursor_118 (Nat.le_of_ble_eq_true rfl) rfl rfl ?_
    refine J.sub [2, 3, 4, 5, 1, 0] rfl ?_
    exact hj_120 l4_115 x5_3 x6_4 h
  have hj_101 : (∀ (s0_101 : Int32), Ok (f12_movedCursor_j101 l1 l2 l3 μ s0_101) Qf → J X K 7 False QQ 0 0 2055 (jw K σ μ o) 101 [] [.int s0_101]) := by
    intro s0_101 h
    unfold f12_movedCursor_j101 at h
    rw [← hQQ]
    exact J_iret C hret (Nat.le_of_ble_eq_true rfl) (Nat.le_of_ble_eq_true rfl) ⟨_, h.osome, rfl, rfl, rfl⟩ dX12_movedCursor_101
  have hj_62 : (∀ (s0_62 : Int32), Ok (f12_movedCursor_j62 l1 l2 l3 μ s0_62) Qf → J X K 7 False QQ 0 0 2055 (jw K σ μ o) 62 [] [.int s0_62]) := by
    intro s0_62 h
    unfold f12_movedCursor_j62 at h
    rw [← hQQ]
    exact J_iret C hret (Nat.le_of_ble_eq_true rfl) (Nat.le_of_ble_eq_true rfl) ⟨_, h.osome, rfl, rfl, rfl⟩ dX12_movedCursor_62
  unfold f12_movedCursor at h
  refine J_iload_n (i := 2) (p := 2) C dX12_movedCursor_0 rfl rfl rfl ?_
  refine J_if_ne (t := 19) C dX12_movedCursor_1 (by decide) rfl (fun c_7 => ?_) (fun c_7 => ?_)
  · have h := h.neg c_7
    refine J_iload_n (i := 2) (p := 2) C dX12_movedCursor_19 rfl rfl rfl ?_
    refine J_iconst (v := 1) C (by decide) dX12_movedCursor_20 rfl ?_
    refine J_icmp_ne (t := 63) C dX12_movedCursor_21 (by decide) rfl (fun c_8 => ?_) (fun c_8 => ?_)
    · have h := h.neg c_8
      refine J_iload_n (i := 2) (p := 2) C dX12_movedCursor_63 rfl rfl rfl ?_
      refine J_iconst (v := 3) C (by decide) dX12_movedCursor_64 rfl ?_
      refine J_icmp_ne (t := 102) C dX12_movedCursor_65 (by decide) rfl (fun c_9 => ?_) (fun c_9 => ?_)
      · have h := h.neg c_9
        refine J_iload_n (i := 1) (p := 1) C dX12_movedCursor_102 rfl rfl rfl ?_
        obtain ⟨x4_5, e_x4_5, h⟩ := Ok.nm h
        refine J_istoreE (i := 4) (lv' := [(4, .int x4_5), (0, .ref (K.2.2 + 2017)), (1, .int l1), (2, .int l2), (3, .int l3)]) C e_x4_5 dX12_movedCursor_103 (Nat.le_of_ble_eq_true rfl) rfl rfl ?_
        refine J_iload_n (i := 3) (p := 4) C dX12_movedCursor_105 rfl rfl rfl ?_
        refine J_if_ge (t := 114) C dX12_movedCursor_106 (by decide) rfl (fun c_10 => ?_) (fun c_10 => ?_)
        · have h := h.pos c_10
          refine J_iload_n (i := 3) (p := 4) C dX12_movedCursor_114 rfl rfl rfl ?_
          refine J.sub [1, 3, 4, 0] rfl ?_
          exact hj_115 x4_5 l3 h
        · have h := h.neg c_10
          refine J_iload_n (i := 3) (p := 4) C dX12_movedCursor_109 rfl rfl rfl ?_
          refine J_ineg C dX12_movedCursor_110 rfl ?_
          refine J_goto (t := 115) C dX12_movedCursor_111 (by decide) ?_
          refine J.sub [1, 3, 4, 0] rfl ?_
          exact hj_115 x4_5 (-l3) h
      · have h := h.pos (Decidable.not_not.mp c_9)
        refine J_iload_n (i := 3) (p := 3) C dX12_movedCursor_68 rfl rfl rfl ?_
        refine J_if_ge (t := 84) C dX12_movedCursor_69 (by decide) rfl (fun c_11 => ?_) (fun c_11 => ?_)
        · have h := h.pos c_11
          refine J_iload_n (i := 3) (p := 3) C dX12_movedCursor_84 rfl rfl rfl ?_
          refine J_if_le (t := 100) C dX12_movedCursor_85 (by decide) rfl (fun c_12 => ?_) (fun c_12 => ?_)
          · have h := h.pos c_12
            refine J_iload_n (i := 1) (p := 1) C dX12_movedCursor_100 rfl rfl rfl ?_
            refine J.sub [] rfl ?_
            exact hj_101 l1 h
          · have h := h.neg c_12
            refine J_aload_n (i := 0) (p := 0) C dX12_movedCursor_88 rfl rfl rfl ?_
            refine J_aload_n (i := 0) (p := 0) C dX12_movedCursor_89 rfl rfl rfl ?_
            refine J_iload_n (i := 1) (p := 1) C dX12_movedCursor_90 rfl rfl rfl ?_
            refine Jm_cV (rest := [.ref (K.2.2 + 2017)]) (st9 := fun p_13 => [.int p_13, .ref (K.2.2 + 2017)]) C hR hX cv_RX12_149 rfl (Nat.le_of_ble_eq_true rfl) (k12_lineAt hl  (Ok.ofbnd h)) rfl rfl (Nat.le_of_ble_eq_true rfl) (Nat.le_of_ble_eq_true rfl) (Nat.le_of_ble_eq_true rfl) ⟨(Nat.le_of_ble_eq_true rfl), (Nat.le_of_ble_eq_true rfl)⟩ dX12_movedCursor_91 rfl (fun E n9 w9 hx => JT_n hx) (fun _ => rfl) (fun p_13 h => ?_)
            have h : Ok _ _ := h
            change J X K 7 False QQ 0 0 2055 (jw K σ μ o) 94 [(0, .ref (K.2.2 + 2017)), (1, .int l1), (2, .int l2), (3, .int l3)] [.int p_13, .ref (K.2.2 + 2017)]
            refine Jm_cV (rest := []) (st9 := fun p_14 => [.int p_14]) C hR hX cv_RX12_228 rfl (Nat.le_of_ble_eq_true rfl) (k12_endOf hl  (Ok.ofbnd h)) rfl rfl (Nat.le_of_ble_eq_true rfl) (Nat.le_of_ble_eq_true rfl) (Nat.le_of_ble_eq_true rfl) ⟨(Nat.le_of_ble_eq_true rfl), (Nat.le_of_ble_eq_true rfl)⟩ dX12_movedCursor_94 rfl (fun E n9 w9 hx => JT_n hx) (fun _ => rfl) (fun p_14 h => ?_)
            have h : Ok _ _ := h
            change J X K 7 False QQ 0 0 2055 (jw K σ μ o) 97 [(0, .ref (K.2.2 + 2017)), (1, .int l1), (2, .int l2), (3, .int l3)] [.int p_14]
            refine J_goto (t := 101) C dX12_movedCursor_97 (by decide) ?_
            refine J.sub [] rfl ?_
            exact hj_101 p_14 h
        · have h := h.neg c_11
          refine J_aload_n (i := 0) (p := 0) C dX12_movedCursor_72 rfl rfl rfl ?_
          refine J_aload_n (i := 0) (p := 0) C dX12_movedCursor_73 rfl rfl rfl ?_
          refine J_iload_n (i := 1) (p := 1) C dX12_movedCursor_74 rfl rfl rfl ?_
          refine Jm_cV (rest := [.ref (K.2.2 + 2017)]) (st9 := fun p_15 => [.int p_15, .ref (K.2.2 + 2017)]) C hR hX cv_RX12_149 rfl (Nat.le_of_ble_eq_true rfl) (k12_lineAt hl  (Ok.ofbnd h)) rfl rfl (Nat.le_of_ble_eq_true rfl) (Nat.le_of_ble_eq_true rfl) (Nat.le_of_ble_eq_true rfl) ⟨(Nat.le_of_ble_eq_true rfl), (Nat.le_of_ble_eq_true rfl)⟩ dX12_movedCursor_75 rfl (fun E n9 w9 hx => JT_n hx) (fun _ => rfl) (fun p_15 h => ?_)
          have h : Ok _ _ := h
          change J X K 7 False QQ 0 0 2055 (jw K σ μ o) 78 [(0, .ref (K.2.2 + 2017)), (1, .int l1), (2, .int l2), (3, .int l3)] [.int p_15, .ref (K.2.2 + 2017)]
          refine Jm_cV (rest := []) (st9 := fun p_16 => [.int p_16]) C hR hX cv_RX12_145 rfl (Nat.le_of_ble_eq_true rfl) (k12_beginOf hl  (Ok.ofbnd h)) rfl rfl (Nat.le_of_ble_eq_true rfl) (Nat.le_of_ble_eq_true rfl) (Nat.le_of_ble_eq_true rfl) ⟨(Nat.le_of_ble_eq_true rfl), (Nat.le_of_ble_eq_true rfl)⟩ dX12_movedCursor_78 rfl (fun E n9 w9 hx => JT_n hx) (fun _ => rfl) (fun p_16 h => ?_)
          have h : Ok _ _ := h
          change J X K 7 False QQ 0 0 2055 (jw K σ μ o) 81 [(0, .ref (K.2.2 + 2017)), (1, .int l1), (2, .int l2), (3, .int l3)] [.int p_16]
          refine J_goto (t := 101) C dX12_movedCursor_81 (by decide) ?_
          refine J.sub [] rfl ?_
          exact hj_101 p_16 h
    · have h := h.pos (Decidable.not_not.mp c_8)
      refine J_aload_n (i := 0) (p := 0) C dX12_movedCursor_24 rfl rfl rfl ?_
      refine J_iload_n (i := 1) (p := 1) C dX12_movedCursor_25 rfl rfl rfl ?_
      refine Jm_cV (rest := []) (st9 := fun p_17 => [.int p_17]) C hR hX cv_RX12_149 rfl (Nat.le_of_ble_eq_true rfl) (k12_lineAt hl  (Ok.ofbnd h)) rfl rfl (Nat.le_of_ble_eq_true rfl) (Nat.le_of_ble_eq_true rfl) (Nat.le_of_ble_eq_true rfl) ⟨(Nat.le_of_ble_eq_true rfl), (Nat.le_of_ble_eq_true rfl)⟩ dX12_movedCursor_26 rfl (fun E n9 w9 hx => JT_n hx) (fun _ => rfl) (fun p_17 h => ?_)
      have h : Ok _ _ := h
      change J X K 7 False QQ 0 0 2055 (jw K σ μ o) 29 [(0, .ref (K.2.2 + 2017)), (1, .int l1), (2, .int l2), (3, .int l3)] [.int p_17]
      obtain ⟨x4_6, e_x4_6, h⟩ := Ok.nm h
      refine J_istoreE (i := 4) (lv' := [(4, .int x4_6), (0, .ref (K.2.2 + 2017)), (1, .int l1), (2, .int l2), (3, .int l3)]) C e_x4_6 dX12_movedCursor_29 (Nat.le_of_ble_eq_true rfl) rfl rfl ?_
      refine J_aload_n (i := 0) (p := 1) C dX12_movedCursor_31 rfl rfl rfl ?_
      refine J_iload (i := 4) (p := 0) C dX12_movedCursor_32 rfl rfl ?_
      refine J_iload_n (i := 3) (p := 4) C dX12_movedCursor_34 rfl rfl rfl ?_
      refine Jm_cV (rest := []) (st9 := fun p_18 => [.int p_18]) C hR hX cv_RX12_319 rfl (Nat.le_of_ble_eq_true rfl) (k12_visibleFrom hl  (Ok.ofbnd h)) rfl rfl (Nat.le_of_ble_eq_true rfl) (Nat.le_of_ble_eq_true rfl) (Nat.le_of_ble_eq_true rfl) ⟨(Nat.le_of_ble_eq_true rfl), (Nat.le_of_ble_eq_true rfl)⟩ dX12_movedCursor_35 rfl (fun E n9 w9 hx => JT_n hx) (fun _ => rfl) (fun p_18 h => ?_)
      have h : Ok _ _ := h
      change J X K 7 False QQ 0 0 2055 (jw K σ μ o) 38 [(4, .int x4_6), (0, .ref (K.2.2 + 2017)), (1, .int l1), (2, .int l2), (3, .int l3)] [.int p_18]
      obtain ⟨x5_7, e_x5_7, h⟩ := Ok.nm h
      refine J_istoreE (i := 5) (lv' := [(5, .int x5_7), (4, .int x4_6), (0, .ref (K.2.2 + 2017)), (1, .int l1), (2, .int l2), (3, .int l3)]) C e_x5_7 dX12_movedCursor_38 (Nat.le_of_ble_eq_true rfl) rfl rfl ?_
      refine J_iload (i := 5) (p := 0) C dX12_movedCursor_40 rfl rfl ?_
      refine J_iload (i := 4) (p := 1) C dX12_movedCursor_42 rfl rfl ?_
      refine J_icmp_ne (t := 51) C dX12_movedCursor_44 (by decide) rfl (fun c_19 => ?_) (fun c_19 => ?_)
      · have h := h.neg c_19
        refine J_aload_n (i := 0) (p := 2) C dX12_movedCursor_51 rfl rfl rfl ?_
        refine J_iload (i := 5) (p := 0) C dX12_movedCursor_52 rfl rfl ?_
        refine J_aload_n (i := 0) (p := 2) C dX12_movedCursor_54 rfl rfl rfl ?_
        refine J_iload_n (i := 1) (p := 3) C dX12_movedCursor_55 rfl rfl rfl ?_
        refine Jm_cV (rest := [.int x5_7, .ref (K.2.2 + 2017)]) (st9 := fun p_20 => [.int p_20, .int x5_7, .ref (K.2.2 + 2017)]) C hR hX cv_RX12_322 rfl (Nat.le_of_ble_eq_true rfl) (k12_column hl  (Ok.ofbnd h)) rfl rfl (Nat.le_of_ble_eq_true rfl) (Nat.le_of_ble_eq_true rfl) (Nat.le_of_ble_eq_true rfl) ⟨(Nat.le_of_ble_eq_true rfl), (Nat.le_of_ble_eq_true rfl)⟩ dX12_movedCursor_56 rfl (fun E n9 w9 hx => JT_n hx) (fun _ => rfl) (fun p_20 h => ?_)
        have h : Ok _ _ := h
        change J X K 7 False QQ 0 0 2055 (jw K σ μ o) 59 [(5, .int x5_7), (4, .int x4_6), (0, .ref (K.2.2 + 2017)), (1, .int l1), (2, .int l2), (3, .int l3)] [.int p_20, .int x5_7, .ref (K.2.2 + 2017)]
        refine Jm_cV (rest := []) (st9 := fun p_21 => [.int p_21]) C hR hX cv_RX12_325 rfl (Nat.le_of_ble_eq_true rfl) (k12_placeIn hl  (Ok.ofbnd h)) rfl rfl (Nat.le_of_ble_eq_true rfl) (Nat.le_of_ble_eq_true rfl) (Nat.le_of_ble_eq_true rfl) ⟨(Nat.le_of_ble_eq_true rfl), (Nat.le_of_ble_eq_true rfl)⟩ dX12_movedCursor_59 rfl (fun E n9 w9 hx => JT_n hx) (fun _ => rfl) (fun p_21 h => ?_)
        have h : Ok _ _ := h
        change J X K 7 False QQ 0 0 2055 (jw K σ μ o) 62 [(5, .int x5_7), (4, .int x4_6), (0, .ref (K.2.2 + 2017)), (1, .int l1), (2, .int l2), (3, .int l3)] [.int p_21]
        refine J.sub [] rfl ?_
        exact hj_62 p_21 h
      · have h := h.pos (Decidable.not_not.mp c_19)
        refine J_iload_n (i := 1) (p := 3) C dX12_movedCursor_47 rfl rfl rfl ?_
        refine J_goto (t := 62) C dX12_movedCursor_48 (by decide) ?_
        refine J.sub [] rfl ?_
        exact hj_62 l1 h
  · have h := h.pos (Decidable.not_not.mp c_7)
    refine J_iconst (v := 0) C (by decide) dX12_movedCursor_4 rfl ?_
    refine J_aload_n (i := 0) (p := 0) C dX12_movedCursor_5 rfl rfl rfl ?_
    refine Jm_getI C fp_RX12_138 rfl rfl dX12_movedCursor_6 rfl ?_
    refine J_iload_n (i := 1) (p := 1) C dX12_movedCursor_9 rfl rfl rfl ?_
    refine J_iload_n (i := 3) (p := 3) C dX12_movedCursor_10 rfl rfl rfl ?_
    refine J_iadd C dX12_movedCursor_11 rfl ?_
    refine J_cS (rest := [.int (0 : Int32)]) (st9 := fun p_22 => [.int p_22, .int (0 : Int32)]) C hR hX cs_RX12_261 (k12_less hl  (Ok.ofbnd h)) rfl rfl (Nat.le_of_ble_eq_true rfl) (Nat.le_of_ble_eq_true rfl) (Nat.le_of_ble_eq_true rfl) ⟨(Nat.le_of_ble_eq_true rfl), (Nat.le_of_ble_eq_true rfl)⟩ dX12_movedCursor_12 rfl (fun E n9 w9 hx => JT_n hx) (fun _ => rfl) (fun p_22 h => ?_)
    have h : Ok _ _ := h
    change J X K 7 False QQ 0 0 2055 (jw K σ μ o) 15 [(0, .ref (K.2.2 + 2017)), (1, .int l1), (2, .int l2), (3, .int l3)] [.int p_22, .int (0 : Int32)]
    refine J_cS (rest := []) (st9 := fun p_23 => [.int p_23]) C hR hX cs_RX12_257 (k12_more hl  (Ok.ofbnd h)) rfl rfl (Nat.le_of_ble_eq_true rfl) (Nat.le_of_ble_eq_true rfl) (Nat.le_of_ble_eq_true rfl) ⟨(Nat.le_of_ble_eq_true rfl), (Nat.le_of_ble_eq_true rfl)⟩ dX12_movedCursor_15 rfl (fun E n9 w9 hx => JT_n hx) (fun _ => rfl) (fun p_23 h => ?_)
    have h : Ok _ _ := h
    change J X K 7 False QQ 0 0 2055 (jw K σ μ o) 18 [(0, .ref (K.2.2 + 2017)), (1, .int l1), (2, .int l2), (3, .int l3)] [.int p_23]
    rw [← hQQ]
    exact J_iret C hret (Nat.le_of_ble_eq_true rfl) (Nat.le_of_ble_eq_true rfl) ⟨_, h.osome, rfl, rfl, rfl⟩ dX12_movedCursor_18
