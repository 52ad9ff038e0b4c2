def f12_movesCursors_b40 (l1 : Int32) (l2 : Int32) (μ_40 : Sto) (l3_40 : Int32) : Option ((Sto × Int32) ⊕ Sto) :=
  if (fI μ_40 2017 6) ≤ l3_40 then
    some (.inr μ_40)
  else
    gd (inb l3_40 8) <|
    bnd (f12_opensAt μ_40 (aI μ_40 2019 (Int32.toNatClampNeg l3_40))) fun p_3 =>
    stp (l3_40 + (1 : Int32)) fun x3_1 =>
    some (.inl (p_3, x3_1))
def f12_movesCursors_j40 (l1 : Int32) (l2 : Int32) (μ_40 : Sto) (l3_40 : Int32) : Option (Sto) :=
  bnd (loopF (fun s_40 => f12_movesCursors_b40 l1 l2 s_40.1 s_40.2) FU (μ_40, l3_40)) fun r_40 =>
    some r_40
def f12_movesCursors_b2 (l1 : Int32) (l2 : Int32) (μ_2 : Sto) (l3_2 : Int32) : Option ((Sto × Int32) ⊕ Sto) :=
  if (fI μ_2 2017 6) ≤ l3_2 then
    some (.inr μ_2)
  else
    gd (inb l3_2 8) <|
    bnd (f12_movedCursor μ_2 (aI μ_2 2019 (Int32.toNatClampNeg l3_2)) l1 l2) fun p_7 =>
    gd (inb l3_2 8) <|
    stp (uA μ_2 2019 (Int32.toNatClampNeg l3_2) p_7) fun μx_3 =>
    stp (l3_2 + (1 : Int32)) fun x3_4 =>
    some (.inl (μx_3, x3_4))
def f12_movesCursors_j2 (l1 : Int32) (l2 : Int32) (μ_2 : Sto) (l3_2 : Int32) : Option (Sto) :=
  bnd (loopF (fun s_2 => f12_movesCursors_b2 l1 l2 s_2.1 s_2.2) FU (μ_2, l3_2)) fun r_2 =>
    bnd (f12_orders r_2) fun p_9 =>
    stp (0 : Int32) fun x3_5 =>
    f12_movesCursors_j40 l1 l2 p_9 x3_5
def f12_movesCursors (μ : Sto) (l1 : Int32) (l2 : Int32) : Option (Sto) :=
  stp (0 : Int32) fun x3_6 =>
  f12_movesCursors_j2 l1 l2 μ x3_6
set_option maxHeartbeats 4000000 in
set_option maxRecDepth 100000 in
theorem k12_movesCursors {l : Launch} {K : JK} (hl : l.stackTraces = false) {σ μ : Sto} {o : Int64} {l1 : Int32} {l2 : Int32}  {Qf : Sto → Prop} (h : Ok (f12_movesCursors μ l1 l2) Qf) : Con l K yX12_movesCursors (.code yX12_movesCursors cX12_movesCursors 4 none :: TB) 4 0 0 False [.ref (K.2.2 + 2017), .int l1, .int l2] 2055 (jw K σ μ o) (PR Qf (fun p => none) (fun p => jw K σ p o)) PN := by
  refine Con.enter (own := RX12) hl (by decide) rfl (Nat.le_of_ble_eq_true rfl) ?_
  intro X hX hR C hret hnt
  generalize hQQ : jQ X K 0 0 (PR Qf (fun p => none) (fun p => jw K σ p o)) PN False = QQ
  change J X K 4 False QQ 0 0 2055 (jw K σ μ o) 0 [(0, .ref (K.2.2 + 2017)), (1, .int l1), (2, .int l2)] []
  have hj_40 : (∀ (μ_40 : Sto) (l3_40 : Int32), Ok (f12_movesCursors_j40 l1 l2 μ_40 l3_40) Qf → J X K 4 False QQ 0 0 2055 (jw K σ μ_40 o) 40 [(0, .ref (K.2.2 + 2017)), (3, .int l3_40)] []) := by
    intro μ_40 l3_40 h
    unfold f12_movesCursors_j40 at h
    refine loop_gen (S := Sto × Int32) (P := fun s_40 => J X K 4 False QQ 0 0 2055 (jw K σ s_40.1 o) 40 [(0, .ref (K.2.2 + 2017)), (3, .int s_40.2)] []) ?_ FU (μ_40, l3_40) (Ok.ofbnd h)
    intro B_40 hB_40 hE_40 s_40 h
    obtain ⟨μ_40, l3_40⟩ := s_40
    have h : Ok (f12_movesCursors_b40 l1 l2 μ_40 l3_40) B_40 := h
    change J X K 4 False QQ 0 0 2055 (jw K σ μ_40 o) 40 [(0, .ref (K.2.2 + 2017)), (3, .int l3_40)] []
    unfold f12_movesCursors_b40 at h
    refine J_iload_n (i := 3) (p := 1) C dX12_movesCursors_40 rfl rfl rfl ?_
    refine J_aload_n (i := 0) (p := 0) C dX12_movesCursors_41 rfl rfl rfl ?_
    refine Jm_getI C fp_RX12_26 rfl rfl dX12_movesCursors_42 rfl ?_
    refine J_icmp_ge (t := 64) C dX12_movesCursors_45 (by decide) rfl (fun c_1 => ?_) (fun c_1 => ?_)
    · have h := h.pos c_1
      have h := hE_40 μ_40 h.osome
      try dsimp only at h
      rw [← hQQ]
      exact J_vret C hret (Nat.le_of_ble_eq_true rfl) (Nat.le_of_ble_eq_true rfl) ⟨_, h.osome, rfl, rfl, rfl⟩ dX12_movesCursors_64
    · have h := h.neg c_1
      refine J_aload_n (i := 0) (p := 0) C dX12_movesCursors_48 rfl rfl rfl ?_
      refine J_aload_n (i := 0) (p := 0) C dX12_movesCursors_49 rfl rfl rfl ?_
      refine Jm_getS (o2 := 2) (r2 := 2019) C fp_RX12_13 rfl rfl rfl dX12_movesCursors_50 rfl ?_
      refine J_iload_n (i := 3) (p := 1) C dX12_movesCursors_53 rfl rfl rfl ?_
      obtain ⟨g_2, h⟩ := Ok.ofgd h
      refine Jm_iald C rfl rfl g_2 dX12_movesCursors_54 rfl ?_
      refine Jm_cV (rest := []) (st9 := fun p_3 => []) C hR hX cv_RX12_294 rfl (Nat.le_of_ble_eq_true rfl) (k12_opensAt hl  (Ok.ofbnd h)) rfl rfl (Nat.le_of_ble_eq_true rfl) (Nat.le_of_ble_eq_true rfl) (Nat.le_of_ble_eq_true rfl) ⟨(Nat.le_of_ble_eq_true rfl), (Nat.le_of_ble_eq_true rfl)⟩ dX12_movesCursors_55 rfl (fun E n9 w9 hx => JT_n hx) (fun _ => rfl) (fun p_3 h => ?_)
      have h : Ok _ _ := h
      change J X K 4 False QQ 0 0 2055 (jw K σ p_3 o) 58 [(0, .ref (K.2.2 + 2017)), (3, .int l3_40)] []
      obtain ⟨x3_1, e_x3_1, h⟩ := Ok.nm h
      refine J_iincE (i := 3) (p := 1) (lv' := [(3, .int x3_1), (0, .ref (K.2.2 + 2017))]) C e_x3_1 dX12_movesCursors_58 rfl (by decide) (Nat.le_of_ble_eq_true rfl) rfl rfl ?_
      refine J_goto (t := 40) C dX12_movesCursors_61 (by decide) ?_
      refine J.sub [1, 0] rfl ?_
      exact hB_40 (p_3, x3_1) h.osome
  have hj_2 : (∀ (μ_2 : Sto) (l3_2 : Int32), Ok (f12_movesCursors_j2 l1 l2 μ_2 l3_2) Qf → J X K 4 False QQ 0 0 2055 (jw K σ μ_2 o) 2 [(0, .ref (K.2.2 + 2017)), (1, .int l1), (2, .int l2), (3, .int l3_2)] []) := by
    intro μ_2 l3_2 h
    unfold f12_movesCursors_j2 at h
    refine loop_gen (S := Sto × Int32) (P := fun s_2 => J X K 4 False QQ 0 0 2055 (jw K σ s_2.1 o) 2 [(0, .ref (K.2.2 + 2017)), (1, .int l1), (2, .int l2), (3, .int s_2.2)] []) ?_ FU (μ_2, l3_2) (Ok.ofbnd h)
    intro B_2 hB_2 hE_2 s_2 h
    obtain ⟨μ_2, l3_2⟩ := s_2
    have h : Ok (f12_movesCursors_b2 l1 l2 μ_2 l3_2) B_2 := h
    change J X K 4 False QQ 0 0 2055 (jw K σ μ_2 o) 2 [(0, .ref (K.2.2 + 2017)), (1, .int l1), (2, .int l2), (3, .int l3_2)] []
    unfold f12_movesCursors_b2 at h
    refine J_iload_n (i := 3) (p := 3) C dX12_movesCursors_2 rfl rfl rfl ?_
    refine J_aload_n (i := 0) (p := 0) C dX12_movesCursors_3 rfl rfl rfl ?_
    refine Jm_getI C fp_RX12_26 rfl rfl dX12_movesCursors_4 rfl ?_
    refine J_icmp_ge (t := 34) C dX12_movesCursors_7 (by decide) rfl (fun c_4 => ?_) (fun c_4 => ?_)
    · have h := h.pos c_4
      have h := hE_2 μ_2 h.osome
      try dsimp only at h
      refine J_aload_n (i := 0) (p := 0) C dX12_movesCursors_34 rfl rfl rfl ?_
      refine Jm_cV (rest := []) (st9 := fun p_5 => []) C hR hX cv_RX12_197 rfl (Nat.le_of_ble_eq_true rfl) (k12_orders hl  (Ok.ofbnd h)) rfl rfl (Nat.le_of_ble_eq_true rfl) (Nat.le_of_ble_eq_true rfl) (Nat.le_of_ble_eq_true rfl) ⟨(Nat.le_of_ble_eq_true rfl), (Nat.le_of_ble_eq_true rfl)⟩ dX12_movesCursors_35 rfl (fun E n9 w9 hx => JT_n hx) (fun _ => rfl) (fun p_5 h => ?_)
      have h : Ok _ _ := h
      change J X K 4 False QQ 0 0 2055 (jw K σ p_5 o) 38 [(0, .ref (K.2.2 + 2017)), (1, .int l1), (2, .int l2), (3, .int l3_2)] []
      refine J_iconst (v := 0) C (by decide) dX12_movesCursors_38 rfl ?_
      obtain ⟨x3_2, e_x3_2, h⟩ := Ok.nm h
      refine J_istoreE_n (i := 3) (lv' := [(3, .int x3_2), (0, .ref (K.2.2 + 2017)), (1, .int l1), (2, .int l2)]) C e_x3_2 dX12_movesCursors_39 rfl (Nat.le_of_ble_eq_true rfl) rfl rfl ?_
      refine J.sub [1, 0] rfl ?_
      exact hj_40 p_5 x3_2 h
    · have h := h.neg c_4
      refine J_aload_n (i := 0) (p := 0) C dX12_movesCursors_10 rfl rfl rfl ?_
      refine Jm_getS (o2 := 2) (r2 := 2019) C fp_RX12_13 rfl rfl rfl dX12_movesCursors_11 rfl ?_
      refine J_iload_n (i := 3) (p := 3) C dX12_movesCursors_14 rfl rfl rfl ?_
      refine J_aload_n (i := 0) (p := 0) C dX12_movesCursors_15 rfl rfl rfl ?_
      refine J_aload_n (i := 0) (p := 0) C dX12_movesCursors_16 rfl rfl rfl ?_
      refine Jm_getS (o2 := 2) (r2 := 2019) C fp_RX12_13 rfl rfl rfl dX12_movesCursors_17 rfl ?_
      refine J_iload_n (i := 3) (p := 3) C dX12_movesCursors_20 rfl rfl rfl ?_
      obtain ⟨g_6, h⟩ := Ok.ofgd h
      refine Jm_iald C rfl rfl g_6 dX12_movesCursors_21 rfl ?_
      refine J_iload_n (i := 1) (p := 1) C dX12_movesCursors_22 rfl rfl rfl ?_
      refine J_iload_n (i := 2) (p := 2) C dX12_movesCursors_23 rfl rfl rfl ?_
      refine Jm_cV (rest := [.int l3_2, .ref (K.2.2 + 2019)]) (st9 := fun p_7 => [.int p_7, .int l3_2, .ref (K.2.2 + 2019)]) C hR hX cv_RX12_335 rfl (Nat.le_of_ble_eq_true rfl) (k12_movedCursor hl  (Ok.ofbnd h)) rfl rfl (Nat.le_of_ble_eq_true rfl) (Nat.le_of_ble_eq_true rfl) (Nat.le_of_ble_eq_true rfl) ⟨(Nat.le_of_ble_eq_true rfl), (Nat.le_of_ble_eq_true rfl)⟩ dX12_movesCursors_24 rfl (fun E n9 w9 hx => JT_n hx) (fun _ => rfl) (fun p_7 h => ?_)
      have h : Ok _ _ := h
      change J X K 4 False QQ 0 0 2055 (jw K σ μ_2 o) 27 [(0, .ref (K.2.2 + 2017)), (1, .int l1), (2, .int l2), (3, .int l3_2)] [.int p_7, .int l3_2, .ref (K.2.2 + 2019)]
      obtain ⟨g_8, h⟩ := Ok.ofgd h
      obtain ⟨μx_3, e_μx_3, h⟩ := Ok.nm h
      refine Jm_iast C id rfl rfl g_8 e_μx_3 dX12_movesCursors_27 rfl ?_
      obtain ⟨x3_4, e_x3_4, h⟩ := Ok.nm h
      refine J_iincE (i := 3) (p := 3) (lv' := [(3, .int x3_4), (0, .ref (K.2.2 + 2017)), (1, .int l1), (2, .int l2)]) C e_x3_4 dX12_movesCursors_28 rfl (by decide) (Nat.le_of_ble_eq_true rfl) rfl rfl ?_
      refine J_goto (t := 2) C dX12_movesCursors_31 (by decide) ?_
      refine J.sub [1, 2, 3, 0] rfl ?_
      exact hB_2 (μx_3, x3_4) h.osome
  unfold f12_movesCursors at h
  refine J_iconst (v := 0) C (by decide) dX12_movesCursors_0 rfl ?_
  obtain ⟨x3_6, e_x3_6, h⟩ := Ok.nm h
  refine J_istoreE_n (i := 3) (lv' := [(3, .int x3_6), (0, .ref (K.2.2 + 2017)), (1, .int l1), (2, .int l2)]) C e_x3_6 dX12_movesCursors_1 rfl (Nat.le_of_ble_eq_true rfl) rfl rfl ?_
  refine J.sub [1, 2, 3, 0] rfl ?_
  exact hj_2 μ x3_6 h
def f12_moveCursors_j20 (l1 : Int32) (l2 : Int32) (μ_20 : Sto) : Option (Int32 × Sto) :=
  bnd (f12_refuse μ_20 (1 : Int32)) fun p_1 =>
  some (p_1.1, p_1.2)
def f12_moveCursors (μ : Sto) (l1 : Int32) (l2 : Int32) : Option (Int32 × Sto) :=
  bnd (f12_in l1 (0 : Int32) (4 : Int32)) fun p_2 =>
  if p_2 = 0 then
    f12_moveCursors_j20 l1 l2 μ
  else
    bnd (f12_in l2 (-50 : Int32) (50 : Int32)) fun p_4 =>
    if p_4 = 0 then
      f12_moveCursors_j20 l1 l2 μ
    else
      bnd (f12_movesCursors μ l1 l2) fun p_6 =>
      bnd (f12_steps p_6 (2 : Int32) l1 l2) fun p_7 =>
      bnd (f12_told p_7 (fI p_7 2017 6)) fun p_8 =>
      some (p_8.1, p_8.2)
set_option maxHeartbeats 4000000 in
set_option maxRecDepth 100000 in
theorem k12_moveCursors {l : Launch} {K : JK} (hl : l.stackTraces = false) {σ μ : Sto} {o : Int64} {l1 : Int32} {l2 : Int32}  {Qf : Int32 × Sto → Prop} (h : Ok (f12_moveCursors μ l1 l2) Qf) : Con l K yX12_moveCursors (.code yX12_moveCursors cX12_moveCursors 3 (some .int) :: TB) 5 0 0 False [.ref (K.2.2 + 2017), .int l1, .int l2] 2055 (jw K σ μ o) (PR Qf (fun p => some (.int p.1)) (fun p => jw K σ p.2 o)) PN := by
  refine Con.enter (own := RX12) hl (by decide) rfl (Nat.le_of_ble_eq_true rfl) ?_
  intro X hX hR C hret hnt
  generalize hQQ : jQ X K 0 0 (PR Qf (fun p => some (.int p.1)) (fun p => jw K σ p.2 o)) PN False = QQ
  change J X K 3 False QQ 0 0 2055 (jw K σ μ o) 0 [(0, .ref (K.2.2 + 2017)), (1, .int l1), (2, .int l2)] []
  have hj_20 : (∀ (μ_20 : Sto), Ok (f12_moveCursors_j20 l1 l2 μ_20) Qf → J X K 3 False QQ 0 0 2055 (jw K σ μ_20 o) 20 [(0, .ref (K.2.2 + 2017))] []) := by
    intro μ_20 h
    unfold f12_moveCursors_j20 at h
    refine J_aload_n (i := 0) (p := 0) C dX12_moveCursors_20 rfl rfl rfl ?_
    refine J_iconst (v := 1) C (by decide) dX12_moveCursors_21 rfl ?_
    refine Jm_cV (rest := []) (st9 := fun p_1 => [.int p_1.1]) C hR hX cv_RX12_206 rfl (Nat.le_of_ble_eq_true rfl) (k12_refuse hl  (Ok.ofbnd h)) rfl rfl (Nat.le_of_ble_eq_true rfl) (Nat.le_of_ble_eq_true rfl) (Nat.le_of_ble_eq_true rfl) ⟨(Nat.le_of_ble_eq_true rfl), (Nat.le_of_ble_eq_true rfl)⟩ dX12_moveCursors_22 rfl (fun E n9 w9 hx => JT_n hx) (fun _ => rfl) (fun p_1 h => ?_)
    have h : Ok _ _ := h
    change J X K 3 False QQ 0 0 2055 (jw K σ p_1.2 o) 25 [(0, .ref (K.2.2 + 2017))] [.int p_1.1]
    rw [← hQQ]
    exact J_iret C hret (Nat.le_of_ble_eq_true rfl) (Nat.le_of_ble_eq_true rfl) ⟨_, h.osome, rfl, rfl, rfl⟩ dX12_moveCursors_25
  unfold f12_moveCursors at h
  refine J_iload_n (i := 1) (p := 1) C dX12_moveCursors_0 rfl rfl rfl ?_
  refine J_iconst (v := 0) C (by decide) dX12_moveCursors_1 rfl ?_
  refine J_iconst (v := 4) C (by decide) dX12_moveCursors_2 rfl ?_
  refine J_cS (rest := []) (st9 := fun p_2 => [.int p_2]) C hR hX cs_RX12_134 (k12_in hl  (Ok.ofbnd h)) rfl rfl (Nat.le_of_ble_eq_true rfl) (Nat.le_of_ble_eq_true rfl) (Nat.le_of_ble_eq_true rfl) ⟨(Nat.le_of_ble_eq_true rfl), (Nat.le_of_ble_eq_true rfl)⟩ dX12_moveCursors_3 rfl (fun E n9 w9 hx => JT_n hx) (fun _ => rfl) (fun p_2 h => ?_)
  have h : Ok _ _ := h
  change J X K 3 False QQ 0 0 2055 (jw K σ μ o) 6 [(0, .ref (K.2.2 + 2017)), (1, .int l1), (2, .int l2)] [.int p_2]
  refine J_if_eq (t := 20) C dX12_moveCursors_6 (by decide) rfl (fun c_3 => ?_) (fun c_3 => ?_)
  · have h := h.pos c_3
    refine J.sub [0] rfl ?_
    exact hj_20 μ h
  · have h := h.neg c_3
    refine J_iload_n (i := 2) (p := 2) C dX12_moveCursors_9 rfl rfl rfl ?_
    refine J_bipush (v := -50) C (by decide) dX12_moveCursors_10 rfl ?_
    refine J_bipush (v := 50) C (by decide) dX12_moveCursors_12 rfl ?_
    refine J_cS (rest := []) (st9 := fun p_4 => [.int p_4]) C hR hX cs_RX12_134 (k12_in hl  (Ok.ofbnd h)) rfl rfl (Nat.le_of_ble_eq_true rfl) (Nat.le_of_ble_eq_true rfl) (Nat.le_of_ble_eq_true rfl) ⟨(Nat.le_of_ble_eq_true rfl), (Nat.le_of_ble_eq_true rfl)⟩ dX12_moveCursors_14 rfl (fun E n9 w9 hx => JT_n hx) (fun _ => rfl) (fun p_4 h => ?_)
    have h : Ok _ _ := h
    change J X K 3 False QQ 0 0 2055 (jw K σ μ o) 17 [(0, .ref (K.2.2 + 2017)), (1, .int l1), (2, .int l2)] [.int p_4]
    refine J_if_ne (t := 26) C dX12_moveCursors_17 (by decide) rfl (fun c_5 => ?_) (fun c_5 => ?_)
    · have h := h.neg c_5
      refine J_aload_n (i := 0) (p := 0) C dX12_moveCursors_26 rfl rfl rfl ?_
      refine J_iload_n (i := 1) (p := 1) C dX12_moveCursors_27 rfl rfl rfl ?_
      refine J_iload_n (i := 2) (p := 2) C dX12_moveCursors_28 rfl rfl rfl ?_
      refine Jm_cV (rest := []) (st9 := fun p_6 => []) C hR hX cv_RX12_339 rfl (Nat.le_of_ble_eq_true rfl) (k12_movesCursors hl  (Ok.ofbnd h)) rfl rfl (Nat.le_of_ble_eq_true rfl) (Nat.le_of_ble_eq_true rfl) (Nat.le_of_ble_eq_true rfl) ⟨(Nat.le_of_ble_eq_true rfl), (Nat.le_of_ble_eq_true rfl)⟩ dX12_moveCursors_29 rfl (fun E n9 w9 hx => JT_n hx) (fun _ => rfl) (fun p_6 h => ?_)
      have h : Ok _ _ := h
      change J X K 3 False QQ 0 0 2055 (jw K σ p_6 o) 32 [(0, .ref (K.2.2 + 2017)), (1, .int l1), (2, .int l2)] []
      refine J_aload_n (i := 0) (p := 0) C dX12_moveCursors_32 rfl rfl rfl ?_
      refine J_iconst (v := 2) C (by decide) dX12_moveCursors_33 rfl ?_
      refine J_iload_n (i := 1) (p := 1) C dX12_moveCursors_34 rfl rfl rfl ?_
      refine J_iload_n (i := 2) (p := 2) C dX12_moveCursors_35 rfl rfl rfl ?_
      refine Jm_cV (rest := []) (st9 := fun p_7 => []) C hR hX cv_RX12_250 rfl (Nat.le_of_ble_eq_true rfl) (k12_steps hl  (Ok.ofbnd h)) rfl rfl (Nat.le_of_ble_eq_true rfl) (Nat.le_of_ble_eq_true rfl) (Nat.le_of_ble_eq_true rfl) ⟨(Nat.le_of_ble_eq_true rfl), (Nat.le_of_ble_eq_true rfl)⟩ dX12_moveCursors_36 rfl (fun E n9 w9 hx => JT_n hx) (fun _ => rfl) (fun p_7 h => ?_)
      have h : Ok _ _ := h
      change J X K 3 False QQ 0 0 2055 (jw K σ p_7 o) 39 [(0, .ref (K.2.2 + 2017)), (1, .int l1), (2, .int l2)] []
      refine J_aload_n (i := 0) (p := 0) C dX12_moveCursors_39 rfl rfl rfl ?_
      refine J_aload_n (i := 0) (p := 0) C dX12_moveCursors_40 rfl rfl rfl ?_
      refine Jm_getI C fp_RX12_26 rfl rfl dX12_moveCursors_41 rfl ?_
      refine Jm_cV (rest := []) (st9 := fun p_8 => [.int p_8.1]) C hR hX cv_RX12_209 rfl (Nat.le_of_ble_eq_true rfl) (k12_told hl  (Ok.ofbnd h)) rfl rfl (Nat.le_of_ble_eq_true rfl) (Nat.le_of_ble_eq_true rfl) (Nat.le_of_ble_eq_true rfl) ⟨(Nat.le_of_ble_eq_true rfl), (Nat.le_of_ble_eq_true rfl)⟩ dX12_moveCursors_44 rfl (fun E n9 w9 hx => JT_n hx) (fun _ => rfl) (fun p_8 h => ?_)
      have h : Ok _ _ := h
      change J X K 3 False QQ 0 0 2055 (jw K σ p_8.2 o) 47 [(0, .ref (K.2.2 + 2017)), (1, .int l1), (2, .int l2)] [.int p_8.1]
      rw [← hQQ]
      exact J_iret C hret (Nat.le_of_ble_eq_true rfl) (Nat.le_of_ble_eq_true rfl) ⟨_, h.osome, rfl, rfl, rfl⟩ dX12_moveCursors_47
    · have h := h.pos (Decidable.not_not.mp c_5)
      refine J.sub [0] rfl ?_
      exact hj_20 μ h
def f12_cursorAt_j32 (l1 : Int32) (μ_32 : Sto) (s0_32 : Int32) : Option (Int32 × Sto) :=
  some (s0_32, μ_32)
def f12_cursorAt (μ : Sto) (l1 : Int32) : Option (Int32 × Sto) :=
  bnd (f12_in l1 (0 : Int32) ((fI μ 2017 6) - (1 : Int32))) fun p_1 =>
  if p_1 = 0 then
    bnd (f12_refuse μ (1 : Int32)) fun p_3 =>
    f12_cursorAt_j32 l1 p_3.2 p_3.1
  else
    gd (inb l1 8) <|
    bnd (f12_told μ (aI μ 2019 (Int32.toNatClampNeg l1))) fun p_5 =>
    f12_cursorAt_j32 l1 p_5.2 p_5.1
set_option maxHeartbeats 4000000 in
set_option maxRecDepth 100000 in
theorem k12_cursorAt {l : Launch} {K : JK} (hl : l.stackTraces = false) {σ μ : Sto} {o : Int64} {l1 : Int32}  {Qf : Int32 × Sto → Prop} (h : Ok (f12_cursorAt μ l1) Qf) : Con l K yX12_cursorAt (.code yX12_cursorAt cX12_cursorAt 2 (some .int) :: TB) 1 0 0 False [.ref (K.2.2 + 2017), .int l1] 2055 (jw K σ μ o) (PR Qf (fun p => some (.int p.1)) (fun p => jw K σ p.2 o)) PN := by
  refine Con.enter (own := RX12) hl (by decide) rfl (Nat.le_of_ble_eq_true rfl) ?_
  intro X hX hR C hret hnt
  generalize hQQ : jQ X K 0 0 (PR Qf (fun p => some (.int p.1)) (fun p => jw K σ p.2 o)) PN False = QQ
  change J X K 2 False QQ 0 0 2055 (jw K σ μ o) 0 [(0, .ref (K.2.2 + 2017)), (1, .int l1)] []
  have hj_32 : (∀ (μ_32 : Sto) (s0_32 : Int32), Ok (f12_cursorAt_j32 l1 μ_32 s0_32) Qf → J X K 2 False QQ 0 0 2055 (jw K σ μ_32 o) 32 [] [.int s0_32]) := by
    intro μ_32 s0_32 h
    unfold f12_cursorAt_j32 at h
    rw [← hQQ]
    exact J_iret C hret (Nat.le_of_ble_eq_true rfl) (Nat.le_of_ble_eq_true rfl) ⟨_, h.osome, rfl, rfl, rfl⟩ dX12_cursorAt_32
  unfold f12_cursorAt at h
  refine J_iload_n (i := 1) (p := 1) C dX12_cursorAt_0 rfl rfl rfl ?_
  refine J_iconst (v := 0) C (by decide) dX12_cursorAt_1 rfl ?_
  refine J_aload_n (i := 0) (p := 0) C dX12_cursorAt_2 rfl rfl rfl ?_
  refine Jm_getI C fp_RX12_26 rfl rfl dX12_cursorAt_3 rfl ?_
  refine J_iconst (v := 1) C (by decide) dX12_cursorAt_6 rfl ?_
  refine J_isub C dX12_cursorAt_7 rfl ?_
  refine J_cS (rest := []) (st9 := fun p_1 => [.int p_1]) C hR hX cs_RX12_134 (k12_in hl  (Ok.ofbnd h)) rfl rfl (Nat.le_of_ble_eq_true rfl) (Nat.le_of_ble_eq_true rfl) (Nat.le_of_ble_eq_true rfl) ⟨(Nat.le_of_ble_eq_true rfl), (Nat.le_of_ble_eq_true rfl)⟩ dX12_cursorAt_8 rfl (fun E n9 w9 hx => JT_n hx) (fun _ => rfl) (fun p_1 h => ?_)
  have h : Ok _ _ := h
  change J X K 2 False QQ 0 0 2055 (jw K σ μ o) 11 [(0, .ref (K.2.2 + 2017)), (1, .int l1)] [.int p_1]
  refine J_if_eq (t := 27) C dX12_cursorAt_11 (by decide) rfl (fun c_2 => ?_) (fun c_2 => ?_)
  · have h := h.pos c_2
    refine J_aload_n (i := 0) (p := 0) C dX12_cursorAt_27 rfl rfl rfl ?_
    refine J_iconst (v := 1) C (by decide) dX12_cursorAt_28 rfl ?_
    refine Jm_cV (rest := []) (st9 := fun p_3 => [.int p_3.1]) C hR hX cv_RX12_206 rfl (Nat.le_of_ble_eq_true rfl) (k12_refuse hl  (Ok.ofbnd h)) rfl rfl (Nat.le_of_ble_eq_true rfl) (Nat.le_of_ble_eq_true rfl) (Nat.le_of_ble_eq_true rfl) ⟨(Nat.le_of_ble_eq_true rfl), (Nat.le_of_ble_eq_true rfl)⟩ dX12_cursorAt_29 rfl (fun E n9 w9 hx => JT_n hx) (fun _ => rfl) (fun p_3 h => ?_)
    have h : Ok _ _ := h
    change J X K 2 False QQ 0 0 2055 (jw K σ p_3.2 o) 32 [(0, .ref (K.2.2 + 2017)), (1, .int l1)] [.int p_3.1]
    refine J.sub [] rfl ?_
    exact hj_32 p_3.2 p_3.1 h
  · have h := h.neg c_2
    refine J_aload_n (i := 0) (p := 0) C dX12_cursorAt_14 rfl rfl rfl ?_
    refine J_aload_n (i := 0) (p := 0) C dX12_cursorAt_15 rfl rfl rfl ?_
    refine Jm_getS (o2 := 2) (r2 := 2019) C fp_RX12_13 rfl rfl rfl dX12_cursorAt_16 rfl ?_
    refine J_iload_n (i := 1) (p := 1) C dX12_cursorAt_19 rfl rfl rfl ?_
    obtain ⟨g_4, h⟩ := Ok.ofgd h
    refine Jm_iald C rfl rfl g_4 dX12_cursorAt_20 rfl ?_
    refine Jm_cV (rest := []) (st9 := fun p_5 => [.int p_5.1]) C hR hX cv_RX12_209 rfl (Nat.le_of_ble_eq_true rfl) (k12_told hl  (Ok.ofbnd h)) rfl rfl (Nat.le_of_ble_eq_true rfl) (Nat.le_of_ble_eq_true rfl) (Nat.le_of_ble_eq_true rfl) ⟨(Nat.le_of_ble_eq_true rfl), (Nat.le_of_ble_eq_true rfl)⟩ dX12_cursorAt_21 rfl (fun E n9 w9 hx => JT_n hx) (fun _ => rfl) (fun p_5 h => ?_)
    have h : Ok _ _ := h
    change J X K 2 False QQ 0 0 2055 (jw K σ p_5.2 o) 24 [(0, .ref (K.2.2 + 2017)), (1, .int l1)] [.int p_5.1]
    refine J_goto (t := 32) C dX12_cursorAt_24 (by decide) ?_
    refine J.sub [] rfl ?_
    exact hj_32 p_5.2 p_5.1 h
def f12_isMark (l0 : Int32) : Option (Int32) :=
  bnd (f12_in l0 (0 : Int32) (15 : Int32)) fun p_1 =>
  gd (isB p_1) <|
  some p_1
set_option maxHeartbeats 4000000 in
set_option maxRecDepth 100000 in
theorem k12_isMark {l : Launch} {K : JK} (hl : l.stackTraces = false) {σ μ : Sto} {o : Int64} {l0 : Int32}  {Qf : Int32 → Prop} (h : Ok (f12_isMark l0) Qf) : Con l K yX12_isMark (.code yX12_isMark cX12_isMark 1 (some .boolean) :: TB) 1 0 0 False [.int l0] 2055 (jw K σ μ o) (PR Qf (fun p => some (.int p)) (fun p => jw K σ μ o)) PN := by
  refine Con.enter (own := RX12) hl (by decide) rfl (Nat.le_of_ble_eq_true rfl) ?_
  intro X hX hR C hret hnt
  generalize hQQ : jQ X K 0 0 (PR Qf (fun p => some (.int p)) (fun p => jw K σ μ o)) PN False = QQ
  change J X K 1 False QQ 0 0 2055 (jw K σ μ o) 0 [(0, .int l0)] []
  unfold f12_isMark at h
  refine J_iload_n (i := 0) (p := 0) C dX12_isMark_0 rfl rfl rfl ?_
  refine J_iconst (v := 0) C (by decide) dX12_isMark_1 rfl ?_
  refine J_bipush (v := 15) C (by decide) dX12_isMark_2 rfl ?_
  refine J_cS (rest := []) (st9 := fun p_1 => [.int p_1]) C hR hX cs_RX12_134 (k12_in hl  (Ok.ofbnd h)) rfl rfl (Nat.le_of_ble_eq_true rfl) (Nat.le_of_ble_eq_true rfl) (Nat.le_of_ble_eq_true rfl) ⟨(Nat.le_of_ble_eq_true rfl), (Nat.le_of_ble_eq_true rfl)⟩ dX12_isMark_4 rfl (fun E n9 w9 hx => JT_n hx) (fun _ => rfl) (fun p_1 h => ?_)
  have h : Ok _ _ := h
  change J X K 1 False QQ 0 0 2055 (jw K σ μ o) 7 [(0, .int l0)] [.int p_1]
  obtain ⟨g_2, h⟩ := Ok.ofgd h
  rw [← hQQ]
  exact J_zret C hret (narB g_2).1 (Nat.le_of_ble_eq_true rfl) (Nat.le_of_ble_eq_true rfl) ⟨_, h.osome, rfl, rfl, rfl⟩ dX12_isMark_7
def f12_setMark_j15 (l1 : Int32) (l2 : Int32) (l3 : Int32) (μ_15 : Sto) : Option (Int32 × Sto) :=
  bnd (f12_refuse μ_15 (1 : Int32)) fun p_1 =>
  some (p_1.1, p_1.2)
def f12_setMark (μ : Sto) (l1 : Int32) (l2 : Int32) (l3 : Int32) : Option (Int32 × Sto) :=
  bnd (f12_isMark l1) fun p_2 =>
  if p_2 = 0 then
    f12_setMark_j15 l1 l2 l3 μ
  else
    bnd (f12_isPlace μ l2) fun p_4 =>
    if p_4 = 0 then
      f12_setMark_j15 l1 l2 l3 μ
    else
      gd (inb l1 16) <|
      stp (aI μ 2020 (Int32.toNatClampNeg l1)) fun x4_1 =>
      gd (inb l1 16) <|
      stp (uA μ 2020 (Int32.toNatClampNeg l1) l2) fun μx_2 =>
      gd (inb l1 16) <|
      stp (uA μx_2 2021 (Int32.toNatClampNeg l1) (vp_nar .boolean l3)) fun μx_3 =>
      bnd (f12_told μx_3 x4_1) fun p_9 =>
      some (p_9.1, p_9.2)
set_option maxHeartbeats 4000000 in
set_option maxRecDepth 100000 in
theorem k12_setMark {l : Launch} {K : JK} (hl : l.stackTraces = false) {σ μ : Sto} {o : Int64} {l1 : Int32} {l2 : Int32} {l3 : Int32}  {Qf : Int32 × Sto → Prop} (h : Ok (f12_setMark μ l1 l2 l3) Qf) : Con l K yX12_setMark (.code yX12_setMark cX12_setMark 5 (some .int) :: TB) 2 0 0 False [.ref (K.2.2 + 2017), .int l1, .int l2, .int l3] 2055 (jw K σ μ o) (PR Qf (fun p => some (.int p.1)) (fun p => jw K σ p.2 o)) PN := by
  refine Con.enter (own := RX12) hl (by decide) rfl (Nat.le_of_ble_eq_true rfl) ?_
  intro X hX hR C hret hnt
  generalize hQQ : jQ X K 0 0 (PR Qf (fun p => some (.int p.1)) (fun p => jw K σ p.2 o)) PN False = QQ
  change J X K 5 False QQ 0 0 2055 (jw K σ μ o) 0 [(0, .ref (K.2.2 + 2017)), (1, .int l1), (2, .int l2), (3, .int l3)] []
  have hj_15 : (∀ (μ_15 : Sto), Ok (f12_setMark_j15 l1 l2 l3 μ_15) Qf → J X K 5 False QQ 0 0 2055 (jw K σ μ_15 o) 15 [(0, .ref (K.2.2 + 2017))] []) := by
    intro μ_15 h
    unfold f12_setMark_j15 at h
    refine J_aload_n (i := 0) (p := 0) C dX12_setMark_15 rfl rfl rfl ?_
    refine J_iconst (v := 1) C (by decide) dX12_setMark_16 rfl ?_
    refine Jm_cV (rest := []) (st9 := fun p_1 => [.int p_1.1]) C hR hX cv_RX12_206 rfl (Nat.le_of_ble_eq_true rfl) (k12_refuse hl  (Ok.ofbnd h)) rfl rfl (Nat.le_of_ble_eq_true rfl) (Nat.le_of_ble_eq_true rfl) (Nat.le_of_ble_eq_true rfl) ⟨(Nat.le_of_ble_eq_true rfl), (Nat.le_of_ble_eq_true rfl)⟩ dX12_setMark_17 rfl (fun E n9 w9 hx => JT_n hx) (fun _ => rfl) (fun p_1 h => ?_)
    have h : Ok _ _ := h
    change J X K 5 False QQ 0 0 2055 (jw K σ p_1.2 o) 20 [(0, .ref (K.2.2 + 2017))] [.int p_1.1]
    rw [← hQQ]
    exact J_iret C hret (Nat.le_of_ble_eq_true rfl) (Nat.le_of_ble_eq_true rfl) ⟨_, h.osome, rfl, rfl, rfl⟩ dX12_setMark_20
  unfold f12_setMark at h
  refine J_iload_n (i := 1) (p := 1) C dX12_setMark_0 rfl rfl rfl ?_
  refine J_cS (rest := []) (st9 := fun p_2 => [.int p_2]) C hR hX cs_RX12_342 (k12_isMark hl  (Ok.ofbnd h)) rfl rfl (Nat.le_of_ble_eq_true rfl) (Nat.le_of_ble_eq_true rfl) (Nat.le_of_ble_eq_true rfl) ⟨(Nat.le_of_ble_eq_true rfl), (Nat.le_of_ble_eq_true rfl)⟩ dX12_setMark_1 rfl (fun E n9 w9 hx => JT_n hx) (fun _ => rfl) (fun p_2 h => ?_)
  have h : Ok _ _ := h
  change J X K 5 False QQ 0 0 2055 (jw K σ μ o) 4 [(0, .ref (K.2.2 + 2017)), (1, .int l1), (2, .int l2), (3, .int l3)] [.int p_2]
  refine J_if_eq (t := 15) C dX12_setMark_4 (by decide) rfl (fun c_3 => ?_) (fun c_3 => ?_)
  · have h := h.pos c_3
    refine J.sub [0] rfl ?_
    exact hj_15 μ h
  · have h := h.neg c_3
    refine J_aload_n (i := 0) (p := 0) C dX12_setMark_7 rfl rfl rfl ?_
    refine J_iload_n (i := 2) (p := 2) C dX12_setMark_8 rfl rfl rfl ?_
    refine Jm_cV (rest := []) (st9 := fun p_4 => [.int p_4]) C hR hX cv_RX12_218 rfl (Nat.le_of_ble_eq_true rfl) (k12_isPlace hl  (Ok.ofbnd h)) rfl rfl (Nat.le_of_ble_eq_true rfl) (Nat.le_of_ble_eq_true rfl) (Nat.le_of_ble_eq_true rfl) ⟨(Nat.le_of_ble_eq_true rfl), (Nat.le_of_ble_eq_true rfl)⟩ dX12_setMark_9 rfl (fun E n9 w9 hx => JT_n hx) (fun _ => rfl) (fun p_4 h => ?_)
    have h : Ok _ _ := h
    change J X K 5 False QQ 0 0 2055 (jw K σ μ o) 12 [(0, .ref (K.2.2 + 2017)), (1, .int l1), (2, .int l2), (3, .int l3)] [.int p_4]
    refine J_if_ne (t := 21) C dX12_setMark_12 (by decide) rfl (fun c_5 => ?_) (fun c_5 => ?_)
    · have h := h.neg c_5
      refine J_aload_n (i := 0) (p := 0) C dX12_setMark_21 rfl rfl rfl ?_
      refine Jm_getS (o2 := 3) (r2 := 2020) C fp_RX12_16 rfl rfl rfl dX12_setMark_22 rfl ?_
      refine J_iload_n (i := 1) (p := 1) C dX12_setMark_25 rfl rfl rfl ?_
      obtain ⟨g_6, h⟩ := Ok.ofgd h
      refine Jm_iald C rfl rfl g_6 dX12_setMark_26 rfl ?_
      obtain ⟨x4_1, e_x4_1, h⟩ := Ok.nm h
      refine J_istoreE (i := 4) (lv' := [(4, .int x4_1), (0, .ref (K.2.2 + 2017)), (1, .int l1), (2, .int l2), (3, .int l3)]) C e_x4_1 dX12_setMark_27 (Nat.le_of_ble_eq_true rfl) rfl rfl ?_
      refine J_aload_n (i := 0) (p := 1) C dX12_setMark_29 rfl rfl rfl ?_
      refine Jm_getS (o2 := 3) (r2 := 2020) C fp_RX12_16 rfl rfl rfl dX12_setMark_30 rfl ?_
      refine J_iload_n (i := 1) (p := 2) C dX12_setMark_33 rfl rfl rfl ?_
      refine J_iload_n (i := 2) (p := 3) C dX12_setMark_34 rfl rfl rfl ?_
      obtain ⟨g_7, h⟩ := Ok.ofgd h
      obtain ⟨μx_2, e_μx_2, h⟩ := Ok.nm h
      refine Jm_iast C id rfl rfl g_7 e_μx_2 dX12_setMark_35 rfl ?_
      refine J_aload_n (i := 0) (p := 1) C dX12_setMark_36 rfl rfl rfl ?_
      refine Jm_getS (o2 := 4) (r2 := 2021) C fp_RX12_19 rfl rfl rfl dX12_setMark_37 rfl ?_
      refine J_iload_n (i := 1) (p := 2) C dX12_setMark_40 rfl rfl rfl ?_
      refine J_iload_n (i := 3) (p := 4) C dX12_setMark_41 rfl rfl rfl ?_
      obtain ⟨g_8, h⟩ := Ok.ofgd h
      obtain ⟨μx_3, e_μx_3, h⟩ := Ok.nm h
      refine Jm_zast C id rfl rfl g_8 e_μx_3 dX12_setMark_42 rfl ?_
      refine J_aload_n (i := 0) (p := 1) C dX12_setMark_43 rfl rfl rfl ?_
      refine J_iload (i := 4) (p := 0) C dX12_setMark_44 rfl rfl ?_
      refine Jm_cV (rest := []) (st9 := fun p_9 => [.int p_9.1]) C hR hX cv_RX12_209 rfl (Nat.le_of_ble_eq_true rfl) (k12_told hl  (Ok.ofbnd h)) rfl rfl (Nat.le_of_ble_eq_true rfl) (Nat.le_of_ble_eq_true rfl) (Nat.le_of_ble_eq_true rfl) ⟨(Nat.le_of_ble_eq_true rfl), (Nat.le_of_ble_eq_true rfl)⟩ dX12_setMark_46 rfl (fun E n9 w9 hx => JT_n hx) (fun _ => rfl) (fun p_9 h => ?_)
      have h : Ok _ _ := h
      change J X K 5 False QQ 0 0 2055 (jw K σ p_9.2 o) 49 [(4, .int x4_1), (0, .ref (K.2.2 + 2017)), (1, .int l1), (2, .int l2), (3, .int l3)] [.int p_9.1]
      rw [← hQQ]
      exact J_iret C hret (Nat.le_of_ble_eq_true rfl) (Nat.le_of_ble_eq_true rfl) ⟨_, h.osome, rfl, rfl, rfl⟩ dX12_setMark_49
    · have h := h.pos (Decidable.not_not.mp c_5)
      refine J.sub [0] rfl ?_
      exact hj_15 μ h
def f12_dropMark (μ : Sto) (l1 : Int32) : Option (Int32 × Sto) :=
  bnd (f12_isMark l1) fun p_1 =>
  if p_1 = 0 then
    bnd (f12_refuse μ (1 : Int32)) fun p_7 =>
    some (p_7.1, p_7.2)
  else
    gd (inb l1 16) <|
    stp (aI μ 2020 (Int32.toNatClampNeg l1)) fun x2_1 =>
    gd (inb l1 16) <|
    stp (uA μ 2020 (Int32.toNatClampNeg l1) (-1 : Int32)) fun μx_2 =>
    gd (inb l1 16) <|
    stp (uA μx_2 2021 (Int32.toNatClampNeg l1) (vp_nar .boolean (0 : Int32))) fun μx_3 =>
    bnd (f12_told μx_3 x2_1) fun p_6 =>
    some (p_6.1, p_6.2)
set_option maxHeartbeats 4000000 in
set_option maxRecDepth 100000 in
theorem k12_dropMark {l : Launch} {K : JK} (hl : l.stackTraces = false) {σ μ : Sto} {o : Int64} {l1 : Int32}  {Qf : Int32 × Sto → Prop} (h : Ok (f12_dropMark μ l1) Qf) : Con l K yX12_dropMark (.code yX12_dropMark cX12_dropMark 3 (some .int) :: TB) 2 0 0 False [.ref (K.2.2 + 2017), .int l1] 2055 (jw K σ μ o) (PR Qf (fun p => some (.int p.1)) (fun p => jw K σ p.2 o)) PN := by
  refine Con.enter (own := RX12) hl (by decide) rfl (Nat.le_of_ble_eq_true rfl) ?_
  intro X hX hR C hret hnt
  generalize hQQ : jQ X K 0 0 (PR Qf (fun p => some (.int p.1)) (fun p => jw K σ p.2 o)) PN False = QQ
  change J X K 3 False QQ 0 0 2055 (jw K σ μ o) 0 [(0, .ref (K.2.2 + 2017)), (1, .int l1)] []
  unfold f12_dropMark at h
  refine J_iload_n (i := 1) (p := 1) C dX12_dropMark_0 rfl rfl rfl ?_
  refine J_cS (rest := []) (st9 := fun p_1 => [.int p_1]) C hR hX cs_RX12_342 (k12_isMark hl  (Ok.ofbnd h)) rfl rfl (Nat.le_of_ble_eq_true rfl) (Nat.le_of_ble_eq_true rfl) (Nat.le_of_ble_eq_true rfl) ⟨(Nat.le_of_ble_eq_true rfl), (Nat.le_of_ble_eq_true rfl)⟩ dX12_dropMark_1 rfl (fun E n9 w9 hx => JT_n hx) (fun _ => rfl) (fun p_1 h => ?_)
  have h : Ok _ _ := h
  change J X K 3 False QQ 0 0 2055 (jw K σ μ o) 4 [(0, .ref (K.2.2 + 2017)), (1, .int l1)] [.int p_1]
  refine J_if_ne (t := 13) C dX12_dropMark_4 (by decide) rfl (fun c_2 => ?_) (fun c_2 => ?_)
  · have h := h.neg c_2
    refine J_aload_n (i := 0) (p := 0) C dX12_dropMark_13 rfl rfl rfl ?_
    refine Jm_getS (o2 := 3) (r2 := 2020) C fp_RX12_16 rfl rfl rfl dX12_dropMark_14 rfl ?_
    refine J_iload_n (i := 1) (p := 1) C dX12_dropMark_17 rfl rfl rfl ?_
    obtain ⟨g_3, h⟩ := Ok.ofgd h
    refine Jm_iald C rfl rfl g_3 dX12_dropMark_18 rfl ?_
    obtain ⟨x2_1, e_x2_1, h⟩ := Ok.nm h
    refine J_istoreE_n (i := 2) (lv' := [(2, .int x2_1), (0, .ref (K.2.2 + 2017)), (1, .int l1)]) C e_x2_1 dX12_dropMark_19 rfl (Nat.le_of_ble_eq_true rfl) rfl rfl ?_
    refine J_aload_n (i := 0) (p := 1) C dX12_dropMark_20 rfl rfl rfl ?_
    refine Jm_getS (o2 := 3) (r2 := 2020) C fp_RX12_16 rfl rfl rfl dX12_dropMark_21 rfl ?_
    refine J_iload_n (i := 1) (p := 2) C dX12_dropMark_24 rfl rfl rfl ?_
    refine J_iconst (v := -1) C (by decide) dX12_dropMark_25 rfl ?_
    obtain ⟨g_4, h⟩ := Ok.ofgd h
    obtain ⟨μx_2, e_μx_2, h⟩ := Ok.nm h
    refine Jm_iast C id rfl rfl g_4 e_μx_2 dX12_dropMark_26 rfl ?_
    refine J_aload_n (i := 0) (p := 1) C dX12_dropMark_27 rfl rfl rfl ?_
    refine Jm_getS (o2 := 4) (r2 := 2021) C fp_RX12_19 rfl rfl rfl dX12_dropMark_28 rfl ?_
    refine J_iload_n (i := 1) (p := 2) C dX12_dropMark_31 rfl rfl rfl ?_
    refine J_iconst (v := 0) C (by decide) dX12_dropMark_32 rfl ?_
    obtain ⟨g_5, h⟩ := Ok.ofgd h
    obtain ⟨μx_3, e_μx_3, h⟩ := Ok.nm h
    refine Jm_zast C id rfl rfl g_5 e_μx_3 dX12_dropMark_33 rfl ?_
    refine J_aload_n (i := 0) (p := 1) C dX12_dropMark_34 rfl rfl rfl ?_
    refine J_iload_n (i := 2) (p := 0) C dX12_dropMark_35 rfl rfl rfl ?_
    refine Jm_cV (rest := []) (st9 := fun p_6 => [.int p_6.1]) C hR hX cv_RX12_209 rfl (Nat.le_of_ble_eq_true rfl) (k12_told hl  (Ok.ofbnd h)) rfl rfl (Nat.le_of_ble_eq_true rfl) (Nat.le_of_ble_eq_true rfl) (Nat.le_of_ble_eq_true rfl) ⟨(Nat.le_of_ble_eq_true rfl), (Nat.le_of_ble_eq_true rfl)⟩ dX12_dropMark_36 rfl (fun E n9 w9 hx => JT_n hx) (fun _ => rfl) (fun p_6 h => ?_)
    have h : Ok _ _ := h
    change J X K 3 False QQ 0 0 2055 (jw K σ p_6.2 o) 39 [(2, .int x2_1), (0, .ref (K.2.2 + 2017)), (1, .int l1)] [.int p_6.1]
    rw [← hQQ]
    exact J_iret C hret (Nat.le_of_ble_eq_true rfl) (Nat.le_of_ble_eq_true rfl) ⟨_, h.osome, rfl, rfl, rfl⟩ dX12_dropMark_39
  · have h := h.pos (Decidable.not_not.mp c_2)
    refine J_aload_n (i := 0) (p := 0) C dX12_dropMark_7 rfl rfl rfl ?_
    refine J_iconst (v := 1) C (by decide) dX12_dropMark_8 rfl ?_
    refine Jm_cV (rest := []) (st9 := fun p_7 => [.int p_7.1]) C hR hX cv_RX12_206 rfl (Nat.le_of_ble_eq_true rfl) (k12_refuse hl  (Ok.ofbnd h)) rfl rfl (Nat.le_of_ble_eq_true rfl) (Nat.le_of_ble_eq_true rfl) (Nat.le_of_ble_eq_true rfl) ⟨(Nat.le_of_ble_eq_true rfl), (Nat.le_of_ble_eq_true rfl)⟩ dX12_dropMark_9 rfl (fun E n9 w9 hx => JT_n hx) (fun _ => rfl) (fun p_7 h => ?_)
    have h : Ok _ _ := h
    change J X K 3 False QQ 0 0 2055 (jw K σ p_7.2 o) 12 [(0, .ref (K.2.2 + 2017)), (1, .int l1)] [.int p_7.1]
    rw [← hQQ]
    exact J_iret C hret (Nat.le_of_ble_eq_true rfl) (Nat.le_of_ble_eq_true rfl) ⟨_, h.osome, rfl, rfl, rfl⟩ dX12_dropMark_12
def f12_markAt_j25 (l1 : Int32) (μ_25 : Sto) (s0_25 : Int32) : Option (Int32 × Sto) :=
  some (s0_25, μ_25)
def f12_markAt (μ : Sto) (l1 : Int32) : Option (Int32 × Sto) :=
  bnd (f12_isMark l1) fun p_1 =>
  if p_1 = 0 then
    bnd (f12_refuse μ (1 : Int32)) fun p_3 =>
    f12_markAt_j25 l1 p_3.2 p_3.1
  else
    gd (inb l1 16) <|
    bnd (f12_told μ (aI μ 2020 (Int32.toNatClampNeg l1))) fun p_5 =>
    f12_markAt_j25 l1 p_5.2 p_5.1
set_option maxHeartbeats 4000000 in
set_option maxRecDepth 100000 in
theorem k12_markAt {l : Launch} {K : JK} (hl : l.stackTraces = false) {σ μ : Sto} {o : Int64} {l1 : Int32}  {Qf : Int32 × Sto → Prop} (h : Ok (f12_markAt μ l1) Qf) : Con l K yX12_markAt (.code yX12_markAt cX12_markAt 2 (some .int) :: TB) 2 0 0 False [.ref (K.2.2 + 2017), .int l1] 2055 (jw K σ μ o) (PR Qf (fun p => some (.int p.1)) (fun p => jw K σ p.2 o)) PN := by
  refine Con.enter (own := RX12) hl (by decide) rfl (Nat.le_of_ble_eq_true rfl) ?_
  intro X hX hR C hret hnt
  generalize hQQ : jQ X K 0 0 (PR Qf (fun p => some (.int p.1)) (fun p => jw K σ p.2 o)) PN False = QQ
  change J X K 2 False QQ 0 0 2055 (jw K σ μ o) 0 [(0, .ref (K.2.2 + 2017)), (1, .int l1)] []
  have hj_25 : (∀ (μ_25 : Sto) (s0_25 : Int32), Ok (f12_markAt_j25 l1 μ_25 s0_25) Qf → J X K 2 False QQ 0 0 2055 (jw K σ μ_25 o) 25 [] [.int s0_25]) := by
    intro μ_25 s0_25 h
    unfold f12_markAt_j25 at h
    rw [← hQQ]
    exact J_iret C hret (Nat.le_of_ble_eq_true rfl) (Nat.le_of_ble_eq_true rfl) ⟨_, h.osome, rfl, rfl, rfl⟩ dX12_markAt_25
  unfold f12_markAt at h
  refine J_iload_n (i := 1) (p := 1) C dX12_markAt_0 rfl rfl rfl ?_
  refine J_cS (rest := []) (st9 := fun p_1 => [.int p_1]) C hR hX cs_RX12_342 (k12_isMark hl  (Ok.ofbnd h)) rfl rfl (Nat.le_of_ble_eq_true rfl) (Nat.le_of_ble_eq_true rfl) (Nat.le_of_ble_eq_true rfl) ⟨(Nat.le_of_ble_eq_true rfl), (Nat.le_of_ble_eq_true rfl)⟩ dX12_markAt_1 rfl (fun E n9 w9 hx => JT_n hx) (fun _ => rfl) (fun p_1 h => ?_)
  have h : Ok _ _ := h
  change J X K 2 False QQ 0 0 2055 (jw K σ μ o) 4 [(0, .ref (K.2.2 + 2017)), (1, .int l1)] [.int p_1]
  refine J_if_eq (t := 20) C dX12_markAt_4 (by decide) rfl (fun c_2 => ?_) (fun c_2 => ?_)
  · have h := h.pos c_2
    refine J_aload_n (i := 0) (p := 0) C dX12_markAt_20 rfl rfl rfl ?_
    refine J_iconst (v := 1) C (by decide) dX12_markAt_21 rfl ?_
    refine Jm_cV (rest := []) (st9 := fun p_3 => [.int p_3.1]) C hR hX cv_RX12_206 rfl (Nat.le_of_ble_eq_true rfl) (k12_refuse hl  (Ok.ofbnd h)) rfl rfl (Nat.le_of_ble_eq_true rfl) (Nat.le_of_ble_eq_true rfl) (Nat.le_of_ble_eq_true rfl) ⟨(Nat.le_of_ble_eq_true rfl), (Nat.le_of_ble_eq_true rfl)⟩ dX12_markAt_22 rfl (fun E n9 w9 hx => JT_n hx) (fun _ => rfl) (fun p_3 h => ?_)
    have h : Ok _ _ := h
    change J X K 2 False QQ 0 0 2055 (jw K σ p_3.2 o) 25 [(0, .ref (K.2.2 + 2017)), (1, .int l1)] [.int p_3.1]
    refine J.sub [] rfl ?_
    exact hj_25 p_3.2 p_3.1 h
  · have h := h.neg c_2
    refine J_aload_n (i := 0) (p := 0) C dX12_markAt_7 rfl rfl rfl ?_
    refine J_aload_n (i := 0) (p := 0) C dX12_markAt_8 rfl rfl rfl ?_
    refine Jm_getS (o2 := 3) (r2 := 2020) C fp_RX12_16 rfl rfl rfl dX12_markAt_9 rfl ?_
    refine J_iload_n (i := 1) (p := 1) C dX12_markAt_12 rfl rfl rfl ?_
    obtain ⟨g_4, h⟩ := Ok.ofgd h
    refine Jm_iald C rfl rfl g_4 dX12_markAt_13 rfl ?_
    refine Jm_cV (rest := []) (st9 := fun p_5 => [.int p_5.1]) C hR hX cv_RX12_209 rfl (Nat.le_of_ble_eq_true rfl) (k12_told hl  (Ok.ofbnd h)) rfl rfl (Nat.le_of_ble_eq_true rfl) (Nat.le_of_ble_eq_true rfl) (Nat.le_of_ble_eq_true rfl) ⟨(Nat.le_of_ble_eq_true rfl), (Nat.le_of_ble_eq_true rfl)⟩ dX12_markAt_14 rfl (fun E n9 w9 hx => JT_n hx) (fun _ => rfl) (fun p_5 h => ?_)
    have h : Ok _ _ := h
    change J X K 2 False QQ 0 0 2055 (jw K σ p_5.2 o) 17 [(0, .ref (K.2.2 + 2017)), (1, .int l1)] [.int p_5.1]
    refine J_goto (t := 25) C dX12_markAt_17 (by decide) ?_
    refine J.sub [] rfl ?_
    exact hj_25 p_5.2 p_5.1 h
def f12_markBeside_j125 (l1 : Int32) (l2 : Int32) (μ_19 : Sto) (l3_125 : Int32) (l4_125 : Int32) : Option ((Int32 × Int32) ⊕ Int32) :=
  stp (l4_125 + (1 : Int32)) fun x4_1 =>
  some (.inl (l3_125, x4_1))
def f12_markBeside_j122 (l1 : Int32) (l2 : Int32) (μ_19 : Sto) (l4_122 : Int32) : Option ((Int32 × Int32) ⊕ Int32) :=
  stp l4_122 fun x3_2 =>
  f12_markBeside_j125 l1 l2 μ_19 x3_2 l4_122
def f12_markBeside_j71 (l1 : Int32) (l2 : Int32) (μ_19 : Sto) (l3_71 : Int32) (l4_71 : Int32) (s0_71 : Int32) : Option ((Int32 × Int32) ⊕ Int32) :=
  stp s0_71 fun x5_3 =>
  if x5_3 = 0 then
    f12_markBeside_j125 l1 l2 μ_19 l3_71 l4_71
  else
    if l3_71 = (-1 : Int32) then
      f12_markBeside_j122 l1 l2 μ_19 l4_71
    else
      if l2 = 0 then
        gd (inb l4_71 16) <|
        gd (inb l3_71 16) <|
        if (aI μ_19 2020 (Int32.toNatClampNeg l4_71)) ≤ (aI μ_19 2020 (Int32.toNatClampNeg l3_71)) then
          f12_markBeside_j125 l1 l2 μ_19 l3_71 l4_71
        else
          f12_markBeside_j122 l1 l2 μ_19 l4_71
      else
        gd (inb l4_71 16) <|
        gd (inb l3_71 16) <|
        if (aI μ_19 2020 (Int32.toNatClampNeg l3_71)) ≤ (aI μ_19 2020 (Int32.toNatClampNeg l4_71)) then
          f12_markBeside_j125 l1 l2 μ_19 l3_71 l4_71
        else
          f12_markBeside_j122 l1 l2 μ_19 l4_71
def f12_markBeside_j70 (l1 : Int32) (l2 : Int32) (μ_19 : Sto) (l3_70 : Int32) (l4_70 : Int32) : Option ((Int32 × Int32) ⊕ Int32) :=
  f12_markBeside_j71 l1 l2 μ_19 l3_70 l4_70 (0 : Int32)
def f12_markBeside_j66 (l1 : Int32) (l2 : Int32) (μ_19 : Sto) (l3_66 : Int32) (l4_66 : Int32) : Option ((Int32 × Int32) ⊕ Int32) :=
  f12_markBeside_j71 l1 l2 μ_19 l3_66 l4_66 (1 : Int32)
def f12_markBeside_b19 (l1 : Int32) (l2 : Int32) (μ_19 : Sto) (l3_19 : Int32) (l4_19 : Int32) : Option ((Int32 × Int32) ⊕ Int32) :=
  if (16 : Int32) ≤ l4_19 then
    some (.inr l3_19)
  else
    gd (inb l4_19 16) <|
    if (aI μ_19 2020 (Int32.toNatClampNeg l4_19)) = (-1 : Int32) then
      f12_markBeside_j70 l1 l2 μ_19 l3_19 l4_19
    else
      if l2 = 0 then
        gd (inb l4_19 16) <|
        if l1 < (aI μ_19 2020 (Int32.toNatClampNeg l4_19)) then
          f12_markBeside_j70 l1 l2 μ_19 l3_19 l4_19
        else
          f12_markBeside_j66 l1 l2 μ_19 l3_19 l4_19
      else
        gd (inb l4_19 16) <|
        if (aI μ_19 2020 (Int32.toNatClampNeg l4_19)) < l1 then
          f12_markBeside_j70 l1 l2 μ_19 l3_19 l4_19
        else
          f12_markBeside_j66 l1 l2 μ_19 l3_19 l4_19
def f12_markBeside_j19 (l1 : Int32) (l2 : Int32) (μ_19 : Sto) (l3_19 : Int32) (l4_19 : Int32) : Option (Int32 × Sto) :=
  bnd (loopF (fun s_19 => f12_markBeside_b19 l1 l2 μ_19 s_19.1 s_19.2) FU (l3_19, l4_19)) fun r_19 =>
    bnd (f12_told μ_19 r_19) fun p_19 =>
    some (p_19.1, p_19.2)
def f12_markBeside (μ : Sto) (l1 : Int32) (l2 : Int32) : Option (Int32 × Sto) :=
  bnd (f12_isPlace μ l1) fun p_20 =>
  if p_20 = 0 then
    bnd (f12_refuse μ (1 : Int32)) fun p_22 =>
    some (p_22.1, p_22.2)
  else
    stp (-1 : Int32) fun x3_4 =>
    stp (0 : Int32) fun x4_5 =>
    f12_markBeside_j19 l1 l2 μ x3_4 x4_5
set_option maxHeartbeats 4000000 in
set_option maxRecDepth 100000 in
theorem k12_markBeside {l : Launch} {K : JK} (hl : l.stackTraces = false) {σ μ : Sto} {o : Int64} {l1 : Int32} {l2 : Int32}  {Qf : Int32 × Sto → Prop} (h : Ok (f12_markBeside μ l1 l2) Qf) : Con l K yX12_markBeside (.code yX12_markBeside cX12_markBeside 6 (some .int) :: TB) 2 0 0 False [.ref (K.2.2 + 2017), .int l1, .int l2] 2055 (jw K σ μ o) (PR Qf (fun p => some (.int p.1)) (fun p => jw K σ p.2 o)) PN := by
  refine Con.enter (own := RX12) hl (by decide) rfl (Nat.le_of_ble_eq_true rfl) ?_
  intro X hX hR C hret hnt
  generalize hQQ : jQ X K 0 0 (PR Qf (fun p => some (.int p.1)) (fun p => jw K σ p.2 o)) PN False = QQ
  change J X K 6 False QQ 0 0 2055 (jw K σ μ o) 0 [(0, .ref (K.2.2 + 2017)), (1, .int l1), (2, .int l2)] []
  have hj_19 : (∀ (μ_19 : Sto) (l3_19 : Int32) (l4_19 : Int32), Ok (f12_markBeside_j19 l1 l2 μ_19 l3_19 l4_19) Qf → J X K 6 False QQ 0 0 2055 (jw K σ μ_19 o) 19 [(0, .ref (K.2.2 + 2017)), (1, .int l1), (2, .int l2), (3, .int l3_19), (4, .int l4_19)] []) := by
    intro μ_19 l3_19 l4_19 h
    unfold f12_markBeside_j19 at h
    refine loop_gen (S := Int32 × Int32) (P := fun s_19 => J X K 6 False QQ 0 0 2055 (jw K σ μ_19 o) 19 [(0, .ref (K.2.2 + 2017)), (1, .int l1), (2, .int l2), (3, .int s_19.1), (4, .int s_19.2)] []) ?_ FU (l3_19, l4_19) (Ok.ofbnd h)
    intro B_19 hB_19 hE_19 s_19 h
    obtain ⟨l3_19, l4_19⟩ := s_19
    have h : Ok (f12_markBeside_b19 l1 l2 μ_19 l3_19 l4_19) B_19 := h
    change J X K 6 False QQ 0 0 2055 (jw K σ μ_19 o) 19 [(0, .ref (K.2.2 + 2017)), (1, .int l1), (2, .int l2), (3, .int l3_19), (4, .int l4_19)] []
    have hj_125 : (∀ (l3_125 : Int32) (l4_125 : Int32), Ok (f12_markBeside_j125 l1 l2 μ_19 l3_125 l4_125) B_19 → J X K 6 False QQ 0 0 2055 (jw K σ μ_19 o) 125 [(0, .ref (K.2.2 + 2017)), (1, .int l1), (2, .int l2), (3, .int l3_125), (4, .int l4_125)] []) := by
      intro l3_125 l4_125 h
      unfold f12_markBeside_j125 at h
      obtain ⟨x4_1, e_x4_1, h⟩ := Ok.nm h
      refine J_iincE (i := 4) (p := 4) (lv' := [(4, .int x4_1), (0, .ref (K.2.2 + 2017)), (1, .int l1), (2, .int l2), (3, .int l3_125)]) C e_x4_1 dX12_markBeside_125 rfl (by decide) (Nat.le_of_ble_eq_true rfl) rfl rfl ?_
      refine J_goto (t := 19) C dX12_markBeside_128 (by decide) ?_
      refine J.sub [1, 2, 3, 4, 0] rfl ?_
      exact hB_19 (l3_125, x4_1) h.osome
    have hj_122 : (∀ (l4_122 : Int32), Ok (f12_markBeside_j122 l1 l2 μ_19 l4_122) B_19 → J X K 6 False QQ 0 0 2055 (jw K σ μ_19 o) 122 [(0, .ref (K.2.2 + 2017)), (1, .int l1), (2, .int l2), (4, .int l4_122)] []) := by
      intro l4_122 h
      unfold f12_markBeside_j122 at h
      refine J_iload (i := 4) (p := 3) C dX12_markBeside_122 rfl rfl ?_
      obtain ⟨x3_2, e_x3_2, h⟩ := Ok.nm h
      refine J_istoreE_n (i := 3) (lv' := [(3, .int x3_2), (0, .ref (K.2.2 + 2017)), (1, .int l1), (2, .int l2), (4, .int l4_122)]) C e_x3_2 dX12_markBeside_124 rfl (Nat.le_of_ble_eq_true rfl) rfl rfl ?_
      refine J.sub [1, 2, 3, 0, 4] rfl ?_
      exact hj_125 x3_2 l4_122 h
    have hj_71 : (∀ (l3_71 : Int32) (l4_71 : Int32) (s0_71 : Int32), Ok (f12_markBeside_j71 l1 l2 μ_19 l3_71 l4_71 s0_71) B_19 → J X K 6 False QQ 0 0 2055 (jw K σ μ_19 o) 71 [(0, .ref (K.2.2 + 2017)), (1, .int l1), (2, .int l2), (3, .int l3_71), (4, .int l4_71)] [.int s0_71]) := by
      intro l3_71 l4_71 s0_71 h
      unfold f12_markBeside_j71 at h
      obtain ⟨x5_3, e_x5_3, h⟩ := Ok.nm h
      refine J_istoreE (i := 5) (lv' := [(5, .int x5_3), (0, .ref (K.2.2 + 2017)), (1, .int l1), (2, .int l2), (3, .int l3_71), (4, .int l4_71)]) C e_x5_3 dX12_markBeside_71 (Nat.le_of_ble_eq_true rfl) rfl rfl ?_
      refine J_iload (i := 5) (p := 0) C dX12_markBeside_73 rfl rfl ?_
      refine J_if_eq (t := 125) C dX12_markBeside_75 (by decide) rfl (fun c_1 => ?_) (fun c_1 => ?_)
      · have h := h.pos c_1
        refine J.sub [1, 2, 3, 4, 5] rfl ?_
        exact hj_125 l3_71 l4_71 h
      · have h := h.neg c_1
        refine J_iload_n (i := 3) (p := 4) C dX12_markBeside_78 rfl rfl rfl ?_
        refine J_iconst (v := -1) C (by decide) dX12_markBeside_79 rfl ?_
        refine J_icmp_eq (t := 122) C dX12_markBeside_80 (by decide) rfl (fun c_2 => ?_) (fun c_2 => ?_)
        · have h := h.pos c_2
          refine J.sub [1, 2, 3, 5] rfl ?_
          exact hj_122 l4_71 h
        · have h := h.neg c_2
          refine J_iload_n (i := 2) (p := 3) C dX12_markBeside_83 rfl rfl rfl ?_
          refine J_if_eq (t := 106) C dX12_markBeside_84 (by decide) rfl (fun c_3 => ?_) (fun c_3 => ?_)
          · have h := h.pos c_3
            refine J_aload_n (i := 0) (p := 1) C dX12_markBeside_106 rfl rfl rfl ?_
            refine Jm_getS (o2 := 3) (r2 := 2020) C fp_RX12_16 rfl rfl rfl dX12_markBeside_107 rfl ?_
            refine J_iload (i := 4) (p := 5) C dX12_markBeside_110 rfl rfl ?_
            obtain ⟨g_4, h⟩ := Ok.ofgd h
            refine Jm_iald C rfl rfl g_4 dX12_markBeside_112 rfl ?_
            refine J_aload_n (i := 0) (p := 1) C dX12_markBeside_113 rfl rfl rfl ?_
            refine Jm_getS (o2 := 3) (r2 := 2020) C fp_RX12_16 rfl rfl rfl dX12_markBeside_114 rfl ?_
            refine J_iload_n (i := 3) (p := 4) C dX12_markBeside_117 rfl rfl rfl ?_
            obtain ⟨g_5, h⟩ := Ok.ofgd h
            refine Jm_iald C rfl rfl g_5 dX12_markBeside_118 rfl ?_
            refine J_icmp_le (t := 125) C dX12_markBeside_119 (by decide) rfl (fun c_6 => ?_) (fun c_6 => ?_)
            · have h := h.pos c_6
              refine J.sub [1, 2, 3, 4, 5] rfl ?_
              exact hj_125 l3_71 l4_71 h
            · have h := h.neg c_6
              refine J.sub [1, 2, 3, 5] rfl ?_
              exact hj_122 l4_71 h
          · have h := h.neg c_3
            refine J_aload_n (i := 0) (p := 1) C dX12_markBeside_87 rfl rfl rfl ?_
            refine Jm_getS (o2 := 3) (r2 := 2020) C fp_RX12_16 rfl rfl rfl dX12_markBeside_88 rfl ?_
            refine J_iload (i := 4) (p := 5) C dX12_markBeside_91 rfl rfl ?_
            obtain ⟨g_7, h⟩ := Ok.ofgd h
            refine Jm_iald C rfl rfl g_7 dX12_markBeside_93 rfl ?_
            refine J_aload_n (i := 0) (p := 1) C dX12_markBeside_94 rfl rfl rfl ?_
            refine Jm_getS (o2 := 3) (r2 := 2020) C fp_RX12_16 rfl rfl rfl dX12_markBeside_95 rfl ?_
            refine J_iload_n (i := 3) (p := 4) C dX12_markBeside_98 rfl rfl rfl ?_
            obtain ⟨g_8, h⟩ := Ok.ofgd h
            refine Jm_iald C rfl rfl g_8 dX12_markBeside_99 rfl ?_
            refine J_icmp_ge (t := 125) C dX12_markBeside_100 (by decide) rfl (fun c_9 => ?_) (fun c_9 => ?_)
            · have h := h.pos c_9
              refine J.sub [1, 2, 3, 4, 5] rfl ?_
              exact hj_125 l3_71 l4_71 h
            · have h := h.neg c_9
              refine J_goto (t := 122) C dX12_markBeside_103 (by decide) ?_
              refine J.sub [1, 2, 3, 5] rfl ?_
              exact hj_122 l4_71 h
    have hj_70 : (∀ (l3_70 : Int32) (l4_70 : Int32), Ok (f12_markBeside_j70 l1 l2 μ_19 l3_70 l4_70) B_19 → J X K 6 False QQ 0 0 2055 (jw K σ μ_19 o) 70 [(0, .ref (K.2.2 + 2017)), (1, .int l1), (2, .int l2), (3, .int l3_70), (4, .int l4_70)] []) := by
      intro l3_70 l4_70 h
      unfold f12_markBeside_j70 at h
      refine J_iconst (v := 0) C (by decide) dX12_markBeside_70 rfl ?_
      exact hj_71 l3_70 l4_70 (0 : Int32) h
    have hj_66 : (∀ (l3_66 : Int32) (l4_66 : Int32), Ok (f12_markBeside_j66 l1 l2 μ_19 l3_66 l4_66) B_19 → J X K 6 False QQ 0 0 2055 (jw K σ μ_19 o) 66 [(0, .ref (K.2.2 + 2017)), (1, .int l1), (2, .int l2), (3, .int l3_66), (4, .int l4_66)] []) := by
      intro l3_66 l4_66 h
      unfold f12_markBeside_j66 at h
      refine J_iconst (v := 1) C (by decide) dX12_markBeside_66 rfl ?_
      refine J_goto (t := 71) C dX12_markBeside_67 (by decide) ?_
      exact hj_71 l3_66 l4_66 (1 : Int32) h
    unfold f12_markBeside_b19 at h
    refine J_iload (i := 4) (p := 4) C dX12_markBeside_19 rfl rfl ?_
    refine J_bipush (v := 16) C (by decide) dX12_markBeside_21 rfl ?_
    refine J_icmp_ge (t := 131) C dX12_markBeside_23 (by decide) rfl (fun c_10 => ?_) (fun c_10 => ?_)
    · have h := h.pos c_10
      have h := hE_19 l3_19 h.osome
      try dsimp only at h
      refine J_aload_n (i := 0) (p := 0) C dX12_markBeside_131 rfl rfl rfl ?_
      refine J_iload_n (i := 3) (p := 3) C dX12_markBeside_132 rfl rfl rfl ?_
      refine Jm_cV (rest := []) (st9 := fun p_11 => [.int p_11.1]) C hR hX cv_RX12_209 rfl (Nat.le_of_ble_eq_true rfl) (k12_told hl  (Ok.ofbnd h)) rfl rfl (Nat.le_of_ble_eq_true rfl) (Nat.le_of_ble_eq_true rfl) (Nat.le_of_ble_eq_true rfl) ⟨(Nat.le_of_ble_eq_true rfl), (Nat.le_of_ble_eq_true rfl)⟩ dX12_markBeside_133 rfl (fun E n9 w9 hx => JT_n hx) (fun _ => rfl) (fun p_11 h => ?_)
      have h : Ok _ _ := h
      change J X K 6 False QQ 0 0 2055 (jw K σ p_11.2 o) 136 [(0, .ref (K.2.2 + 2017)), (1, .int l1), (2, .int l2), (3, .int l3_19), (4, .int l4_19)] [.int p_11.1]
      rw [← hQQ]
      exact J_iret C hret (Nat.le_of_ble_eq_true rfl) (Nat.le_of_ble_eq_true rfl) ⟨_, h.osome, rfl, rfl, rfl⟩ dX12_markBeside_136
    · have h := h.neg c_10
      refine J_aload_n (i := 0) (p := 0) C dX12_markBeside_26 rfl rfl rfl ?_
      refine Jm_getS (o2 := 3) (r2 := 2020) C fp_RX12_16 rfl rfl rfl dX12_markBeside_27 rfl ?_
      refine J_iload (i := 4) (p := 4) C dX12_markBeside_30 rfl rfl ?_
      obtain ⟨g_12, h⟩ := Ok.ofgd h
      refine Jm_iald C rfl rfl g_12 dX12_markBeside_32 rfl ?_
      refine J_iconst (v := -1) C (by decide) dX12_markBeside_33 rfl ?_
      refine J_icmp_eq (t := 70) C dX12_markBeside_34 (by decide) rfl (fun c_13 => ?_) (fun c_13 => ?_)
      · have h := h.pos c_13
        exact hj_70 l3_19 l4_19 h
      · have h := h.neg c_13
        refine J_iload_n (i := 2) (p := 2) C dX12_markBeside_37 rfl rfl rfl ?_
        refine J_if_eq (t := 55) C dX12_markBeside_38 (by decide) rfl (fun c_14 => ?_) (fun c_14 => ?_)
        · have h := h.pos c_14
          refine J_aload_n (i := 0) (p := 0) C dX12_markBeside_55 rfl rfl rfl ?_
          refine Jm_getS (o2 := 3) (r2 := 2020) C fp_RX12_16 rfl rfl rfl dX12_markBeside_56 rfl ?_
          refine J_iload (i := 4) (p := 4) C dX12_markBeside_59 rfl rfl ?_
          obtain ⟨g_15, h⟩ := Ok.ofgd h
          refine Jm_iald C rfl rfl g_15 dX12_markBeside_61 rfl ?_
          refine J_iload_n (i := 1) (p := 1) C dX12_markBeside_62 rfl rfl rfl ?_
          refine J_icmp_gt (t := 70) C dX12_markBeside_63 (by decide) rfl (fun c_16 => ?_) (fun c_16 => ?_)
          · have h := h.pos c_16
            exact hj_70 l3_19 l4_19 h
          · have h := h.neg c_16
            exact hj_66 l3_19 l4_19 h
        · have h := h.neg c_14
          refine J_aload_n (i := 0) (p := 0) C dX12_markBeside_41 rfl rfl rfl ?_
          refine Jm_getS (o2 := 3) (r2 := 2020) C fp_RX12_16 rfl rfl rfl dX12_markBeside_42 rfl ?_
          refine J_iload (i := 4) (p := 4) C dX12_markBeside_45 rfl rfl ?_
          obtain ⟨g_17, h⟩ := Ok.ofgd h
          refine Jm_iald C rfl rfl g_17 dX12_markBeside_47 rfl ?_
          refine J_iload_n (i := 1) (p := 1) C dX12_markBeside_48 rfl rfl rfl ?_
          refine J_icmp_lt (t := 70) C dX12_markBeside_49 (by decide) rfl (fun c_18 => ?_) (fun c_18 => ?_)
          · have h := h.pos c_18
            exact hj_70 l3_19 l4_19 h
          · have h := h.neg c_18
            refine J_goto (t := 66) C dX12_markBeside_52 (by decide) ?_
            exact hj_66 l3_19 l4_19 h
  unfold f12_markBeside at h
  refine J_aload_n (i := 0) (p := 0) C dX12_markBeside_0 rfl rfl rfl ?_
  refine J_iload_n (i := 1) (p := 1) C dX12_markBeside_1 rfl rfl rfl ?_
  refine Jm_cV (rest := []) (st9 := fun p_20 => [.int p_20]) C hR hX cv_RX12_218 rfl (Nat.le_of_ble_eq_true rfl) (k12_isPlace hl  (Ok.ofbnd h)) rfl rfl (Nat.le_of_ble_eq_true rfl) (Nat.le_of_ble_eq_true rfl) (Nat.le_of_ble_eq_true rfl) ⟨(Nat.le_of_ble_eq_true rfl), (Nat.le_of_ble_eq_true rfl)⟩ dX12_markBeside_2 rfl (fun E n9 w9 hx => JT_n hx) (fun _ => rfl) (fun p_20 h => ?_)
  have h : Ok _ _ := h
  change J X K 6 False QQ 0 0 2055 (jw K σ μ o) 5 [(0, .ref (K.2.2 + 2017)), (1, .int l1), (2, .int l2)] [.int p_20]
  refine J_if_ne (t := 14) C dX12_markBeside_5 (by decide) rfl (fun c_21 => ?_) (fun c_21 => ?_)
  · have h := h.neg c_21
    refine J_iconst (v := -1) C (by decide) dX12_markBeside_14 rfl ?_
    obtain ⟨x3_4, e_x3_4, h⟩ := Ok.nm h
    refine J_istoreE_n (i := 3) (lv' := [(3, .int x3_4), (0, .ref (K.2.2 + 2017)), (1, .int l1), (2, .int l2)]) C e_x3_4 dX12_markBeside_15 rfl (Nat.le_of_ble_eq_true rfl) rfl rfl ?_
    refine J_iconst (v := 0) C (by decide) dX12_markBeside_16 rfl ?_
    obtain ⟨x4_5, e_x4_5, h⟩ := Ok.nm h
    refine J_istoreE (i := 4) (lv' := [(4, .int x4_5), (3, .int x3_4), (0, .ref (K.2.2 + 2017)), (1, .int l1), (2, .int l2)]) C e_x4_5 dX12_markBeside_17 (Nat.le_of_ble_eq_true rfl) rfl rfl ?_
    refine J.sub [2, 3, 4, 1, 0] rfl ?_
    exact hj_19 μ x3_4 x4_5 h
  · have h := h.pos (Decidable.not_not.mp c_21)
    refine J_aload_n (i := 0) (p := 0) C dX12_markBeside_8 rfl rfl rfl ?_
    refine J_iconst (v := 1) C (by decide) dX12_markBeside_9 rfl ?_
    refine Jm_cV (rest := []) (st9 := fun p_22 => [.int p_22.1]) C hR hX cv_RX12_206 rfl (Nat.le_of_ble_eq_true rfl) (k12_refuse hl  (Ok.ofbnd h)) rfl rfl (Nat.le_of_ble_eq_true rfl) (Nat.le_of_ble_eq_true rfl) (Nat.le_of_ble_eq_true rfl) ⟨(Nat.le_of_ble_eq_true rfl), (Nat.le_of_ble_eq_true rfl)⟩ dX12_markBeside_10 rfl (fun E n9 w9 hx => JT_n hx) (fun _ => rfl) (fun p_22 h => ?_)
    have h : Ok _ _ := h
    change J X K 6 False QQ 0 0 2055 (jw K σ p_22.2 o) 13 [(0, .ref (K.2.2 + 2017)), (1, .int l1), (2, .int l2)] [.int p_22.1]
    rw [← hQQ]
    exact J_iret C hret (Nat.le_of_ble_eq_true rfl) (Nat.le_of_ble_eq_true rfl) ⟨_, h.osome, rfl, rfl, rfl⟩ dX12_markBeside_13
def f12_fold_b79 (l1 : Int32) (l2 : Int32) (μ_79 : Sto) (l3_79 : Int32) : Option ((Sto × Int32) ⊕ Sto) :=
  if l2 < l3_79 then
    some (.inr μ_79)
  else
    gd (inb l3_79 301) <|
    stp (uA μ_79 2022 (Int32.toNatClampNeg l3_79) (vp_nar .boolean (1 : Int32))) fun μx_1 =>
    stp (l3_79 + (1 : Int32)) fun x3_2 =>
    some (.inl (μx_1, x3_2))
def f12_fold_j79 (l1 : Int32) (l2 : Int32) (μ_79 : Sto) (l3_79 : Int32) : Option (Int32 × Sto) :=
  bnd (loopF (fun s_79 => f12_fold_b79 l1 l2 s_79.1 s_79.2) FU (μ_79, l3_79)) fun r_79 =>
    bnd (f12_hiddenMany r_79) fun p_5 =>
    bnd (f12_told r_79 p_5) fun p_6 =>
    some (p_6.1, p_6.2)
def f12_fold_b35 (l1 : Int32) (l2 : Int32) (μ_35 : Sto) (l3_35 : Int32) : Option (Int32 ⊕ (Unit ⊕ Unit)) :=
  if (fI μ_35 2017 6) ≤ l3_35 then
    some (.inr (Sum.inl ()))
  else
    gd (inb l3_35 8) <|
    bnd (f12_lineAt μ_35 (aI μ_35 2019 (Int32.toNatClampNeg l3_35))) fun p_9 =>
    bnd (f12_in p_9 (l1 + (1 : Int32)) l2) fun p_10 =>
    if p_10 = 0 then
      stp (l3_35 + (1 : Int32)) fun x3_4 =>
      some (.inl x3_4)
    else
      some (.inr (Sum.inr ()))
def f12_fold_j35 (l1 : Int32) (l2 : Int32) (μ_35 : Sto) (l3_35 : Int32) : Option (Int32 × Sto) :=
  bnd (loopF (fun s_35 => f12_fold_b35 l1 l2 μ_35 s_35) FU l3_35) fun r_35 =>
    match r_35 with
    | .inl r_35x =>
      stp (l1 + (1 : Int32)) fun x3_5 =>
      f12_fold_j79 l1 l2 μ_35 x3_5
    | .inr r_35y =>
      bnd (f12_refuse μ_35 (3 : Int32)) fun p_13 =>
      some (p_13.1, p_13.2)
def f12_fold_j16 (l1 : Int32) (l2 : Int32) (μ_16 : Sto) : Option (Int32 × Sto) :=
  bnd (f12_refuse μ_16 (1 : Int32)) fun p_14 =>
  some (p_14.1, p_14.2)
def f12_fold (μ : Sto) (l1 : Int32) (l2 : Int32) : Option (Int32 × Sto) :=
  bnd (f12_isLine μ l1) fun p_15 =>
  if p_15 = 0 then
    f12_fold_j16 l1 l2 μ
  else
    bnd (f12_isLine μ l2) fun p_17 =>
    if p_17 = 0 then
      f12_fold_j16 l1 l2 μ
    else
      if l1 < l2 then
        stp (0 : Int32) fun x3_6 =>
        f12_fold_j35 l1 l2 μ x3_6
      else
        bnd (f12_refuse μ (2 : Int32)) fun p_20 =>
        some (p_20.1, p_20.2)
set_option maxHeartbeats 4000000 in
set_option maxRecDepth 100000 in
theorem k12_fold {l : Launch} {K : JK} (hl : l.stackTraces = false) {σ μ : Sto} {o : Int64} {l1 : Int32} {l2 : Int32}  {Qf : Int32 × Sto → Prop} (h : Ok (f12_fold μ l1 l2) Qf) : Con l K yX12_fold (.code yX12_fold cX12_fold 4 (some .int) :: TB) 2 0 0 False [.ref (K.2.2 + 2017), .int l1, .int l2] 2055 (jw K σ μ o) (PR Qf (fun p => some (.int p.1)) (fun p => jw K σ p.2 o)) PN := by
  refine Con.enter (own := RX12) hl (by decide) rfl (Nat.le_of_ble_eq_true rfl) ?_
  intro X hX hR C hret hnt
  generalize hQQ : jQ X K 0 0 (PR Qf (fun p => some (.int p.1)) (fun p => jw K σ p.2 o)) PN False = QQ
  change J X K 4 False QQ 0 0 2055 (jw K σ μ o) 0 [(0, .ref (K.2.2 + 2017)), (1, .int l1), (2, .int l2)] []
  have hj_79 : (∀ (μ_79 : Sto) (l3_79 : Int32), Ok (f12_fold_j79 l1 l2 μ_79 l3_79) Qf → J X K 4 False QQ 0 0 2055 (jw K σ μ_79 o) 79 [(0, .ref (K.2.2 + 2017)), (2, .int l2), (3, .int l3_79)] []) := by
    intro μ_79 l3_79 h
    unfold f12_fold_j79 at h
    refine loop_gen (S := Sto × Int32) (P := fun s_79 => J X K 4 False QQ 0 0 2055 (jw K σ s_79.1 o) 79 [(0, .ref (K.2.2 + 2017)), (2, .int l2), (3, .int s_79.2)] []) ?_ FU (μ_79, l3_79) (Ok.ofbnd h)
    intro B_79 hB_79 hE_79 s_79 h
    obtain ⟨μ_79, l3_79⟩ := s_79
    have h : Ok (f12_fold_b79 l1 l2 μ_79 l3_79) B_79 := h
    change J X K 4 False QQ 0 0 2055 (jw K σ μ_79 o) 79 [(0, .ref (K.2.2 + 2017)), (2, .int l2), (3, .int l3_79)] []
    unfold f12_fold_b79 at h
    refine J_iload_n (i := 3) (p := 2) C dX12_fold_79 rfl rfl rfl ?_
    refine J_iload_n (i := 2) (p := 1) C dX12_fold_80 rfl rfl rfl ?_
    refine J_icmp_gt (t := 97) C dX12_fold_81 (by decide) rfl (fun c_1 => ?_) (fun c_1 => ?_)
    · have h := h.pos c_1
      have h := hE_79 μ_79 h.osome
      try dsimp only at h
      refine J_aload_n (i := 0) (p := 0) C dX12_fold_97 rfl rfl rfl ?_
      refine J_aload_n (i := 0) (p := 0) C dX12_fold_98 rfl rfl rfl ?_
      refine Jm_cV (rest := [.ref (K.2.2 + 2017)]) (st9 := fun p_2 => [.int p_2, .ref (K.2.2 + 2017)]) C hR hX cv_RX12_345 rfl (Nat.le_of_ble_eq_true rfl) (k12_hiddenMany hl  (Ok.ofbnd h)) rfl rfl (Nat.le_of_ble_eq_true rfl) (Nat.le_of_ble_eq_true rfl) (Nat.le_of_ble_eq_true rfl) ⟨(Nat.le_of_ble_eq_true rfl), (Nat.le_of_ble_eq_true rfl)⟩ dX12_fold_99 rfl (fun E n9 w9 hx => JT_n hx) (fun _ => rfl) (fun p_2 h => ?_)
      have h : Ok _ _ := h
      change J X K 4 False QQ 0 0 2055 (jw K σ μ_79 o) 102 [(0, .ref (K.2.2 + 2017)), (2, .int l2), (3, .int l3_79)] [.int p_2, .ref (K.2.2 + 2017)]
      refine Jm_cV (rest := []) (st9 := fun p_3 => [.int p_3.1]) C hR hX cv_RX12_209 rfl (Nat.le_of_ble_eq_true rfl) (k12_told hl  (Ok.ofbnd h)) rfl rfl (Nat.le_of_ble_eq_true rfl) (Nat.le_of_ble_eq_true rfl) (Nat.le_of_ble_eq_true rfl) ⟨(Nat.le_of_ble_eq_true rfl), (Nat.le_of_ble_eq_true rfl)⟩ dX12_fold_102 rfl (fun E n9 w9 hx => JT_n hx) (fun _ => rfl) (fun p_3 h => ?_)
      have h : Ok _ _ := h
      change J X K 4 False QQ 0 0 2055 (jw K σ p_3.2 o) 105 [(0, .ref (K.2.2 + 2017)), (2, .int l2), (3, .int l3_79)] [.int p_3.1]
      rw [← hQQ]
      exact J_iret C hret (Nat.le_of_ble_eq_true rfl) (Nat.le_of_ble_eq_true rfl) ⟨_, h.osome, rfl, rfl, rfl⟩ dX12_fold_105
    · have h := h.neg c_1
      refine J_aload_n (i := 0) (p := 0) C dX12_fold_84 rfl rfl rfl ?_
      refine Jm_getS (o2 := 5) (r2 := 2022) C fp_RX12_23 rfl rfl rfl dX12_fold_85 rfl ?_
      refine J_iload_n (i := 3) (p := 2) C dX12_fold_88 rfl rfl rfl ?_
      refine J_iconst (v := 1) C (by decide) dX12_fold_89 rfl ?_
      obtain ⟨g_4, h⟩ := Ok.ofgd h
      obtain ⟨μx_1, e_μx_1, h⟩ := Ok.nm h
      refine Jm_zast C id rfl rfl g_4 e_μx_1 dX12_fold_90 rfl ?_
      obtain ⟨x3_2, e_x3_2, h⟩ := Ok.nm h
      refine J_iincE (i := 3) (p := 2) (lv' := [(3, .int x3_2), (0, .ref (K.2.2 + 2017)), (2, .int l2)]) C e_x3_2 dX12_fold_91 rfl (by decide) (Nat.le_of_ble_eq_true rfl) rfl rfl ?_
      refine J_goto (t := 79) C dX12_fold_94 (by decide) ?_
      refine J.sub [1, 2, 0] rfl ?_
      exact hB_79 (μx_1, x3_2) h.osome
  have hj_35 : (∀ (μ_35 : Sto) (l3_35 : Int32), Ok (f12_fold_j35 l1 l2 μ_35 l3_35) Qf → J X K 4 False QQ 0 0 2055 (jw K σ μ_35 o) 35 [(0, .ref (K.2.2 + 2017)), (1, .int l1), (2, .int l2), (3, .int l3_35)] []) := by
    intro μ_35 l3_35 h
    unfold f12_fold_j35 at h
    refine loop_gen (S := Int32) (P := fun s_35 => J X K 4 False QQ 0 0 2055 (jw K σ μ_35 o) 35 [(0, .ref (K.2.2 + 2017)), (1, .int l1), (2, .int l2), (3, .int s_35)] []) ?_ FU l3_35 (Ok.ofbnd h)
    intro B_35 hB_35 hE_35 s_35 h
    generalize s_35 = l3_35 at h ⊢
    have h : Ok (f12_fold_b35 l1 l2 μ_35 l3_35) B_35 := h
    change J X K 4 False QQ 0 0 2055 (jw K σ μ_35 o) 35 [(0, .ref (K.2.2 + 2017)), (1, .int l1), (2, .int l2), (3, .int l3_35)] []
    unfold f12_fold_b35 at h
    refine J_iload_n (i := 3) (p := 3) C dX12_fold_35 rfl rfl rfl ?_
    refine J_aload_n (i := 0) (p := 0) C dX12_fold_36 rfl rfl rfl ?_
    refine Jm_getI C fp_RX12_26 rfl rfl dX12_fold_37 rfl ?_
    refine J_icmp_ge (t := 75) C dX12_fold_40 (by decide) rfl (fun c_7 => ?_) (fun c_7 => ?_)
    · have h := h.pos c_7
      have h := hE_35 (Sum.inl ()) h.osome
      try dsimp only at h
      refine J_iload_n (i := 1) (p := 1) C dX12_fold_75 rfl rfl rfl ?_
      refine J_iconst (v := 1) C (by decide) dX12_fold_76 rfl ?_
      refine J_iadd C dX12_fold_77 rfl ?_
      obtain ⟨x3_3, e_x3_3, h⟩ := Ok.nm h
      refine J_istoreE_n (i := 3) (lv' := [(3, .int x3_3), (0, .ref (K.2.2 + 2017)), (1, .int l1), (2, .int l2)]) C e_x3_3 dX12_fold_78 rfl (Nat.le_of_ble_eq_true rfl) rfl rfl ?_
      refine J.sub [1, 3, 0] rfl ?_
      exact hj_79 μ_35 x3_3 h
    · have h := h.neg c_7
      refine J_aload_n (i := 0) (p := 0) C dX12_fold_43 rfl rfl rfl ?_
      refine J_aload_n (i := 0) (p := 0) C dX12_fold_44 rfl rfl rfl ?_
      refine Jm_getS (o2 := 2) (r2 := 2019) C fp_RX12_13 rfl rfl rfl dX12_fold_45 rfl ?_
      refine J_iload_n (i := 3) (p := 3) C dX12_fold_48 rfl rfl rfl ?_
      obtain ⟨g_8, h⟩ := Ok.ofgd h
      refine Jm_iald C rfl rfl g_8 dX12_fold_49 rfl ?_
      refine Jm_cV (rest := []) (st9 := fun p_9 => [.int p_9]) C hR hX cv_RX12_149 rfl (Nat.le_of_ble_eq_true rfl) (k12_lineAt hl  (Ok.ofbnd h)) rfl rfl (Nat.le_of_ble_eq_true rfl) (Nat.le_of_ble_eq_true rfl) (Nat.le_of_ble_eq_true rfl) ⟨(Nat.le_of_ble_eq_true rfl), (Nat.le_of_ble_eq_true rfl)⟩ dX12_fold_50 rfl (fun E n9 w9 hx => JT_n hx) (fun _ => rfl) (fun p_9 h => ?_)
      have h : Ok _ _ := h
      change J X K 4 False QQ 0 0 2055 (jw K σ μ_35 o) 53 [(0, .ref (K.2.2 + 2017)), (1, .int l1), (2, .int l2), (3, .int l3_35)] [.int p_9]
      refine J_iload_n (i := 1) (p := 1) C dX12_fold_53 rfl rfl rfl ?_
      refine J_iconst (v := 1) C (by decide) dX12_fold_54 rfl ?_
      refine J_iadd C dX12_fold_55 rfl ?_
      refine J_iload_n (i := 2) (p := 2) C dX12_fold_56 rfl rfl rfl ?_
      refine J_cS (rest := []) (st9 := fun p_10 => [.int p_10]) C hR hX cs_RX12_134 (k12_in hl  (Ok.ofbnd h)) rfl rfl (Nat.le_of_ble_eq_true rfl) (Nat.le_of_ble_eq_true rfl) (Nat.le_of_ble_eq_true rfl) ⟨(Nat.le_of_ble_eq_true rfl), (Nat.le_of_ble_eq_true rfl)⟩ dX12_fold_57 rfl (fun E n9 w9 hx => JT_n hx) (fun _ => rfl) (fun p_10 h => ?_)
      have h : Ok _ _ := h
      change J X K 4 False QQ 0 0 2055 (jw K σ μ_35 o) 60 [(0, .ref (K.2.2 + 2017)), (1, .int l1), (2, .int l2), (3, .int l3_35)] [.int p_10]
      refine J_if_eq (t := 69) C dX12_fold_60 (by decide) rfl (fun c_11 => ?_) (fun c_11 => ?_)
      · have h := h.pos c_11
        obtain ⟨x3_4, e_x3_4, h⟩ := Ok.nm h
        refine J_iincE (i := 3) (p := 3) (lv' := [(3, .int x3_4), (0, .ref (K.2.2 + 2017)), (1, .int l1), (2, .int l2)]) C e_x3_4 dX12_fold_69 rfl (by decide) (Nat.le_of_ble_eq_true rfl) rfl rfl ?_
        refine J_goto (t := 35) C dX12_fold_72 (by decide) ?_
        refine J.sub [1, 2, 3, 0] rfl ?_
        exact hB_35 x3_4 h.osome
      · have h := h.neg c_11
        have h := hE_35 (Sum.inr ()) h.osome
        try dsimp only at h
        refine J_aload_n (i := 0) (p := 0) C dX12_fold_63 rfl rfl rfl ?_
        refine J_iconst (v := 3) C (by decide) dX12_fold_64 rfl ?_
        refine Jm_cV (rest := []) (st9 := fun p_12 => [.int p_12.1]) C hR hX cv_RX12_206 rfl (Nat.le_of_ble_eq_true rfl) (k12_refuse hl  (Ok.ofbnd h)) rfl rfl (Nat.le_of_ble_eq_true rfl) (Nat.le_of_ble_eq_true rfl) (Nat.le_of_ble_eq_true rfl) ⟨(Nat.le_of_ble_eq_true rfl), (Nat.le_of_ble_eq_true rfl)⟩ dX12_fold_65 rfl (fun E n9 w9 hx => JT_n hx) (fun _ => rfl) (fun p_12 h => ?_)
        have h : Ok _ _ := h
        change J X K 4 False QQ 0 0 2055 (jw K σ p_12.2 o) 68 [(0, .ref (K.2.2 + 2017)), (1, .int l1), (2, .int l2), (3, .int l3_35)] [.int p_12.1]
        rw [← hQQ]
        exact J_iret C hret (Nat.le_of_ble_eq_true rfl) (Nat.le_of_ble_eq_true rfl) ⟨_, h.osome, rfl, rfl, rfl⟩ dX12_fold_68
  have hj_16 : (∀ (μ_16 : Sto), Ok (f12_fold_j16 l1 l2 μ_16) Qf → J X K 4 False QQ 0 0 2055 (jw K σ μ_16 o) 16 [(0, .ref (K.2.2 + 2017))] []) := by
    intro μ_16 h
    unfold f12_fold_j16 at h
    refine J_aload_n (i := 0) (p := 0) C dX12_fold_16 rfl rfl rfl ?_
    refine J_iconst (v := 1) C (by decide) dX12_fold_17 rfl ?_
    refine Jm_cV (rest := []) (st9 := fun p_14 => [.int p_14.1]) C hR hX cv_RX12_206 rfl (Nat.le_of_ble_eq_true rfl) (k12_refuse hl  (Ok.ofbnd h)) rfl rfl (Nat.le_of_ble_eq_true rfl) (Nat.le_of_ble_eq_true rfl) (Nat.le_of_ble_eq_true rfl) ⟨(Nat.le_of_ble_eq_true rfl), (Nat.le_of_ble_eq_true rfl)⟩ dX12_fold_18 rfl (fun E n9 w9 hx => JT_n hx) (fun _ => rfl) (fun p_14 h => ?_)
    have h : Ok _ _ := h
    change J X K 4 False QQ 0 0 2055 (jw K σ p_14.2 o) 21 [(0, .ref (K.2.2 + 2017))] [.int p_14.1]
    rw [← hQQ]
    exact J_iret C hret (Nat.le_of_ble_eq_true rfl) (Nat.le_of_ble_eq_true rfl) ⟨_, h.osome, rfl, rfl, rfl⟩ dX12_fold_21
  unfold f12_fold at h
  refine J_aload_n (i := 0) (p := 0) C dX12_fold_0 rfl rfl rfl ?_
  refine J_iload_n (i := 1) (p := 1) C dX12_fold_1 rfl rfl rfl ?_
  refine Jm_cV (rest := []) (st9 := fun p_15 => [.int p_15]) C hR hX cv_RX12_225 rfl (Nat.le_of_ble_eq_true rfl) (k12_isLine hl  (Ok.ofbnd h)) rfl rfl (Nat.le_of_ble_eq_true rfl) (Nat.le_of_ble_eq_true rfl) (Nat.le_of_ble_eq_true rfl) ⟨(Nat.le_of_ble_eq_true rfl), (Nat.le_of_ble_eq_true rfl)⟩ dX12_fold_2 rfl (fun E n9 w9 hx => JT_n hx) (fun _ => rfl) (fun p_15 h => ?_)
  have h : Ok _ _ := h
  change J X K 4 False QQ 0 0 2055 (jw K σ μ o) 5 [(0, .ref (K.2.2 + 2017)), (1, .int l1), (2, .int l2)] [.int p_15]
  refine J_if_eq (t := 16) C dX12_fold_5 (by decide) rfl (fun c_16 => ?_) (fun c_16 => ?_)
  · have h := h.pos c_16
    refine J.sub [0] rfl ?_
    exact hj_16 μ h
  · have h := h.neg c_16
    refine J_aload_n (i := 0) (p := 0) C dX12_fold_8 rfl rfl rfl ?_
    refine J_iload_n (i := 2) (p := 2) C dX12_fold_9 rfl rfl rfl ?_
    refine Jm_cV (rest := []) (st9 := fun p_17 => [.int p_17]) C hR hX cv_RX12_225 rfl (Nat.le_of_ble_eq_true rfl) (k12_isLine hl  (Ok.ofbnd h)) rfl rfl (Nat.le_of_ble_eq_true rfl) (Nat.le_of_ble_eq_true rfl) (Nat.le_of_ble_eq_true rfl) ⟨(Nat.le_of_ble_eq_true rfl), (Nat.le_of_ble_eq_true rfl)⟩ dX12_fold_10 rfl (fun E n9 w9 hx => JT_n hx) (fun _ => rfl) (fun p_17 h => ?_)
    have h : Ok _ _ := h
    change J X K 4 False QQ 0 0 2055 (jw K σ μ o) 13 [(0, .ref (K.2.2 + 2017)), (1, .int l1), (2, .int l2)] [.int p_17]
    refine J_if_ne (t := 22) C dX12_fold_13 (by decide) rfl (fun c_18 => ?_) (fun c_18 => ?_)
    · have h := h.neg c_18
      refine J_iload_n (i := 1) (p := 1) C dX12_fold_22 rfl rfl rfl ?_
      refine J_iload_n (i := 2) (p := 2) C dX12_fold_23 rfl rfl rfl ?_
      refine J_icmp_lt (t := 33) C dX12_fold_24 (by decide) rfl (fun c_19 => ?_) (fun c_19 => ?_)
      · have h := h.pos c_19
        refine J_iconst (v := 0) C (by decide) dX12_fold_33 rfl ?_
        obtain ⟨x3_6, e_x3_6, h⟩ := Ok.nm h
        refine J_istoreE_n (i := 3) (lv' := [(3, .int x3_6), (0, .ref (K.2.2 + 2017)), (1, .int l1), (2, .int l2)]) C e_x3_6 dX12_fold_34 rfl (Nat.le_of_ble_eq_true rfl) rfl rfl ?_
        refine J.sub [1, 2, 3, 0] rfl ?_
        exact hj_35 μ x3_6 h
      · have h := h.neg c_19
        refine J_aload_n (i := 0) (p := 0) C dX12_fold_27 rfl rfl rfl ?_
        refine J_iconst (v := 2) C (by decide) dX12_fold_28 rfl ?_
        refine Jm_cV (rest := []) (st9 := fun p_20 => [.int p_20.1]) C hR hX cv_RX12_206 rfl (Nat.le_of_ble_eq_true rfl) (k12_refuse hl  (Ok.ofbnd h)) rfl rfl (Nat.le_of_ble_eq_true rfl) (Nat.le_of_ble_eq_true rfl) (Nat.le_of_ble_eq_true rfl) ⟨(Nat.le_of_ble_eq_true rfl), (Nat.le_of_ble_eq_true rfl)⟩ dX12_fold_29 rfl (fun E n9 w9 hx => JT_n hx) (fun _ => rfl) (fun p_20 h => ?_)
        have h : Ok _ _ := h
        change J X K 4 False QQ 0 0 2055 (jw K σ p_20.2 o) 32 [(0, .ref (K.2.2 + 2017)), (1, .int l1), (2, .int l2)] [.int p_20.1]
        rw [← hQQ]
        exact J_iret C hret (Nat.le_of_ble_eq_true rfl) (Nat.le_of_ble_eq_true rfl) ⟨_, h.osome, rfl, rfl, rfl⟩ dX12_fold_32
    · have h := h.pos (Decidable.not_not.mp c_18)
      refine J.sub [0] rfl ?_
      exact hj_16 μ h
def f12_unfold_j25 (l1 : Int32) (μ_25 : Sto) (s0_25 : Int32) : Option (Int32 × Sto) :=
  some (s0_25, μ_25)
def f12_unfold (μ : Sto) (l1 : Int32) : Option (Int32 × Sto) :=
  bnd (f12_isLine μ l1) fun p_1 =>
  if p_1 = 0 then
    bnd (f12_refuse μ (1 : Int32)) fun p_3 =>
    f12_unfold_j25 l1 p_3.2 p_3.1
  else
    bnd (f12_opens μ l1) fun p_4 =>
    bnd (f12_told p_4.2 p_4.1) fun p_5 =>
    f12_unfold_j25 l1 p_5.2 p_5.1
set_option maxHeartbeats 4000000 in
set_option maxRecDepth 100000 in
theorem k12_unfold {l : Launch} {K : JK} (hl : l.stackTraces = false) {σ μ : Sto} {o : Int64} {l1 : Int32}  {Qf : Int32 × Sto → Prop} (h : Ok (f12_unfold μ l1) Qf) : Con l K yX12_unfold (.code yX12_unfold cX12_unfold 2 (some .int) :: TB) 2 0 0 False [.ref (K.2.2 + 2017), .int l1] 2055 (jw K σ μ o) (PR Qf (fun p => some (.int p.1)) (fun p => jw K σ p.2 o)) PN := by
  refine Con.enter (own := RX12) hl (by decide) rfl (Nat.le_of_ble_eq_true rfl) ?_
  intro X hX hR C hret hnt
  generalize hQQ : jQ X K 0 0 (PR Qf (fun p => some (.int p.1)) (fun p => jw K σ p.2 o)) PN False = QQ
  change J X K 2 False QQ 0 0 2055 (jw K σ μ o) 0 [(0, .ref (K.2.2 + 2017)), (1, .int l1)] []
  have hj_25 : (∀ (μ_25 : Sto) (s0_25 : Int32), Ok (f12_unfold_j25 l1 μ_25 s0_25) Qf → J X K 2 False QQ 0 0 2055 (jw K σ μ_25 o) 25 [] [.int s0_25]) := by
    intro μ_25 s0_25 h
    unfold f12_unfold_j25 at h
    rw [← hQQ]
    exact J_iret C hret (Nat.le_of_ble_eq_true rfl) (Nat.le_of_ble_eq_true rfl) ⟨_, h.osome, rfl, rfl, rfl⟩ dX12_unfold_25
  unfold f12_unfold at h
  refine J_aload_n (i := 0) (p := 0) C dX12_unfold_0 rfl rfl rfl ?_
  refine J_iload_n (i := 1) (p := 1) C dX12_unfold_1 rfl rfl rfl ?_
  refine Jm_cV (rest := []) (st9 := fun p_1 => [.int p_1]) C hR hX cv_RX12_225 rfl (Nat.le_of_ble_eq_true rfl) (k12_isLine hl  (Ok.ofbnd h)) rfl rfl (Nat.le_of_ble_eq_true rfl) (Nat.le_of_ble_eq_true rfl) (Nat.le_of_ble_eq_true rfl) ⟨(Nat.le_of_ble_eq_true rfl), (Nat.le_of_ble_eq_true rfl)⟩ dX12_unfold_2 rfl (fun E n9 w9 hx => JT_n hx) (fun _ => rfl) (fun p_1 h => ?_)
  have h : Ok _ _ := h
  change J X K 2 False QQ 0 0 2055 (jw K σ μ o) 5 [(0, .ref (K.2.2 + 2017)), (1, .int l1)] [.int p_1]
  refine J_if_eq (t := 20) C dX12_unfold_5 (by decide) rfl (fun c_2 => ?_) (fun c_2 => ?_)
  · have h := h.pos c_2
    refine J_aload_n (i := 0) (p := 0) C dX12_unfold_20 rfl rfl rfl ?_
    refine J_iconst (v := 1) C (by decide) dX12_unfold_21 rfl ?_
    refine Jm_cV (rest := []) (st9 := fun p_3 => [.int p_3.1]) C hR hX cv_RX12_206 rfl (Nat.le_of_ble_eq_true rfl) (k12_refuse hl  (Ok.ofbnd h)) rfl rfl (Nat.le_of_ble_eq_true rfl) (Nat.le_of_ble_eq_true rfl) (Nat.le_of_ble_eq_true rfl) ⟨(Nat.le_of_ble_eq_true rfl), (Nat.le_of_ble_eq_true rfl)⟩ dX12_unfold_22 rfl (fun E n9 w9 hx => JT_n hx) (fun _ => rfl) (fun p_3 h => ?_)
    have h : Ok _ _ := h
    change J X K 2 False QQ 0 0 2055 (jw K σ p_3.2 o) 25 [(0, .ref (K.2.2 + 2017)), (1, .int l1)] [.int p_3.1]
    refine J.sub [] rfl ?_
    exact hj_25 p_3.2 p_3.1 h
  · have h := h.neg c_2
    refine J_aload_n (i := 0) (p := 0) C dX12_unfold_8 rfl rfl rfl ?_
    refine J_aload_n (i := 0) (p := 0) C dX12_unfold_9 rfl rfl rfl ?_
    refine J_iload_n (i := 1) (p := 1) C dX12_unfold_10 rfl rfl rfl ?_
    refine Jm_cV (rest := [.ref (K.2.2 + 2017)]) (st9 := fun p_4 => [.int p_4.1, .ref (K.2.2 + 2017)]) C hR hX cv_RX12_152 rfl (Nat.le_of_ble_eq_true rfl) (k12_opens hl  (Ok.ofbnd h)) rfl rfl (Nat.le_of_ble_eq_true rfl) (Nat.le_of_ble_eq_true rfl) (Nat.le_of_ble_eq_true rfl) ⟨(Nat.le_of_ble_eq_true rfl), (Nat.le_of_ble_eq_true rfl)⟩ dX12_unfold_11 rfl (fun E n9 w9 hx => JT_n hx) (fun _ => rfl) (fun p_4 h => ?_)
    have h : Ok _ _ := h
    change J X K 2 False QQ 0 0 2055 (jw K σ p_4.2 o) 14 [(0, .ref (K.2.2 + 2017)), (1, .int l1)] [.int p_4.1, .ref (K.2.2 + 2017)]
    refine Jm_cV (rest := []) (st9 := fun p_5 => [.int p_5.1]) C hR hX cv_RX12_209 rfl (Nat.le_of_ble_eq_true rfl) (k12_told hl  (Ok.ofbnd h)) rfl rfl (Nat.le_of_ble_eq_true rfl) (Nat.le_of_ble_eq_true rfl) (Nat.le_of_ble_eq_true rfl) ⟨(Nat.le_of_ble_eq_true rfl), (Nat.le_of_ble_eq_true rfl)⟩ dX12_unfold_14 rfl (fun E n9 w9 hx => JT_n hx) (fun _ => rfl) (fun p_5 h => ?_)
    have h : Ok _ _ := h
    change J X K 2 False QQ 0 0 2055 (jw K σ p_5.2 o) 17 [(0, .ref (K.2.2 + 2017)), (1, .int l1)] [.int p_5.1]
    refine J_goto (t := 25) C dX12_unfold_17 (by decide) ?_
    refine J.sub [] rfl ?_
    exact hj_25 p_5.2 p_5.1 h
def f12_isHidden_j26 (l1 : Int32) (μ_26 : Sto) (s0_26 : Int32) : Option (Int32 × Sto) :=
  gd (isB s0_26) <|
  some (s0_26, μ_26)
def f12_isHidden (μ : Sto) (l1 : Int32) : Option (Int32 × Sto) :=
  bnd (f12_isLine μ l1) fun p_2 =>
  if p_2 = 0 then
    bnd (f12_denies μ (1 : Int32)) fun p_4 =>
    f12_isHidden_j26 l1 p_4.2 p_4.1
  else
    gd (inb l1 301) <|
    bnd (f12_says μ (aI μ 2022 (Int32.toNatClampNeg l1))) fun p_6 =>
    f12_isHidden_j26 l1 p_6.2 p_6.1
set_option maxHeartbeats 4000000 in
set_option maxRecDepth 100000 in
theorem k12_isHidden {l : Launch} {K : JK} (hl : l.stackTraces = false) {σ μ : Sto} {o : Int64} {l1 : Int32}  {Qf : Int32 × Sto → Prop} (h : Ok (f12_isHidden μ l1) Qf) : Con l K yX12_isHidden (.code yX12_isHidden cX12_isHidden 2 (some .boolean) :: TB) 2 0 0 False [.ref (K.2.2 + 2017), .int l1] 2055 (jw K σ μ o) (PR Qf (fun p => some (.int p.1)) (fun p => jw K σ p.2 o)) PN := by
  refine Con.enter (own := RX12) hl (by decide) rfl (Nat.le_of_ble_eq_true rfl) ?_
  intro X hX hR C hret hnt
  generalize hQQ : jQ X K 0 0 (PR Qf (fun p => some (.int p.1)) (fun p => jw K σ p.2 o)) PN False = QQ
  change J X K 2 False QQ 0 0 2055 (jw K σ μ o) 0 [(0, .ref (K.2.2 + 2017)), (1, .int l1)] []
  have hj_26 : (∀ (μ_26 : Sto) (s0_26 : Int32), Ok (f12_isHidden_j26 l1 μ_26 s0_26) Qf → J X K 2 False QQ 0 0 2055 (jw K σ μ_26 o) 26 [] [.int s0_26]) := by
    intro μ_26 s0_26 h
    unfold f12_isHidden_j26 at h
    obtain ⟨g_1, h⟩ := Ok.ofgd h
    rw [← hQQ]
    exact J_zret C hret (narB g_1).1 (Nat.le_of_ble_eq_true rfl) (Nat.le_of_ble_eq_true rfl) ⟨_, h.osome, rfl, rfl, rfl⟩ dX12_isHidden_26
  unfold f12_isHidden at h
  refine J_aload_n (i := 0) (p := 0) C dX12_isHidden_0 rfl rfl rfl ?_
  refine J_iload_n (i := 1) (p := 1) C dX12_isHidden_1 rfl rfl rfl ?_
  refine Jm_cV (rest := []) (st9 := fun p_2 => [.int p_2]) C hR hX cv_RX12_225 rfl (Nat.le_of_ble_eq_true rfl) (k12_isLine hl  (Ok.ofbnd h)) rfl rfl (Nat.le_of_ble_eq_true rfl) (Nat.le_of_ble_eq_true rfl) (Nat.le_of_ble_eq_true rfl) ⟨(Nat.le_of_ble_eq_true rfl), (Nat.le_of_ble_eq_true rfl)⟩ dX12_isHidden_2 rfl (fun E n9 w9 hx => JT_n hx) (fun _ => rfl) (fun p_2 h => ?_)
  have h : Ok _ _ := h
  change J X K 2 False QQ 0 0 2055 (jw K σ μ o) 5 [(0, .ref (K.2.2 + 2017)), (1, .int l1)] [.int p_2]
  refine J_if_eq (t := 21) C dX12_isHidden_5 (by decide) rfl (fun c_3 => ?_) (fun c_3 => ?_)
  · have h := h.pos c_3
    refine J_aload_n (i := 0) (p := 0) C dX12_isHidden_21 rfl rfl rfl ?_
    refine J_iconst (v := 1) C (by decide) dX12_isHidden_22 rfl ?_
    refine Jm_cV (rest := []) (st9 := fun p_4 => [.int p_4.1]) C hR hX cv_RX12_348 rfl (Nat.le_of_ble_eq_true rfl) (k12_denies hl  (Ok.ofbnd h)) rfl rfl (Nat.le_of_ble_eq_true rfl) (Nat.le_of_ble_eq_true rfl) (Nat.le_of_ble_eq_true rfl) ⟨(Nat.le_of_ble_eq_true rfl), (Nat.le_of_ble_eq_true rfl)⟩ dX12_isHidden_23 rfl (fun E n9 w9 hx => JT_n hx) (fun _ => rfl) (fun p_4 h => ?_)
    have h : Ok _ _ := h
    change J X K 2 False QQ 0 0 2055 (jw K σ p_4.2 o) 26 [(0, .ref (K.2.2 + 2017)), (1, .int l1)] [.int p_4.1]
    refine J.sub [] rfl ?_
    exact hj_26 p_4.2 p_4.1 h
  · have h := h.neg c_3
    refine J_aload_n (i := 0) (p := 0) C dX12_isHidden_8 rfl rfl rfl ?_
    refine J_aload_n (i := 0) (p := 0) C dX12_isHidden_9 rfl rfl rfl ?_
    refine Jm_getS (o2 := 5) (r2 := 2022) C fp_RX12_23 rfl rfl rfl dX12_isHidden_10 rfl ?_
    refine J_iload_n (i := 1) (p := 1) C dX12_isHidden_13 rfl rfl rfl ?_
    obtain ⟨g_5, h⟩ := Ok.ofgd h
    refine Jm_zald C rfl rfl g_5 dX12_isHidden_14 rfl ?_
    refine Jm_cV (rest := []) (st9 := fun p_6 => [.int p_6.1]) C hR hX cv_RX12_309 rfl (Nat.le_of_ble_eq_true rfl) (k12_says hl  (Ok.ofbnd h)) rfl rfl (Nat.le_of_ble_eq_true rfl) (Nat.le_of_ble_eq_true rfl) (Nat.le_of_ble_eq_true rfl) ⟨(Nat.le_of_ble_eq_true rfl), (Nat.le_of_ble_eq_true rfl)⟩ dX12_isHidden_15 rfl (fun E n9 w9 hx => JT_n hx) (fun _ => rfl) (fun p_6 h => ?_)
    have h : Ok _ _ := h
    change J X K 2 False QQ 0 0 2055 (jw K σ p_6.2 o) 18 [(0, .ref (K.2.2 + 2017)), (1, .int l1)] [.int p_6.1]
    refine J_goto (t := 26) C dX12_isHidden_18 (by decide) ?_
    refine J.sub [] rfl ?_
    exact hj_26 p_6.2 p_6.1 h
def f12_isView (l0 : Int32) : Option (Int32) :=
  bnd (f12_in l0 (0 : Int32) (1 : Int32)) fun p_1 =>
  gd (isB p_1) <|
  some p_1
set_option maxHeartbeats 4000000 in
set_option maxRecDepth 100000 in
theorem k12_isView {l : Launch} {K : JK} (hl : l.stackTraces = false) {σ μ : Sto} {o : Int64} {l0 : Int32}  {Qf : Int32 → Prop} (h : Ok (f12_isView l0) Qf) : Con l K yX12_isView (.code yX12_isView cX12_isView 1 (some .boolean) :: TB) 1 0 0 False [.int l0] 2055 (jw K σ μ o) (PR Qf (fun p => some (.int p)) (fun p => jw K σ μ o)) PN := by
  refine Con.enter (own := RX12) hl (by decide) rfl (Nat.le_of_ble_eq_true rfl) ?_
  intro X hX hR C hret hnt
  generalize hQQ : jQ X K 0 0 (PR Qf (fun p => some (.int p)) (fun p => jw K σ μ o)) PN False = QQ
  change J X K 1 False QQ 0 0 2055 (jw K σ μ o) 0 [(0, .int l0)] []
  unfold f12_isView at h
  refine J_iload_n (i := 0) (p := 0) C dX12_isView_0 rfl rfl rfl ?_
  refine J_iconst (v := 0) C (by decide) dX12_isView_1 rfl ?_
  refine J_iconst (v := 1) C (by decide) dX12_isView_2 rfl ?_
  refine J_cS (rest := []) (st9 := fun p_1 => [.int p_1]) C hR hX cs_RX12_134 (k12_in hl  (Ok.ofbnd h)) rfl rfl (Nat.le_of_ble_eq_true rfl) (Nat.le_of_ble_eq_true rfl) (Nat.le_of_ble_eq_true rfl) ⟨(Nat.le_of_ble_eq_true rfl), (Nat.le_of_ble_eq_true rfl)⟩ dX12_isView_3 rfl (fun E n9 w9 hx => JT_n hx) (fun _ => rfl) (fun p_1 h => ?_)
  have h : Ok _ _ := h
  change J X K 1 False QQ 0 0 2055 (jw K σ μ o) 6 [(0, .int l0)] [.int p_1]
  obtain ⟨g_2, h⟩ := Ok.ofgd h
  rw [← hQQ]
  exact J_zret C hret (narB g_2).1 (Nat.le_of_ble_eq_true rfl) (Nat.le_of_ble_eq_true rfl) ⟨_, h.osome, rfl, rfl, rfl⟩ dX12_isView_6
def f12_setView_j27 (l1 : Int32) (l2 : Int32) (l3 : Int32) (μ_27 : Sto) : Option (Int32 × Sto) :=
  bnd (f12_refuse μ_27 (2 : Int32)) fun p_1 =>
  some (p_1.1, p_1.2)
def f12_setView (μ : Sto) (l1 : Int32) (l2 : Int32) (l3 : Int32) : Option (Int32 × Sto) :=
  bnd (f12_isView l1) fun p_2 =>
  if p_2 = 0 then
    bnd (f12_refuse μ (1 : Int32)) fun p_11 =>
    some (p_11.1, p_11.2)
  else
    if l2 < 0 then
      f12_setView_j27 l1 l2 l3 μ
    else
      bnd (f12_in l3 (1 : Int32) (40 : Int32)) fun p_5 =>
      if p_5 = 0 then
        f12_setView_j27 l1 l2 l3 μ
      else
        gd (inb l1 2) <|
        stp (aI μ 2027 (Int32.toNatClampNeg l1)) fun x4_1 =>
        gd (inb l1 2) <|
        stp (uA μ 2027 (Int32.toNatClampNeg l1) l2) fun μx_2 =>
        gd (inb l1 2) <|
        stp (uA μx_2 2028 (Int32.toNatClampNeg l1) l3) fun μx_3 =>
        bnd (f12_told μx_3 x4_1) fun p_10 =>
        some (p_10.1, p_10.2)
set_option maxHeartbeats 4000000 in
set_option maxRecDepth 100000 in
theorem k12_setView {l : Launch} {K : JK} (hl : l.stackTraces = false) {σ μ : Sto} {o : Int64} {l1 : Int32} {l2 : Int32} {l3 : Int32}  {Qf : Int32 × Sto → Prop} (h : Ok (f12_setView μ l1 l2 l3) Qf) : Con l K yX12_setView (.code yX12_setView cX12_setView 5 (some .int) :: TB) 2 0 0 False [.ref (K.2.2 + 2017), .int l1, .int l2, .int l3] 2055 (jw K σ μ o) (PR Qf (fun p => some (.int p.1)) (fun p => jw K σ p.2 o)) PN := by
  refine Con.enter (own := RX12) hl (by decide) rfl (Nat.le_of_ble_eq_true rfl) ?_
  intro X hX hR C hret hnt
  generalize hQQ : jQ X K 0 0 (PR Qf (fun p => some (.int p.1)) (fun p => jw K σ p.2 o)) PN False = QQ
  change J X K 5 False QQ 0 0 2055 (jw K σ μ o) 0 [(0, .ref (K.2.2 + 2017)), (1, .int l1), (2, .int l2), (3, .int l3)] []
  have hj_27 : (∀ (μ_27 : Sto), Ok (f12_setView_j27 l1 l2 l3 μ_27) Qf → J X K 5 False QQ 0 0 2055 (jw K σ μ_27 o) 27 [(0, .ref (K.2.2 + 2017))] []) := by
    intro μ_27 h
    unfold f12_setView_j27 at h
    refine J_aload_n (i := 0) (p := 0) C dX12_setView_27 rfl rfl rfl ?_
    refine J_iconst (v := 2) C (by decide) dX12_setView_28 rfl ?_
    refine Jm_cV (rest := []) (st9 := fun p_1 => [.int p_1.1]) C hR hX cv_RX12_206 rfl (Nat.le_of_ble_eq_true rfl) (k12_refuse hl  (Ok.ofbnd h)) rfl rfl (Nat.le_of_ble_eq_true rfl) (Nat.le_of_ble_eq_true rfl) (Nat.le_of_ble_eq_true rfl) ⟨(Nat.le_of_ble_eq_true rfl), (Nat.le_of_ble_eq_true rfl)⟩ dX12_setView_29 rfl (fun E n9 w9 hx => JT_n hx) (fun _ => rfl) (fun p_1 h => ?_)
    have h : Ok _ _ := h
    change J X K 5 False QQ 0 0 2055 (jw K σ p_1.2 o) 32 [(0, .ref (K.2.2 + 2017))] [.int p_1.1]
    rw [← hQQ]
    exact J_iret C hret (Nat.le_of_ble_eq_true rfl) (Nat.le_of_ble_eq_true rfl) ⟨_, h.osome, rfl, rfl, rfl⟩ dX12_setView_32
  unfold f12_setView at h
  refine J_iload_n (i := 1) (p := 1) C dX12_setView_0 rfl rfl rfl ?_
  refine J_cS (rest := []) (st9 := fun p_2 => [.int p_2]) C hR hX cs_RX12_351 (k12_isView hl  (Ok.ofbnd h)) rfl rfl (Nat.le_of_ble_eq_true rfl) (Nat.le_of_ble_eq_true rfl) (Nat.le_of_ble_eq_true rfl) ⟨(Nat.le_of_ble_eq_true rfl), (Nat.le_of_ble_eq_true rfl)⟩ dX12_setView_1 rfl (fun E n9 w9 hx => JT_n hx) (fun _ => rfl) (fun p_2 h => ?_)
  have h : Ok _ _ := h
  change J X K 5 False QQ 0 0 2055 (jw K σ μ o) 4 [(0, .ref (K.2.2 + 2017)), (1, .int l1), (2, .int l2), (3, .int l3)] [.int p_2]
  refine J_if_ne (t := 13) C dX12_setView_4 (by decide) rfl (fun c_3 => ?_) (fun c_3 => ?_)
  · have h := h.neg c_3
    refine J_iload_n (i := 2) (p := 2) C dX12_setView_13 rfl rfl rfl ?_
    refine J_if_lt (t := 27) C dX12_setView_14 (by decide) rfl (fun c_4 => ?_) (fun c_4 => ?_)
    · have h := h.pos c_4
      refine J.sub [0] rfl ?_
      exact hj_27 μ h
    · have h := h.neg c_4
      refine J_iload_n (i := 3) (p := 3) C dX12_setView_17 rfl rfl rfl ?_
      refine J_iconst (v := 1) C (by decide) dX12_setView_18 rfl ?_
      refine J_bipush (v := 40) C (by decide) dX12_setView_19 rfl ?_
      refine J_cS (rest := []) (st9 := fun p_5 => [.int p_5]) C hR hX cs_RX12_134 (k12_in hl  (Ok.ofbnd h)) rfl rfl (Nat.le_of_ble_eq_true rfl) (Nat.le_of_ble_eq_true rfl) (Nat.le_of_ble_eq_true rfl) ⟨(Nat.le_of_ble_eq_true rfl), (Nat.le_of_ble_eq_true rfl)⟩ dX12_setView_21 rfl (fun E n9 w9 hx => JT_n hx) (fun _ => rfl) (fun p_5 h => ?_)
      have h : Ok _ _ := h
      change J X K 5 False QQ 0 0 2055 (jw K σ μ o) 24 [(0, .ref (K.2.2 + 2017)), (1, .int l1), (2, .int l2), (3, .int l3)] [.int p_5]
      refine J_if_ne (t := 33) C dX12_setView_24 (by decide) rfl (fun c_6 => ?_) (fun c_6 => ?_)
      · have h := h.neg c_6
        refine J_aload_n (i := 0) (p := 0) C dX12_setView_33 rfl rfl rfl ?_
        refine Jm_getS (o2 := 10) (r2 := 2027) C fp_RX12_45 rfl rfl rfl dX12_setView_34 rfl ?_
        refine J_iload_n (i := 1) (p := 1) C dX12_setView_37 rfl rfl rfl ?_
        obtain ⟨g_7, h⟩ := Ok.ofgd h
        refine Jm_iald C rfl rfl g_7 dX12_setView_38 rfl ?_
        obtain ⟨x4_1, e_x4_1, h⟩ := Ok.nm h
        refine J_istoreE (i := 4) (lv' := [(4, .int x4_1), (0, .ref (K.2.2 + 2017)), (1, .int l1), (2, .int l2), (3, .int l3)]) C e_x4_1 dX12_setView_39 (Nat.le_of_ble_eq_true rfl) rfl rfl ?_
        refine J_aload_n (i := 0) (p := 1) C dX12_setView_41 rfl rfl rfl ?_
        refine Jm_getS (o2 := 10) (r2 := 2027) C fp_RX12_45 rfl rfl rfl dX12_setView_42 rfl ?_
        refine J_iload_n (i := 1) (p := 2) C dX12_setView_45 rfl rfl rfl ?_
        refine J_iload_n (i := 2) (p := 3) C dX12_setView_46 rfl rfl rfl ?_
        obtain ⟨g_8, h⟩ := Ok.ofgd h
        obtain ⟨μx_2, e_μx_2, h⟩ := Ok.nm h
        refine Jm_iast C id rfl rfl g_8 e_μx_2 dX12_setView_47 rfl ?_
        refine J_aload_n (i := 0) (p := 1) C dX12_setView_48 rfl rfl rfl ?_
        refine Jm_getS (o2 := 11) (r2 := 2028) C fp_RX12_48 rfl rfl rfl dX12_setView_49 rfl ?_
        refine J_iload_n (i := 1) (p := 2) C dX12_setView_52 rfl rfl rfl ?_
        refine J_iload_n (i := 3) (p := 4) C dX12_setView_53 rfl rfl rfl ?_
        obtain ⟨g_9, h⟩ := Ok.ofgd h
        obtain ⟨μx_3, e_μx_3, h⟩ := Ok.nm h
        refine Jm_iast C id rfl rfl g_9 e_μx_3 dX12_setView_54 rfl ?_
        refine J_aload_n (i := 0) (p := 1) C dX12_setView_55 rfl rfl rfl ?_
        refine J_iload (i := 4) (p := 0) C dX12_setView_56 rfl rfl ?_
        refine Jm_cV (rest := []) (st9 := fun p_10 => [.int p_10.1]) C hR hX cv_RX12_209 rfl (Nat.le_of_ble_eq_true rfl) (k12_told hl  (Ok.ofbnd h)) rfl rfl (Nat.le_of_ble_eq_true rfl) (Nat.le_of_ble_eq_true rfl) (Nat.le_of_ble_eq_true rfl) ⟨(Nat.le_of_ble_eq_true rfl), (Nat.le_of_ble_eq_true rfl)⟩ dX12_setView_58 rfl (fun E n9 w9 hx => JT_n hx) (fun _ => rfl) (fun p_10 h => ?_)
        have h : Ok _ _ := h
        change J X K 5 False QQ 0 0 2055 (jw K σ p_10.2 o) 61 [(4, .int x4_1), (0, .ref (K.2.2 + 2017)), (1, .int l1), (2, .int l2), (3, .int l3)] [.int p_10.1]
        rw [← hQQ]
        exact J_iret C hret (Nat.le_of_ble_eq_true rfl) (Nat.le_of_ble_eq_true rfl) ⟨_, h.osome, rfl, rfl, rfl⟩ dX12_setView_61
      · have h := h.pos (Decidable.not_not.mp c_6)
        refine J.sub [0] rfl ?_
        exact hj_27 μ h
  · have h := h.pos (Decidable.not_not.mp c_3)
    refine J_aload_n (i := 0) (p := 0) C dX12_setView_7 rfl rfl rfl ?_
    refine J_iconst (v := 1) C (by decide) dX12_setView_8 rfl ?_
    refine Jm_cV (rest := []) (st9 := fun p_11 => [.int p_11.1]) C hR hX cv_RX12_206 rfl (Nat.le_of_ble_eq_true rfl) (k12_refuse hl  (Ok.ofbnd h)) rfl rfl (Nat.le_of_ble_eq_true rfl) (Nat.le_of_ble_eq_true rfl) (Nat.le_of_ble_eq_true rfl) ⟨(Nat.le_of_ble_eq_true rfl), (Nat.le_of_ble_eq_true rfl)⟩ dX12_setView_9 rfl (fun E n9 w9 hx => JT_n hx) (fun _ => rfl) (fun p_11 h => ?_)
    have h : Ok _ _ := h
    change J X K 5 False QQ 0 0 2055 (jw K σ p_11.2 o) 12 [(0, .ref (K.2.2 + 2017)), (1, .int l1), (2, .int l2), (3, .int l3)] [.int p_11.1]
    rw [← hQQ]
    exact J_iret C hret (Nat.le_of_ble_eq_true rfl) (Nat.le_of_ble_eq_true rfl) ⟨_, h.osome, rfl, rfl, rfl⟩ dX12_setView_12
def f12_rowOf_j129 (l1 : Int32) (l2 : Int32) (μ_129 : Sto) (s1_129 : Int32) : Option (Int32 × Sto) :=
  bnd (f12_told μ_129 s1_129) fun p_1 =>
  some (p_1.1, p_1.2)
def f12_rowOf_j116 (l1 : Int32) (l2 : Int32) (μ_116 : Sto) (l3_116 : Int32) (l4_116 : Int32) : Option (Int32 × Sto) :=
  if l3_116 ≤ l4_116 then
    f12_rowOf_j129 l1 l2 μ_116 (-1 : Int32)
  else
    f12_rowOf_j129 l1 l2 μ_116 l4_116
def f12_rowOf_j110 (l1 : Int32) (l2 : Int32) (μ_73 : Sto) (l3_73 : Int32) (l4_110 : Int32) (s0_110 : Int32) (s1_110 : Int32) : Option ((Int32 × Int32) ⊕ Int32) :=
  stp (s0_110 - s1_110) fun x5_1 =>
  some (.inl (l4_110, x5_1))
def f12_rowOf_j109 (l1 : Int32) (l2 : Int32) (μ_73 : Sto) (l3_73 : Int32) (l4_109 : Int32) (s0_109 : Int32) : Option ((Int32 × Int32) ⊕ Int32) :=
  f12_rowOf_j110 l1 l2 μ_73 l3_73 l4_109 s0_109 (0 : Int32)
def f12_rowOf_b73 (l1 : Int32) (l2 : Int32) (μ_73 : Sto) (l3_73 : Int32) (l4_73 : Int32) (l5_73 : Int32) : Option ((Int32 × Int32) ⊕ Int32) :=
  if l5_73 ≤ 0 then
    some (.inr l4_73)
  else
    if l3_73 ≤ l4_73 then
      some (.inr l4_73)
    else
      stp (l4_73 + (1 : Int32)) fun x4_2 =>
      if l3_73 ≤ x4_2 then
        f12_rowOf_j109 l1 l2 μ_73 l3_73 x4_2 l5_73
      else
        gd (inb x4_2 301) <|
        if (aI μ_73 2022 (Int32.toNatClampNeg x4_2)) = 0 then
          f12_rowOf_j110 l1 l2 μ_73 l3_73 x4_2 l5_73 (1 : Int32)
        else
          f12_rowOf_j109 l1 l2 μ_73 l3_73 x4_2 l5_73
def f12_rowOf_j73 (l1 : Int32) (l2 : Int32) (μ_73 : Sto) (l3_73 : Int32) (l4_73 : Int32) (l5_73 : Int32) : Option (Int32 × Sto) :=
  bnd (loopF (fun s_73 => f12_rowOf_b73 l1 l2 μ_73 l3_73 s_73.1 s_73.2) FU (l4_73, l5_73)) fun r_73 =>
    f12_rowOf_j116 l1 l2 μ_73 l3_73 r_73
def f12_rowOf_b54 (l1 : Int32) (l2 : Int32) (μ_54 : Sto) (l3_54 : Int32) (l4_54 : Int32) : Option (Int32 ⊕ Int32) :=
  gd (inb l4_54 301) <|
  if (aI μ_54 2022 (Int32.toNatClampNeg l4_54)) = 0 then
    some (.inr l4_54)
  else
    stp (l4_54 + (-1 : Int32)) fun x4_4 =>
    some (.inl x4_4)
def f12_rowOf_j54 (l1 : Int32) (l2 : Int32) (μ_54 : Sto) (l3_54 : Int32) (l4_54 : Int32) : Option (Int32 × Sto) :=
  bnd (loopF (fun s_54 => f12_rowOf_b54 l1 l2 μ_54 l3_54 s_54) FU l4_54) fun r_54 =>
    stp l2 fun x5_5 =>
    f12_rowOf_j73 l1 l2 μ_54 l3_54 r_54 x5_5
def f12_rowOf (μ : Sto) (l1 : Int32) (l2 : Int32) : Option (Int32 × Sto) :=
  bnd (f12_isView l1) fun p_10 =>
  if p_10 = 0 then
    bnd (f12_refuse μ (1 : Int32)) fun p_19 =>
    some (p_19.1, p_19.2)
  else
    gd (inb l1 2) <|
    bnd (f12_in l2 (0 : Int32) ((aI μ 2028 (Int32.toNatClampNeg l1)) - (1 : Int32))) fun p_13 =>
    if p_13 = 0 then
      bnd (f12_refuse μ (2 : Int32)) fun p_18 =>
      some (p_18.1, p_18.2)
    else
      bnd (f12_lines μ) fun p_15 =>
      stp p_15 fun x3_6 =>
      gd (inb l1 2) <|
      bnd (f12_less (aI μ 2027 (Int32.toNatClampNeg l1)) (x3_6 - (1 : Int32))) fun p_17 =>
      stp p_17 fun x4_7 =>
      f12_rowOf_j54 l1 l2 μ x3_6 x4_7
set_option maxHeartbeats 4000000 in
set_option maxRecDepth 100000 in
theorem k12_rowOf {l : Launch} {K : JK} (hl : l.stackTraces = false) {σ μ : Sto} {o : Int64} {l1 : Int32} {l2 : Int32}  {Qf : Int32 × Sto → Prop} (h : Ok (f12_rowOf μ l1 l2) Qf) : Con l K yX12_rowOf (.code yX12_rowOf cX12_rowOf 6 (some .int) :: TB) 2 0 0 False [.ref (K.2.2 + 2017), .int l1, .int l2] 2055 (jw K σ μ o) (PR Qf (fun p => some (.int p.1)) (fun p => jw K σ p.2 o)) PN := by
  refine Con.enter (own := RX12) hl (by decide) rfl (Nat.le_of_ble_eq_true rfl) ?_
  intro X hX hR C hret hnt
  generalize hQQ : jQ X K 0 0 (PR Qf (fun p => some (.int p.1)) (fun p => jw K σ p.2 o)) PN False = QQ
  change J X K 6 False QQ 0 0 2055 (jw K σ μ o) 0 [(0, .ref (K.2.2 + 2017)), (1, .int l1), (2, .int l2)] []
  have hj_129 : (∀ (μ_129 : Sto) (s1_129 : Int32), Ok (f12_rowOf_j129 l1 l2 μ_129 s1_129) Qf → J X K 6 False QQ 0 0 2055 (jw K σ μ_129 o) 129 [] [.int s1_129, .ref (K.2.2 + 2017)]) := by
    intro μ_129 s1_129 h
    unfold f12_rowOf_j129 at h
    refine Jm_cV (rest := []) (st9 := fun p_1 => [.int p_1.1]) C hR hX cv_RX12_209 rfl (Nat.le_of_ble_eq_true rfl) (k12_told hl  (Ok.ofbnd h)) rfl rfl (Nat.le_of_ble_eq_true rfl) (Nat.le_of_ble_eq_true rfl) (Nat.le_of_ble_eq_true rfl) ⟨(Nat.le_of_ble_eq_true rfl), (Nat.le_of_ble_eq_true rfl)⟩ dX12_rowOf_129 rfl (fun E n9 w9 hx => JT_n hx) (fun _ => rfl) (fun p_1 h => ?_)
    have h : Ok _ _ := h
    change J X K 6 False QQ 0 0 2055 (jw K σ p_1.2 o) 132 [] [.int p_1.1]
    rw [← hQQ]
    exact J_iret C hret (Nat.le_of_ble_eq_true rfl) (Nat.le_of_ble_eq_true rfl) ⟨_, h.osome, rfl, rfl, rfl⟩ dX12_rowOf_132
  have hj_116 : (∀ (μ_116 : Sto) (l3_116 : Int32) (l4_116 : Int32), Ok (f12_rowOf_j116 l1 l2 μ_116 l3_116 l4_116) Qf → J X K 6 False QQ 0 0 2055 (jw K σ μ_116 o) 116 [(0, .ref (K.2.2 + 2017)), (3, .int l3_116), (4, .int l4_116)] []) := by
    intro μ_116 l3_116 l4_116 h
    unfold f12_rowOf_j116 at h
    refine J_aload_n (i := 0) (p := 0) C dX12_rowOf_116 rfl rfl rfl ?_
    refine J_iload (i := 4) (p := 2) C dX12_rowOf_117 rfl rfl ?_
    refine J_iload_n (i := 3) (p := 1) C dX12_rowOf_119 rfl rfl rfl ?_
    refine J_icmp_ge (t := 128) C dX12_rowOf_120 (by decide) rfl (fun c_2 => ?_) (fun c_2 => ?_)
    · have h := h.pos c_2
      refine J_iconst (v := -1) C (by decide) dX12_rowOf_128 rfl ?_
      refine J.sub [] rfl ?_
      exact hj_129 μ_116 (-1 : Int32) h
    · have h := h.neg c_2
      refine J_iload (i := 4) (p := 2) C dX12_rowOf_123 rfl rfl ?_
      refine J_goto (t := 129) C dX12_rowOf_125 (by decide) ?_
      refine J.sub [] rfl ?_
      exact hj_129 μ_116 l4_116 h
  have hj_73 : (∀ (μ_73 : Sto) (l3_73 : Int32) (l4_73 : Int32) (l5_73 : Int32), Ok (f12_rowOf_j73 l1 l2 μ_73 l3_73 l4_73 l5_73) Qf → J X K 6 False QQ 0 0 2055 (jw K σ μ_73 o) 73 [(0, .ref (K.2.2 + 2017)), (3, .int l3_73), (4, .int l4_73), (5, .int l5_73)] []) := by
    intro μ_73 l3_73 l4_73 l5_73 h
    unfold f12_rowOf_j73 at h
    refine loop_gen (S := Int32 × Int32) (P := fun s_73 => J X K 6 False QQ 0 0 2055 (jw K σ μ_73 o) 73 [(0, .ref (K.2.2 + 2017)), (3, .int l3_73), (4, .int s_73.1), (5, .int s_73.2)] []) ?_ FU (l4_73, l5_73) (Ok.ofbnd h)
    intro B_73 hB_73 hE_73 s_73 h
    obtain ⟨l4_73, l5_73⟩ := s_73
    have h : Ok (f12_rowOf_b73 l1 l2 μ_73 l3_73 l4_73 l5_73) B_73 := h
    change J X K 6 False QQ 0 0 2055 (jw K σ μ_73 o) 73 [(0, .ref (K.2.2 + 2017)), (3, .int l3_73), (4, .int l4_73), (5, .int l5_73)] []
    have hj_110 : (∀ (l4_110 : Int32) (s0_110 : Int32) (s1_110 : Int32), Ok (f12_rowOf_j110 l1 l2 μ_73 l3_73 l4_110 s0_110 s1_110) B_73 → J X K 6 False QQ 0 0 2055 (jw K σ μ_73 o) 110 [(0, .ref (K.2.2 + 2017)), (3, .int l3_73), (4, .int l4_110)] [.int s1_110, .int s0_110]) := by
      intro l4_110 s0_110 s1_110 h
      unfold f12_rowOf_j110 at h
      refine J_isub C dX12_rowOf_110 rfl ?_
      obtain ⟨x5_1, e_x5_1, h⟩ := Ok.nm h
      refine J_istoreE (i := 5) (lv' := [(5, .int x5_1), (0, .ref (K.2.2 + 2017)), (3, .int l3_73), (4, .int l4_110)]) C e_x5_1 dX12_rowOf_111 (Nat.le_of_ble_eq_true rfl) rfl rfl ?_
      refine J_goto (t := 73) C dX12_rowOf_113 (by decide) ?_
      refine J.sub [1, 2, 3, 0] rfl ?_
      exact hB_73 (l4_110, x5_1) h.osome
    have hj_109 : (∀ (l4_109 : Int32) (s0_109 : Int32), Ok (f12_rowOf_j109 l1 l2 μ_73 l3_73 l4_109 s0_109) B_73 → J X K 6 False QQ 0 0 2055 (jw K σ μ_73 o) 109 [(0, .ref (K.2.2 + 2017)), (3, .int l3_73), (4, .int l4_109)] [.int s0_109]) := by
      intro l4_109 s0_109 h
      unfold f12_rowOf_j109 at h
      refine J_iconst (v := 0) C (by decide) dX12_rowOf_109 rfl ?_
      exact hj_110 l4_109 s0_109 (0 : Int32) h
    unfold f12_rowOf_b73 at h
    refine J_iload (i := 5) (p := 3) C dX12_rowOf_73 rfl rfl ?_
    refine J_if_le (t := 116) C dX12_rowOf_75 (by decide) rfl (fun c_3 => ?_) (fun c_3 => ?_)
    · have h := h.pos c_3
      have h := hE_73 l4_73 h.osome
      try dsimp only at h
      refine J.sub [0, 1, 2] rfl ?_
      exact hj_116 μ_73 l3_73 l4_73 h
    · have h := h.neg c_3
      refine J_iload (i := 4) (p := 2) C dX12_rowOf_78 rfl rfl ?_
      refine J_iload_n (i := 3) (p := 1) C dX12_rowOf_80 rfl rfl rfl ?_
      refine J_icmp_ge (t := 116) C dX12_rowOf_81 (by decide) rfl (fun c_4 => ?_) (fun c_4 => ?_)
      · have h := h.pos c_4
        have h := hE_73 l4_73 h.osome
        try dsimp only at h
        refine J.sub [0, 1, 2] rfl ?_
        exact hj_116 μ_73 l3_73 l4_73 h
      · have h := h.neg c_4
        obtain ⟨x4_2, e_x4_2, h⟩ := Ok.nm h
        refine J_iincE (i := 4) (p := 2) (lv' := [(4, .int x4_2), (0, .ref (K.2.2 + 2017)), (3, .int l3_73), (5, .int l5_73)]) C e_x4_2 dX12_rowOf_84 rfl (by decide) (Nat.le_of_ble_eq_true rfl) rfl rfl ?_
        refine J_iload (i := 5) (p := 3) C dX12_rowOf_87 rfl rfl ?_
        refine J_iload (i := 4) (p := 0) C dX12_rowOf_89 rfl rfl ?_
        refine J_iload_n (i := 3) (p := 2) C dX12_rowOf_91 rfl rfl rfl ?_
        refine J_icmp_ge (t := 109) C dX12_rowOf_92 (by decide) rfl (fun c_5 => ?_) (fun c_5 => ?_)
        · have h := h.pos c_5
          refine J.sub [1, 2, 0] rfl ?_
          exact hj_109 x4_2 l5_73 h
        · have h := h.neg c_5
          refine J_aload_n (i := 0) (p := 1) C dX12_rowOf_95 rfl rfl rfl ?_
          refine Jm_getS (o2 := 5) (r2 := 2022) C fp_RX12_23 rfl rfl rfl dX12_rowOf_96 rfl ?_
          refine J_iload (i := 4) (p := 0) C dX12_rowOf_99 rfl rfl ?_
          obtain ⟨g_6, h⟩ := Ok.ofgd h
          refine Jm_zald C rfl rfl g_6 dX12_rowOf_101 rfl ?_
          refine J_if_ne (t := 109) C dX12_rowOf_102 (by decide) rfl (fun c_7 => ?_) (fun c_7 => ?_)
          · have h := h.neg c_7
            refine J.sub [1, 2, 0] rfl ?_
            exact hj_109 x4_2 l5_73 h
          · have h := h.pos (Decidable.not_not.mp c_7)
            refine J_iconst (v := 1) C (by decide) dX12_rowOf_105 rfl ?_
            refine J_goto (t := 110) C dX12_rowOf_106 (by decide) ?_
            refine J.sub [1, 2, 0] rfl ?_
            exact hj_110 x4_2 l5_73 (1 : Int32) h
  have hj_54 : (∀ (μ_54 : Sto) (l3_54 : Int32) (l4_54 : Int32), Ok (f12_rowOf_j54 l1 l2 μ_54 l3_54 l4_54) Qf → J X K 6 False QQ 0 0 2055 (jw K σ μ_54 o) 54 [(0, .ref (K.2.2 + 2017)), (2, .int l2), (3, .int l3_54), (4, .int l4_54)] []) := by
    intro μ_54 l3_54 l4_54 h
    unfold f12_rowOf_j54 at h
    refine loop_gen (S := Int32) (P := fun s_54 => J X K 6 False QQ 0 0 2055 (jw K σ μ_54 o) 54 [(0, .ref (K.2.2 + 2017)), (2, .int l2), (3, .int l3_54), (4, .int s_54)] []) ?_ FU l4_54 (Ok.ofbnd h)
    intro B_54 hB_54 hE_54 s_54 h
    generalize s_54 = l4_54 at h ⊢
    have h : Ok (f12_rowOf_b54 l1 l2 μ_54 l3_54 l4_54) B_54 := h
    change J X K 6 False QQ 0 0 2055 (jw K σ μ_54 o) 54 [(0, .ref (K.2.2 + 2017)), (2, .int l2), (3, .int l3_54), (4, .int l4_54)] []
    unfold f12_rowOf_b54 at h
    refine J_aload_n (i := 0) (p := 0) C dX12_rowOf_54 rfl rfl rfl ?_
    refine Jm_getS (o2 := 5) (r2 := 2022) C fp_RX12_23 rfl rfl rfl dX12_rowOf_55 rfl ?_
    refine J_iload (i := 4) (p := 3) C dX12_rowOf_58 rfl rfl ?_
    obtain ⟨g_8, h⟩ := Ok.ofgd h
    refine Jm_zald C rfl rfl g_8 dX12_rowOf_60 rfl ?_
    refine J_if_eq (t := 70) C dX12_rowOf_61 (by decide) rfl (fun c_9 => ?_) (fun c_9 => ?_)
    · have h := h.pos c_9
      have h := hE_54 l4_54 h.osome
      try dsimp only at h
      refine J_iload_n (i := 2) (p := 1) C dX12_rowOf_70 rfl rfl rfl ?_
      obtain ⟨x5_3, e_x5_3, h⟩ := Ok.nm h
      refine J_istoreE (i := 5) (lv' := [(5, .int x5_3), (0, .ref (K.2.2 + 2017)), (2, .int l2), (3, .int l3_54), (4, .int l4_54)]) C e_x5_3 dX12_rowOf_71 (Nat.le_of_ble_eq_true rfl) rfl rfl ?_
      refine J.sub [1, 3, 4, 0] rfl ?_
      exact hj_73 μ_54 l3_54 l4_54 x5_3 h
    · have h := h.neg c_9
      obtain ⟨x4_4, e_x4_4, h⟩ := Ok.nm h
      refine J_iincE (i := 4) (p := 3) (lv' := [(4, .int x4_4), (0, .ref (K.2.2 + 2017)), (2, .int l2), (3, .int l3_54)]) C e_x4_4 dX12_rowOf_64 rfl (by decide) (Nat.le_of_ble_eq_true rfl) rfl rfl ?_
      refine J_goto (t := 54) C dX12_rowOf_67 (by decide) ?_
      refine J.sub [1, 2, 3, 0] rfl ?_
      exact hB_54 x4_4 h.osome
  unfold f12_rowOf at h
  refine J_iload_n (i := 1) (p := 1) C dX12_rowOf_0 rfl rfl rfl ?_
  refine J_cS (rest := []) (st9 := fun p_10 => [.int p_10]) C hR hX cs_RX12_351 (k12_isView hl  (Ok.ofbnd h)) rfl rfl (Nat.le_of_ble_eq_true rfl) (Nat.le_of_ble_eq_true rfl) (Nat.le_of_ble_eq_true rfl) ⟨(Nat.le_of_ble_eq_true rfl), (Nat.le_of_ble_eq_true rfl)⟩ dX12_rowOf_1 rfl (fun E n9 w9 hx => JT_n hx) (fun _ => rfl) (fun p_10 h => ?_)
  have h : Ok _ _ := h
  change J X K 6 False QQ 0 0 2055 (jw K σ μ o) 4 [(0, .ref (K.2.2 + 2017)), (1, .int l1), (2, .int l2)] [.int p_10]
  refine J_if_ne (t := 13) C dX12_rowOf_4 (by decide) rfl (fun c_11 => ?_) (fun c_11 => ?_)
  · have h := h.neg c_11
    refine J_iload_n (i := 2) (p := 2) C dX12_rowOf_13 rfl rfl rfl ?_
    refine J_iconst (v := 0) C (by decide) dX12_rowOf_14 rfl ?_
    refine J_aload_n (i := 0) (p := 0) C dX12_rowOf_15 rfl rfl rfl ?_
    refine Jm_getS (o2 := 11) (r2 := 2028) C fp_RX12_48 rfl rfl rfl dX12_rowOf_16 rfl ?_
    refine J_iload_n (i := 1) (p := 1) C dX12_rowOf_19 rfl rfl rfl ?_
    obtain ⟨g_12, h⟩ := Ok.ofgd h
    refine Jm_iald C rfl rfl g_12 dX12_rowOf_20 rfl ?_
    refine J_iconst (v := 1) C (by decide) dX12_rowOf_21 rfl ?_
    refine J_isub C dX12_rowOf_22 rfl ?_
    refine J_cS (rest := []) (st9 := fun p_13 => [.int p_13]) C hR hX cs_RX12_134 (k12_in hl  (Ok.ofbnd h)) rfl rfl (Nat.le_of_ble_eq_true rfl) (Nat.le_of_ble_eq_true rfl) (Nat.le_of_ble_eq_true rfl) ⟨(Nat.le_of_ble_eq_true rfl), (Nat.le_of_ble_eq_true rfl)⟩ dX12_rowOf_23 rfl (fun E n9 w9 hx => JT_n hx) (fun _ => rfl) (fun p_13 h => ?_)
    have h : Ok _ _ := h
    change J X K 6 False QQ 0 0 2055 (jw K σ μ o) 26 [(0, .ref (K.2.2 + 2017)), (1, .int l1), (2, .int l2)] [.int p_13]
    refine J_if_ne (t := 35) C dX12_rowOf_26 (by decide) rfl (fun c_14 => ?_) (fun c_14 => ?_)
    · have h := h.neg c_14
      refine J_aload_n (i := 0) (p := 0) C dX12_rowOf_35 rfl rfl rfl ?_
      refine Jm_cV (rest := []) (st9 := fun p_15 => [.int p_15]) C hR hX cv_RX12_141 rfl (Nat.le_of_ble_eq_true rfl) (k12_lines hl  (Ok.ofbnd h)) rfl rfl (Nat.le_of_ble_eq_true rfl) (Nat.le_of_ble_eq_true rfl) (Nat.le_of_ble_eq_true rfl) ⟨(Nat.le_of_ble_eq_true rfl), (Nat.le_of_ble_eq_true rfl)⟩ dX12_rowOf_36 rfl (fun E n9 w9 hx => JT_n hx) (fun _ => rfl) (fun p_15 h => ?_)
      have h : Ok _ _ := h
      change J X K 6 False QQ 0 0 2055 (jw K σ μ o) 39 [(0, .ref (K.2.2 + 2017)), (1, .int l1), (2, .int l2)] [.int p_15]
      obtain ⟨x3_6, e_x3_6, h⟩ := Ok.nm h
      refine J_istoreE_n (i := 3) (lv' := [(3, .int x3_6), (0, .ref (K.2.2 + 2017)), (1, .int l1), (2, .int l2)]) C e_x3_6 dX12_rowOf_39 rfl (Nat.le_of_ble_eq_true rfl) rfl rfl ?_
      refine J_aload_n (i := 0) (p := 1) C dX12_rowOf_40 rfl rfl rfl ?_
      refine Jm_getS (o2 := 10) (r2 := 2027) C fp_RX12_45 rfl rfl rfl dX12_rowOf_41 rfl ?_
      refine J_iload_n (i := 1) (p := 2) C dX12_rowOf_44 rfl rfl rfl ?_
      obtain ⟨g_16, h⟩ := Ok.ofgd h
      refine Jm_iald C rfl rfl g_16 dX12_rowOf_45 rfl ?_
      refine J_iload_n (i := 3) (p := 0) C dX12_rowOf_46 rfl rfl rfl ?_
      refine J_iconst (v := 1) C (by decide) dX12_rowOf_47 rfl ?_
      refine J_isub C dX12_rowOf_48 rfl ?_
      refine J_cS (rest := []) (st9 := fun p_17 => [.int p_17]) C hR hX cs_RX12_261 (k12_less hl  (Ok.ofbnd h)) rfl rfl (Nat.le_of_ble_eq_true rfl) (Nat.le_of_ble_eq_true rfl) (Nat.le_of_ble_eq_true rfl) ⟨(Nat.le_of_ble_eq_true rfl), (Nat.le_of_ble_eq_true rfl)⟩ dX12_rowOf_49 rfl (fun E n9 w9 hx => JT_n hx) (fun _ => rfl) (fun p_17 h => ?_)
      have h : Ok _ _ := h
      change J X K 6 False QQ 0 0 2055 (jw K σ μ o) 52 [(3, .int x3_6), (0, .ref (K.2.2 + 2017)), (1, .int l1), (2, .int l2)] [.int p_17]
      obtain ⟨x4_7, e_x4_7, h⟩ := Ok.nm h
      refine J_istoreE (i := 4) (lv' := [(4, .int x4_7), (3, .int x3_6), (0, .ref (K.2.2 + 2017)), (1, .int l1), (2, .int l2)]) C e_x4_7 dX12_rowOf_52 (Nat.le_of_ble_eq_true rfl) rfl rfl ?_
      refine J.sub [2, 4, 1, 0] rfl ?_
      exact hj_54 μ x3_6 x4_7 h
    · have h := h.pos (Decidable.not_not.mp c_14)
      refine J_aload_n (i := 0) (p := 0) C dX12_rowOf_29 rfl rfl rfl ?_
      refine J_iconst (v := 2) C (by decide) dX12_rowOf_30 rfl ?_
      refine Jm_cV (rest := []) (st9 := fun p_18 => [.int p_18.1]) C hR hX cv_RX12_206 rfl (Nat.le_of_ble_eq_true rfl) (k12_refuse hl  (Ok.ofbnd h)) rfl rfl (Nat.le_of_ble_eq_true rfl) (Nat.le_of_ble_eq_true rfl) (Nat.le_of_ble_eq_true rfl) ⟨(Nat.le_of_ble_eq_true rfl), (Nat.le_of_ble_eq_true rfl)⟩ dX12_rowOf_31 rfl (fun E n9 w9 hx => JT_n hx) (fun _ => rfl) (fun p_18 h => ?_)
      have h : Ok _ _ := h
      change J X K 6 False QQ 0 0 2055 (jw K σ p_18.2 o) 34 [(0, .ref (K.2.2 + 2017)), (1, .int l1), (2, .int l2)] [.int p_18.1]
      rw [← hQQ]
      exact J_iret C hret (Nat.le_of_ble_eq_true rfl) (Nat.le_of_ble_eq_true rfl) ⟨_, h.osome, rfl, rfl, rfl⟩ dX12_rowOf_34
  · have h := h.pos (Decidable.not_not.mp c_11)
    refine J_aload_n (i := 0) (p := 0) C dX12_rowOf_7 rfl rfl rfl ?_
    refine J_iconst (v := 1) C (by decide) dX12_rowOf_8 rfl ?_
    refine Jm_cV (rest := []) (st9 := fun p_19 => [.int p_19.1]) C hR hX cv_RX12_206 rfl (Nat.le_of_ble_eq_true rfl) (k12_refuse hl  (Ok.ofbnd h)) rfl rfl (Nat.le_of_ble_eq_true rfl) (Nat.le_of_ble_eq_true rfl) (Nat.le_of_ble_eq_true rfl) ⟨(Nat.le_of_ble_eq_true rfl), (Nat.le_of_ble_eq_true rfl)⟩ dX12_rowOf_9 rfl (fun E n9 w9 hx => JT_n hx) (fun _ => rfl) (fun p_19 h => ?_)
    have h : Ok _ _ := h
    change J X K 6 False QQ 0 0 2055 (jw K σ p_19.2 o) 12 [(0, .ref (K.2.2 + 2017)), (1, .int l1), (2, .int l2)] [.int p_19.1]
    rw [← hQQ]
    exact J_iret C hret (Nat.le_of_ble_eq_true rfl) (Nat.le_of_ble_eq_true rfl) ⟨_, h.osome, rfl, rfl, rfl⟩ dX12_rowOf_12
def f12_record_j14 (l1 : Int32) (μ_14 : Sto) (l2_14 : Int32) : Option (Int32 × Sto) :=
  gd (isB l1) <|
  stp (uI μ_14 2017 51 l1) fun μx_1 =>
  bnd (f12_told μx_1 l2_14) fun p_2 =>
  some (p_2.1, p_2.2)
def f12_record (μ : Sto) (l1 : Int32) : Option (Int32 × Sto) :=
  stp (fI μ 2017 50) fun x2_2 =>
  if l1 = 0 then
    f12_record_j14 l1 μ x2_2
  else
    stp (uI μ 2017 50 (0 : Int32)) fun μx_3 =>
    f12_record_j14 l1 μx_3 x2_2
set_option maxHeartbeats 4000000 in
set_option maxRecDepth 100000 in
theorem k12_record {l : Launch} {K : JK} (hl : l.stackTraces = false) {σ μ : Sto} {o : Int64} {l1 : Int32}  {Qf : Int32 × Sto → Prop} (h : Ok (f12_record μ l1) Qf) : Con l K yX12_record (.code yX12_record cX12_record 3 (some .int) :: TB) 1 0 0 False [.ref (K.2.2 + 2017), .int l1] 2055 (jw K σ μ o) (PR Qf (fun p => some (.int p.1)) (fun p => jw K σ p.2 o)) PN := by
  refine Con.enter (own := RX12) hl (by decide) rfl (Nat.le_of_ble_eq_true rfl) ?_
  intro X hX hR C hret hnt
  generalize hQQ : jQ X K 0 0 (PR Qf (fun p => some (.int p.1)) (fun p => jw K σ p.2 o)) PN False = QQ
  change J X K 3 False QQ 0 0 2055 (jw K σ μ o) 0 [(0, .ref (K.2.2 + 2017)), (1, .int l1)] []
  have hj_14 : (∀ (μ_14 : Sto) (l2_14 : Int32), Ok (f12_record_j14 l1 μ_14 l2_14) Qf → J X K 3 False QQ 0 0 2055 (jw K σ μ_14 o) 14 [(0, .ref (K.2.2 + 2017)), (1, .int l1), (2, .int l2_14)] []) := by
    intro μ_14 l2_14 h
    unfold f12_record_j14 at h
    refine J_aload_n (i := 0) (p := 0) C dX12_record_14 rfl rfl rfl ?_
    refine J_iload_n (i := 1) (p := 1) C dX12_record_15 rfl rfl rfl ?_
    obtain ⟨g_1, h⟩ := Ok.ofgd h
    obtain ⟨μx_1, e_μx_1, h⟩ := Ok.nm h
    refine Jm_putZ C id fp_RX12_354 fw_11_51 rfl g_1 rfl rfl e_μx_1 dX12_record_16 rfl ?_
    refine J_aload_n (i := 0) (p := 0) C dX12_record_19 rfl rfl rfl ?_
    refine J_iload_n (i := 2) (p := 2) C dX12_record_20 rfl rfl rfl ?_
    refine Jm_cV (rest := []) (st9 := fun p_2 => [.int p_2.1]) C hR hX cv_RX12_209 rfl (Nat.le_of_ble_eq_true rfl) (k12_told hl  (Ok.ofbnd h)) rfl rfl (Nat.le_of_ble_eq_true rfl) (Nat.le_of_ble_eq_true rfl) (Nat.le_of_ble_eq_true rfl) ⟨(Nat.le_of_ble_eq_true rfl), (Nat.le_of_ble_eq_true rfl)⟩ dX12_record_21 rfl (fun E n9 w9 hx => JT_n hx) (fun _ => rfl) (fun p_2 h => ?_)
    have h : Ok _ _ := h
    change J X K 3 False QQ 0 0 2055 (jw K σ p_2.2 o) 24 [(0, .ref (K.2.2 + 2017)), (1, .int l1), (2, .int l2_14)] [.int p_2.1]
    rw [← hQQ]
    exact J_iret C hret (Nat.le_of_ble_eq_true rfl) (Nat.le_of_ble_eq_true rfl) ⟨_, h.osome, rfl, rfl, rfl⟩ dX12_record_24
  unfold f12_record at h
  refine J_aload_n (i := 0) (p := 0) C dX12_record_0 rfl rfl rfl ?_
  refine Jm_getI C fp_RX12_357 rfl rfl dX12_record_1 rfl ?_
  obtain ⟨x2_2, e_x2_2, h⟩ := Ok.nm h
  refine J_istoreE_n (i := 2) (lv' := [(2, .int x2_2), (0, .ref (K.2.2 + 2017)), (1, .int l1)]) C e_x2_2 dX12_record_4 rfl (Nat.le_of_ble_eq_true rfl) rfl rfl ?_
  refine J_iload_n (i := 1) (p := 2) C dX12_record_5 rfl rfl rfl ?_
  refine J_if_eq (t := 14) C dX12_record_6 (by decide) rfl (fun c_3 => ?_) (fun c_3 => ?_)
  · have h := h.pos c_3
    refine J.sub [1, 2, 0] rfl ?_
    exact hj_14 μ x2_2 h
  · have h := h.neg c_3
    refine J_aload_n (i := 0) (p := 1) C dX12_record_9 rfl rfl rfl ?_
    refine J_iconst (v := 0) C (by decide) dX12_record_10 rfl ?_
    obtain ⟨μx_3, e_μx_3, h⟩ := Ok.nm h
    refine Jm_putI C id fp_RX12_357 fw_11_50 rfl rfl rfl e_μx_3 dX12_record_11 rfl ?_
    refine J.sub [1, 2, 0] rfl ?_
    exact hj_14 μx_3 x2_2 h
def f12_does_b151 (l1 : Int32) (μ_151 : Sto) (l2_151 : Int32) (l3_151 : Int32) (l4_151 : Int32) : Option ((Sto × Int32) ⊕ Sto) :=
  if l2_151 ≤ l4_151 then
    some (.inr μ_151)
  else
    gd (inb l4_151 200) <|
    gd (inb l4_151 200) <|
    stp (uA μ_151 2023 (Int32.toNatClampNeg l4_151) (aI μ_151 2049 (Int32.toNatClampNeg l4_151))) fun μx_1 =>
    stp (l4_151 + (1 : Int32)) fun x4_2 =>
    some (.inl (μx_1, x4_2))
def f12_does_j151 (l1 : Int32) (μ_151 : Sto) (l2_151 : Int32) (l3_151 : Int32) (l4_151 : Int32) : Option (Int32 × Sto) :=
  bnd (loopF (fun s_151 => f12_does_b151 l1 s_151.1 l2_151 l3_151 s_151.2) FU (μ_151, l4_151)) fun r_151 =>
    gd (isB l3_151) <|
    some (l3_151, r_151)
def f12_does_b106 (l1 : Int32) (μ_106 : Sto) (l2_106 : Int32) (l3_106 : Int32) : Option ((Sto × Int32) ⊕ Sto) :=
  if (fI μ_106 2017 11) ≤ l3_106 then
    some (.inr μ_106)
  else
    gd (inb (((200 : Int32) * l1) + l3_106) 8000) <|
    gd (inb l3_106 200) <|
    stp (uA μ_106 2023 (Int32.toNatClampNeg l3_106) (aI μ_106 2048 (Int32.toNatClampNeg (((200 : Int32) * l1) + l3_106)))) fun μx_6 =>
    stp (l3_106 + (1 : Int32)) fun x3_7 =>
    some (.inl (μx_6, x3_7))
def f12_does_j106 (l1 : Int32) (μ_106 : Sto) (l2_106 : Int32) (l3_106 : Int32) : Option (Int32 × Sto) :=
  bnd (loopF (fun s_106 => f12_does_b106 l1 s_106.1 l2_106 s_106.2) FU (μ_106, l3_106)) fun r_106 =>
    bnd (f12_types r_106) fun p_10 =>
    stp p_10.1 fun x3_8 =>
    stp (uI p_10.2 2017 11 l2_106) fun μx_9 =>
    stp (0 : Int32) fun x4_10 =>
    f12_does_j151 l1 μx_9 l2_106 x3_8 x4_10
def f12_does_b71 (l1 : Int32) (μ_71 : Sto) (l2_71 : Int32) (l3_71 : Int32) : Option ((Sto × Int32) ⊕ Sto) :=
  if l2_71 ≤ l3_71 then
    some (.inr μ_71)
  else
    gd (inb l3_71 200) <|
    gd (inb l3_71 200) <|
    stp (uA μ_71 2049 (Int32.toNatClampNeg l3_71) (aI μ_71 2023 (Int32.toNatClampNeg l3_71))) fun μx_13 =>
    stp (l3_71 + (1 : Int32)) fun x3_14 =>
    some (.inl (μx_13, x3_14))
def f12_does_j71 (l1 : Int32) (μ_71 : Sto) (l2_71 : Int32) (l3_71 : Int32) : Option (Int32 × Sto) :=
  bnd (loopF (fun s_71 => f12_does_b71 l1 s_71.1 l2_71 s_71.2) FU (μ_71, l3_71)) fun r_71 =>
    gd (inb l1 40) <|
    stp (uI r_71 2017 11 (aI r_71 2047 (Int32.toNatClampNeg l1))) fun μx_15 =>
    stp (0 : Int32) fun x3_16 =>
    f12_does_j106 l1 μx_15 l2_71 x3_16
def f12_does (μ : Sto) (l1 : Int32) : Option (Int32 × Sto) :=
  gd (inb l1 40) <|
  if (aI μ 2044 (Int32.toNatClampNeg l1)) = (2 : Int32) then
    gd (inb l1 40) <|
    gd (inb l1 40) <|
    bnd (f12_movesCursors μ (aI μ 2045 (Int32.toNatClampNeg l1)) (aI μ 2046 (Int32.toNatClampNeg l1))) fun p_29 =>
    some ((1 : Int32), p_29)
  else
    gd (inb l1 40) <|
    if (aI μ 2044 (Int32.toNatClampNeg l1)) = (1 : Int32) then
      gd (inb l1 40) <|
      bnd (f12_erases μ (aI μ 2045 (Int32.toNatClampNeg l1))) fun p_25 =>
      gd (isB p_25.1) <|
      some (p_25.1, p_25.2)
    else
      gd (inb l1 40) <|
      if (aI μ 2044 (Int32.toNatClampNeg l1)) = (3 : Int32) then
        bnd (f12_pastes μ) fun p_22 =>
        gd (isB p_22.1) <|
        some (p_22.1, p_22.2)
      else
        stp (fI μ 2017 11) fun x2_17 =>
        stp (0 : Int32) fun x3_18 =>
        f12_does_j71 l1 μ x2_17 x3_18
set_option maxHeartbeats 4000000 in
set_option maxRecDepth 100000 in
theorem k12_does {l : Launch} {K : JK} (hl : l.stackTraces = false) {σ μ : Sto} {o : Int64} {l1 : Int32}  {Qf : Int32 × Sto → Prop} (h : Ok (f12_does μ l1) Qf) : Con l K yX12_does (.code yX12_does cX12_does 5 (some .boolean) :: TB) 5 0 0 False [.ref (K.2.2 + 2017), .int l1] 2055 (jw K σ μ o) (PR Qf (fun p => some (.int p.1)) (fun p => jw K σ p.2 o)) PN := by
  refine Con.enter (own := RX12) hl (by decide) rfl (Nat.le_of_ble_eq_true rfl) ?_
  intro X hX hR C hret hnt
  generalize hQQ : jQ X K 0 0 (PR Qf (fun p => some (.int p.1)) (fun p => jw K σ p.2 o)) PN False = QQ
  change J X K 5 False QQ 0 0 2055 (jw K σ μ o) 0 [(0, .ref (K.2.2 + 2017)), (1, .int l1)] []
  have hj_151 : (∀ (μ_151 : Sto) (l2_151 : Int32) (l3_151 : Int32) (l4_151 : Int32), Ok (f12_does_j151 l1 μ_151 l2_151 l3_151 l4_151) Qf → J X K 5 False QQ 0 0 2055 (jw K σ μ_151 o) 151 [(0, .ref (K.2.2 + 2017)), (2, .int l2_151), (3, .int l3_151), (4, .int l4_151)] []) := by
    intro μ_151 l2_151 l3_151 l4_151 h
    unfold f12_does_j151 at h
    refine loop_gen (S := Sto × Int32) (P := fun s_151 => J X K 5 False QQ 0 0 2055 (jw K σ s_151.1 o) 151 [(0, .ref (K.2.2 + 2017)), (2, .int l2_151), (3, .int l3_151), (4, .int s_151.2)] []) ?_ FU (μ_151, l4_151) (Ok.ofbnd h)
    intro B_151 hB_151 hE_151 s_151 h
    obtain ⟨μ_151, l4_151⟩ := s_151
    have h : Ok (f12_does_b151 l1 μ_151 l2_151 l3_151 l4_151) B_151 := h
    change J X K 5 False QQ 0 0 2055 (jw K σ μ_151 o) 151 [(0, .ref (K.2.2 + 2017)), (2, .int l2_151), (3, .int l3_151), (4, .int l4_151)] []
    unfold f12_does_b151 at h
    refine J_iload (i := 4) (p := 3) C dX12_does_151 rfl rfl ?_
    refine J_iload_n (i := 2) (p := 1) C dX12_does_153 rfl rfl rfl ?_
    refine J_icmp_ge (t := 177) C dX12_does_154 (by decide) rfl (fun c_1 => ?_) (fun c_1 => ?_)
    · have h := h.pos c_1
      have h := hE_151 μ_151 h.osome
      try dsimp only at h
      refine J_iload_n (i := 3) (p := 2) C dX12_does_177 rfl rfl rfl ?_
      obtain ⟨g_2, h⟩ := Ok.ofgd h
      rw [← hQQ]
      exact J_zret C hret (narB g_2).1 (Nat.le_of_ble_eq_true rfl) (Nat.le_of_ble_eq_true rfl) ⟨_, h.osome, rfl, rfl, rfl⟩ dX12_does_178
    · have h := h.neg c_1
      refine J_aload_n (i := 0) (p := 0) C dX12_does_157 rfl rfl rfl ?_
      refine Jm_getS (o2 := 6) (r2 := 2023) C fp_RX12_30 rfl rfl rfl dX12_does_158 rfl ?_
      refine J_iload (i := 4) (p := 3) C dX12_does_161 rfl rfl ?_
      refine J_aload_n (i := 0) (p := 0) C dX12_does_163 rfl rfl rfl ?_
      refine Jm_getS (o2 := 32) (r2 := 2049) C fp_RX12_116 rfl rfl rfl dX12_does_164 rfl ?_
      refine J_iload (i := 4) (p := 3) C dX12_does_167 rfl rfl ?_
      obtain ⟨g_3, h⟩ := Ok.ofgd h
      refine Jm_iald C rfl rfl g_3 dX12_does_169 rfl ?_
      obtain ⟨g_4, h⟩ := Ok.ofgd h
      obtain ⟨μx_1, e_μx_1, h⟩ := Ok.nm h
      refine Jm_iast C id rfl rfl g_4 e_μx_1 dX12_does_170 rfl ?_
      obtain ⟨x4_2, e_x4_2, h⟩ := Ok.nm h
      refine J_iincE (i := 4) (p := 3) (lv' := [(4, .int x4_2), (0, .ref (K.2.2 + 2017)), (2, .int l2_151), (3, .int l3_151)]) C e_x4_2 dX12_does_171 rfl (by decide) (Nat.le_of_ble_eq_true rfl) rfl rfl ?_
      refine J_goto (t := 151) C dX12_does_174 (by decide) ?_
      refine J.sub [1, 2, 3, 0] rfl ?_
      exact hB_151 (μx_1, x4_2) h.osome
  have hj_106 : (∀ (μ_106 : Sto) (l2_106 : Int32) (l3_106 : Int32), Ok (f12_does_j106 l1 μ_106 l2_106 l3_106) Qf → J X K 5 False QQ 0 0 2055 (jw K σ μ_106 o) 106 [(0, .ref (K.2.2 + 2017)), (1, .int l1), (2, .int l2_106), (3, .int l3_106)] []) := by
    intro μ_106 l2_106 l3_106 h
    unfold f12_does_j106 at h
    refine loop_gen (S := Sto × Int32) (P := fun s_106 => J X K 5 False QQ 0 0 2055 (jw K σ s_106.1 o) 106 [(0, .ref (K.2.2 + 2017)), (1, .int l1), (2, .int l2_106), (3, .int s_106.2)] []) ?_ FU (μ_106, l3_106) (Ok.ofbnd h)
    intro B_106 hB_106 hE_106 s_106 h
    obtain ⟨μ_106, l3_106⟩ := s_106
    have h : Ok (f12_does_b106 l1 μ_106 l2_106 l3_106) B_106 := h
    change J X K 5 False QQ 0 0 2055 (jw K σ μ_106 o) 106 [(0, .ref (K.2.2 + 2017)), (1, .int l1), (2, .int l2_106), (3, .int l3_106)] []
    unfold f12_does_b106 at h
    refine J_iload_n (i := 3) (p := 3) C dX12_does_106 rfl rfl rfl ?_
    refine J_aload_n (i := 0) (p := 0) C dX12_does_107 rfl rfl rfl ?_
    refine Jm_getI C fp_RX12_161 rfl rfl dX12_does_108 rfl ?_
    refine J_icmp_ge (t := 138) C dX12_does_111 (by decide) rfl (fun c_6 => ?_) (fun c_6 => ?_)
    · have h := h.pos c_6
      have h := hE_106 μ_106 h.osome
      try dsimp only at h
      refine J_aload_n (i := 0) (p := 0) C dX12_does_138 rfl rfl rfl ?_
      refine Jm_cV (rest := []) (st9 := fun p_7 => [.int p_7.1]) C hR hX cv_RX12_247 rfl (Nat.le_of_ble_eq_true rfl) (k12_types hl  (Ok.ofbnd h)) rfl rfl (Nat.le_of_ble_eq_true rfl) (Nat.le_of_ble_eq_true rfl) (Nat.le_of_ble_eq_true rfl) ⟨(Nat.le_of_ble_eq_true rfl), (Nat.le_of_ble_eq_true rfl)⟩ dX12_does_139 rfl (fun E n9 w9 hx => JT_n hx) (fun _ => rfl) (fun p_7 h => ?_)
      have h : Ok _ _ := h
      change J X K 5 False QQ 0 0 2055 (jw K σ p_7.2 o) 142 [(0, .ref (K.2.2 + 2017)), (1, .int l1), (2, .int l2_106), (3, .int l3_106)] [.int p_7.1]
      obtain ⟨x3_3, e_x3_3, h⟩ := Ok.nm h
      refine J_istoreE_n (i := 3) (lv' := [(3, .int x3_3), (0, .ref (K.2.2 + 2017)), (1, .int l1), (2, .int l2_106)]) C e_x3_3 dX12_does_142 rfl (Nat.le_of_ble_eq_true rfl) rfl rfl ?_
      refine J_aload_n (i := 0) (p := 1) C dX12_does_143 rfl rfl rfl ?_
      refine J_iload_n (i := 2) (p := 3) C dX12_does_144 rfl rfl rfl ?_
      obtain ⟨μx_4, e_μx_4, h⟩ := Ok.nm h
      refine Jm_putI C id fp_RX12_161 fw_11_11 rfl rfl rfl e_μx_4 dX12_does_145 rfl ?_
      refine J_iconst (v := 0) C (by decide) dX12_does_148 rfl ?_
      obtain ⟨x4_5, e_x4_5, h⟩ := Ok.nm h
      refine J_istoreE (i := 4) (lv' := [(4, .int x4_5), (3, .int x3_3), (0, .ref (K.2.2 + 2017)), (1, .int l1), (2, .int l2_106)]) C e_x4_5 dX12_does_149 (Nat.le_of_ble_eq_true rfl) rfl rfl ?_
      refine J.sub [2, 4, 1, 0] rfl ?_
      exact hj_151 μx_4 l2_106 x3_3 x4_5 h
    · have h := h.neg c_6
      refine J_aload_n (i := 0) (p := 0) C dX12_does_114 rfl rfl rfl ?_
      refine Jm_getS (o2 := 6) (r2 := 2023) C fp_RX12_30 rfl rfl rfl dX12_does_115 rfl ?_
      refine J_iload_n (i := 3) (p := 3) C dX12_does_118 rfl rfl rfl ?_
      refine J_aload_n (i := 0) (p := 0) C dX12_does_119 rfl rfl rfl ?_
      refine Jm_getS (o2 := 31) (r2 := 2048) C fp_RX12_113 rfl rfl rfl dX12_does_120 rfl ?_
      refine J_sipush (v := 200) C (by decide) dX12_does_123 rfl ?_
      refine J_iload_n (i := 1) (p := 1) C dX12_does_126 rfl rfl rfl ?_
      refine J_imul C dX12_does_127 rfl ?_
      refine J_iload_n (i := 3) (p := 3) C dX12_does_128 rfl rfl rfl ?_
      refine J_iadd C dX12_does_129 rfl ?_
      obtain ⟨g_8, h⟩ := Ok.ofgd h
      refine Jm_iald C rfl rfl g_8 dX12_does_130 rfl ?_
      obtain ⟨g_9, h⟩ := Ok.ofgd h
      obtain ⟨μx_6, e_μx_6, h⟩ := Ok.nm h
      refine Jm_iast C id rfl rfl g_9 e_μx_6 dX12_does_131 rfl ?_
      obtain ⟨x3_7, e_x3_7, h⟩ := Ok.nm h
      refine J_iincE (i := 3) (p := 3) (lv' := [(3, .int x3_7), (0, .ref (K.2.2 + 2017)), (1, .int l1), (2, .int l2_106)]) C e_x3_7 dX12_does_132 rfl (by decide) (Nat.le_of_ble_eq_true rfl) rfl rfl ?_
      refine J_goto (t := 106) C dX12_does_135 (by decide) ?_
      refine J.sub [1, 2, 3, 0] rfl ?_
      exact hB_106 (μx_6, x3_7) h.osome
  have hj_71 : (∀ (μ_71 : Sto) (l2_71 : Int32) (l3_71 : Int32), Ok (f12_does_j71 l1 μ_71 l2_71 l3_71) Qf → J X K 5 False QQ 0 0 2055 (jw K σ μ_71 o) 71 [(0, .ref (K.2.2 + 2017)), (1, .int l1), (2, .int l2_71), (3, .int l3_71)] []) := by
    intro μ_71 l2_71 l3_71 h
    unfold f12_does_j71 at h
    refine loop_gen (S := Sto × Int32) (P := fun s_71 => J X K 5 False QQ 0 0 2055 (jw K σ s_71.1 o) 71 [(0, .ref (K.2.2 + 2017)), (1, .int l1), (2, .int l2_71), (3, .int s_71.2)] []) ?_ FU (μ_71, l3_71) (Ok.ofbnd h)
    intro B_71 hB_71 hE_71 s_71 h
    obtain ⟨μ_71, l3_71⟩ := s_71
    have h : Ok (f12_does_b71 l1 μ_71 l2_71 l3_71) B_71 := h
    change J X K 5 False QQ 0 0 2055 (jw K σ μ_71 o) 71 [(0, .ref (K.2.2 + 2017)), (1, .int l1), (2, .int l2_71), (3, .int l3_71)] []
    unfold f12_does_b71 at h
    refine J_iload_n (i := 3) (p := 3) C dX12_does_71 rfl rfl rfl ?_
    refine J_iload_n (i := 2) (p := 2) C dX12_does_72 rfl rfl rfl ?_
    refine J_icmp_ge (t := 94) C dX12_does_73 (by decide) rfl (fun c_11 => ?_) (fun c_11 => ?_)
    · have h := h.pos c_11
      have h := hE_71 μ_71 h.osome
      try dsimp only at h
      refine J_aload_n (i := 0) (p := 0) C dX12_does_94 rfl rfl rfl ?_
      refine J_aload_n (i := 0) (p := 0) C dX12_does_95 rfl rfl rfl ?_
      refine Jm_getS (o2 := 30) (r2 := 2047) C fp_RX12_110 rfl rfl rfl dX12_does_96 rfl ?_
      refine J_iload_n (i := 1) (p := 1) C dX12_does_99 rfl rfl rfl ?_
      obtain ⟨g_12, h⟩ := Ok.ofgd h
      refine Jm_iald C rfl rfl g_12 dX12_does_100 rfl ?_
      obtain ⟨μx_11, e_μx_11, h⟩ := Ok.nm h
      refine Jm_putI C id fp_RX12_161 fw_11_11 rfl rfl rfl e_μx_11 dX12_does_101 rfl ?_
      refine J_iconst (v := 0) C (by decide) dX12_does_104 rfl ?_
      obtain ⟨x3_12, e_x3_12, h⟩ := Ok.nm h
      refine J_istoreE_n (i := 3) (lv' := [(3, .int x3_12), (0, .ref (K.2.2 + 2017)), (1, .int l1), (2, .int l2_71)]) C e_x3_12 dX12_does_105 rfl (Nat.le_of_ble_eq_true rfl) rfl rfl ?_
      refine J.sub [1, 2, 3, 0] rfl ?_
      exact hj_106 μx_11 l2_71 x3_12 h
    · have h := h.neg c_11
      refine J_aload_n (i := 0) (p := 0) C dX12_does_76 rfl rfl rfl ?_
      refine Jm_getS (o2 := 32) (r2 := 2049) C fp_RX12_116 rfl rfl rfl dX12_does_77 rfl ?_
      refine J_iload_n (i := 3) (p := 3) C dX12_does_80 rfl rfl rfl ?_
      refine J_aload_n (i := 0) (p := 0) C dX12_does_81 rfl rfl rfl ?_
      refine Jm_getS (o2 := 6) (r2 := 2023) C fp_RX12_30 rfl rfl rfl dX12_does_82 rfl ?_
      refine J_iload_n (i := 3) (p := 3) C dX12_does_85 rfl rfl rfl ?_
      obtain ⟨g_13, h⟩ := Ok.ofgd h
      refine Jm_iald C rfl rfl g_13 dX12_does_86 rfl ?_
      obtain ⟨g_14, h⟩ := Ok.ofgd h
      obtain ⟨μx_13, e_μx_13, h⟩ := Ok.nm h
      refine Jm_iast C id rfl rfl g_14 e_μx_13 dX12_does_87 rfl ?_
      obtain ⟨x3_14, e_x3_14, h⟩ := Ok.nm h
      refine J_iincE (i := 3) (p := 3) (lv' := [(3, .int x3_14), (0, .ref (K.2.2 + 2017)), (1, .int l1), (2, .int l2_71)]) C e_x3_14 dX12_does_88 rfl (by decide) (Nat.le_of_ble_eq_true rfl) rfl rfl ?_
      refine J_goto (t := 71) C dX12_does_91 (by decide) ?_
      refine J.sub [1, 2, 3, 0] rfl ?_
      exact hB_71 (μx_13, x3_14) h.osome
  unfold f12_does at h
  refine J_aload_n (i := 0) (p := 0) C dX12_does_0 rfl rfl rfl ?_
  refine Jm_getS (o2 := 27) (r2 := 2044) C fp_RX12_101 rfl rfl rfl dX12_does_1 rfl ?_
  refine J_iload_n (i := 1) (p := 1) C dX12_does_4 rfl rfl rfl ?_
  obtain ⟨g_16, h⟩ := Ok.ofgd h
  refine Jm_iald C rfl rfl g_16 dX12_does_5 rfl ?_
  refine J_iconst (v := 2) C (by decide) dX12_does_6 rfl ?_
  refine J_icmp_ne (t := 28) C dX12_does_7 (by decide) rfl (fun c_17 => ?_) (fun c_17 => ?_)
  · have h := h.neg c_17
    refine J_aload_n (i := 0) (p := 0) C dX12_does_28 rfl rfl rfl ?_
    refine Jm_getS (o2 := 27) (r2 := 2044) C fp_RX12_101 rfl rfl rfl dX12_does_29 rfl ?_
    refine J_iload_n (i := 1) (p := 1) C dX12_does_32 rfl rfl rfl ?_
    obtain ⟨g_18, h⟩ := Ok.ofgd h
    refine Jm_iald C rfl rfl g_18 dX12_does_33 rfl ?_
    refine J_iconst (v := 1) C (by decide) dX12_does_34 rfl ?_
    refine J_icmp_ne (t := 49) C dX12_does_35 (by decide) rfl (fun c_19 => ?_) (fun c_19 => ?_)
    · have h := h.neg c_19
      refine J_aload_n (i := 0) (p := 0) C dX12_does_49 rfl rfl rfl ?_
      refine Jm_getS (o2 := 27) (r2 := 2044) C fp_RX12_101 rfl rfl rfl dX12_does_50 rfl ?_
      refine J_iload_n (i := 1) (p := 1) C dX12_does_53 rfl rfl rfl ?_
      obtain ⟨g_20, h⟩ := Ok.ofgd h
      refine Jm_iald C rfl rfl g_20 dX12_does_54 rfl ?_
      refine J_iconst (v := 3) C (by decide) dX12_does_55 rfl ?_
      refine J_icmp_ne (t := 64) C dX12_does_56 (by decide) rfl (fun c_21 => ?_) (fun c_21 => ?_)
      · have h := h.neg c_21
        refine J_aload_n (i := 0) (p := 0) C dX12_does_64 rfl rfl rfl ?_
        refine Jm_getI C fp_RX12_161 rfl rfl dX12_does_65 rfl ?_
        obtain ⟨x2_17, e_x2_17, h⟩ := Ok.nm h
        refine J_istoreE_n (i := 2) (lv' := [(2, .int x2_17), (0, .ref (K.2.2 + 2017)), (1, .int l1)]) C e_x2_17 dX12_does_68 rfl (Nat.le_of_ble_eq_true rfl) rfl rfl ?_
        refine J_iconst (v := 0) C (by decide) dX12_does_69 rfl ?_
        obtain ⟨x3_18, e_x3_18, h⟩ := Ok.nm h
        refine J_istoreE_n (i := 3) (lv' := [(3, .int x3_18), (2, .int x2_17), (0, .ref (K.2.2 + 2017)), (1, .int l1)]) C e_x3_18 dX12_does_70 rfl (Nat.le_of_ble_eq_true rfl) rfl rfl ?_
        refine J.sub [2, 3, 1, 0] rfl ?_
        exact hj_71 μ x2_17 x3_18 h
      · have h := h.pos (Decidable.not_not.mp c_21)
        refine J_aload_n (i := 0) (p := 0) C dX12_does_59 rfl rfl rfl ?_
        refine Jm_cV (rest := []) (st9 := fun p_22 => [.int p_22.1]) C hR hX cv_RX12_273 rfl (Nat.le_of_ble_eq_true rfl) (k12_pastes hl  (Ok.ofbnd h)) rfl rfl (Nat.le_of_ble_eq_true rfl) (Nat.le_of_ble_eq_true rfl) (Nat.le_of_ble_eq_true rfl) ⟨(Nat.le_of_ble_eq_true rfl), (Nat.le_of_ble_eq_true rfl)⟩ dX12_does_60 rfl (fun E n9 w9 hx => JT_n hx) (fun _ => rfl) (fun p_22 h => ?_)
        have h : Ok _ _ := h
        change J X K 5 False QQ 0 0 2055 (jw K σ p_22.2 o) 63 [(0, .ref (K.2.2 + 2017)), (1, .int l1)] [.int p_22.1]
        obtain ⟨g_23, h⟩ := Ok.ofgd h
        rw [← hQQ]
        exact J_zret C hret (narB g_23).1 (Nat.le_of_ble_eq_true rfl) (Nat.le_of_ble_eq_true rfl) ⟨_, h.osome, rfl, rfl, rfl⟩ dX12_does_63
    · have h := h.pos (Decidable.not_not.mp c_19)
      refine J_aload_n (i := 0) (p := 0) C dX12_does_38 rfl rfl rfl ?_
      refine J_aload_n (i := 0) (p := 0) C dX12_does_39 rfl rfl rfl ?_
      refine Jm_getS (o2 := 28) (r2 := 2045) C fp_RX12_104 rfl rfl rfl dX12_does_40 rfl ?_
      refine J_iload_n (i := 1) (p := 1) C dX12_does_43 rfl rfl rfl ?_
      obtain ⟨g_24, h⟩ := Ok.ofgd h
      refine Jm_iald C rfl rfl g_24 dX12_does_44 rfl ?_
      refine Jm_cV (rest := []) (st9 := fun p_25 => [.int p_25.1]) C hR hX cv_RX12_264 rfl (Nat.le_of_ble_eq_true rfl) (k12_erases hl  (Ok.ofbnd h)) rfl rfl (Nat.le_of_ble_eq_true rfl) (Nat.le_of_ble_eq_true rfl) (Nat.le_of_ble_eq_true rfl) ⟨(Nat.le_of_ble_eq_true rfl), (Nat.le_of_ble_eq_true rfl)⟩ dX12_does_45 rfl (fun E n9 w9 hx => JT_n hx) (fun _ => rfl) (fun p_25 h => ?_)
      have h : Ok _ _ := h
      change J X K 5 False QQ 0 0 2055 (jw K σ p_25.2 o) 48 [(0, .ref (K.2.2 + 2017)), (1, .int l1)] [.int p_25.1]
      obtain ⟨g_26, h⟩ := Ok.ofgd h
      rw [← hQQ]
      exact J_zret C hret (narB g_26).1 (Nat.le_of_ble_eq_true rfl) (Nat.le_of_ble_eq_true rfl) ⟨_, h.osome, rfl, rfl, rfl⟩ dX12_does_48
  · have h := h.pos (Decidable.not_not.mp c_17)
    refine J_aload_n (i := 0) (p := 0) C dX12_does_10 rfl rfl rfl ?_
    refine J_aload_n (i := 0) (p := 0) C dX12_does_11 rfl rfl rfl ?_
    refine Jm_getS (o2 := 28) (r2 := 2045) C fp_RX12_104 rfl rfl rfl dX12_does_12 rfl ?_
    refine J_iload_n (i := 1) (p := 1) C dX12_does_15 rfl rfl rfl ?_
    obtain ⟨g_27, h⟩ := Ok.ofgd h
    refine Jm_iald C rfl rfl g_27 dX12_does_16 rfl ?_
    refine J_aload_n (i := 0) (p := 0) C dX12_does_17 rfl rfl rfl ?_
    refine Jm_getS (o2 := 29) (r2 := 2046) C fp_RX12_107 rfl rfl rfl dX12_does_18 rfl ?_
    refine J_iload_n (i := 1) (p := 1) C dX12_does_21 rfl rfl rfl ?_
    obtain ⟨g_28, h⟩ := Ok.ofgd h
    refine Jm_iald C rfl rfl g_28 dX12_does_22 rfl ?_
    refine Jm_cV (rest := []) (st9 := fun p_29 => []) C hR hX cv_RX12_339 rfl (Nat.le_of_ble_eq_true rfl) (k12_movesCursors hl  (Ok.ofbnd h)) rfl rfl (Nat.le_of_ble_eq_true rfl) (Nat.le_of_ble_eq_true rfl) (Nat.le_of_ble_eq_true rfl) ⟨(Nat.le_of_ble_eq_true rfl), (Nat.le_of_ble_eq_true rfl)⟩ dX12_does_23 rfl (fun E n9 w9 hx => JT_n hx) (fun _ => rfl) (fun p_29 h => ?_)
    have h : Ok _ _ := h
    change J X K 5 False QQ 0 0 2055 (jw K σ p_29 o) 26 [(0, .ref (K.2.2 + 2017)), (1, .int l1)] []
    refine J_iconst (v := 1) C (by decide) dX12_does_26 rfl ?_
    rw [← hQQ]
    exact J_zret C hret rfl (Nat.le_of_ble_eq_true rfl) (Nat.le_of_ble_eq_true rfl) ⟨_, h.osome, rfl, rfl, rfl⟩ dX12_does_27
def f12_play_j116 (l1 : Int32) (μ_116 : Sto) (l3_116 : Int32) : Option (Int32 × Sto) :=
  bnd (f12_told μ_116 l3_116) fun p_1 =>
  some (p_1.1, p_1.2)
def f12_play_j108 (l1 : Int32) (μ_108 : Sto) (l2_108 : Int32) (l3_108 : Int32) : Option (Int32 × Sto) :=
  if l2_108 = 0 then
    bnd (f12_closes μ_108) fun p_3 =>
    f12_play_j116 l1 p_3 l3_108
  else
    f12_play_j116 l1 μ_108 l3_108
def f12_play_j102 (l1 : Int32) (l2_47 : Int32) (μ_102 : Sto) (l3_102 : Int32) (l4_102 : Int32) (l5_102 : Int32) : Option ((Sto × Int32 × Int32 × Int32) ⊕ (Sto × Int32)) :=
  stp (l5_102 + (1 : Int32)) fun x5_1 =>
  some (.inl (μ_102, l3_102, l4_102, x5_1))
def f12_play_j94 (l1 : Int32) (l2_47 : Int32) (l5_61 : Int32) (μ_94 : Sto) (l4_94 : Int32) (l6_94 : Int32) (s0_94 : Int32) (s1_94 : Int32) : Option ((Sto × Int32 × Int32 × Int32) ⊕ (Sto × Int32 × Int32)) :=
  stp (s0_94 + s1_94) fun x3_2 =>
  stp (l6_94 + (1 : Int32)) fun x6_3 =>
  some (.inl (μ_94, x3_2, l4_94, x6_3))
def f12_play_b61 (l1 : Int32) (l2_47 : Int32) (μ_61 : Sto) (l3_61 : Int32) (l4_61 : Int32) (l5_61 : Int32) (l6_61 : Int32) : Option ((Sto × Int32 × Int32 × Int32) ⊕ (Sto × Int32 × Int32)) :=
  if (fI μ_61 2017 50) ≤ l6_61 then
    some (.inr (μ_61, l3_61, l4_61))
  else
    if l4_61 = 0 then
      some (.inr (μ_61, l3_61, l4_61))
    else
      bnd (f12_does μ_61 l6_61) fun p_6 =>
      stp p_6.1 fun x4_4 =>
      if x4_4 = 0 then
        f12_play_j94 l1 l2_47 l5_61 p_6.2 x4_4 l6_61 l3_61 (0 : Int32)
      else
        f12_play_j94 l1 l2_47 l5_61 p_6.2 x4_4 l6_61 l3_61 (1 : Int32)
def f12_play_j61 (l1 : Int32) (l2_47 : Int32) (μ_61 : Sto) (l3_61 : Int32) (l4_61 : Int32) (l5_61 : Int32) (l6_61 : Int32) : Option ((Sto × Int32 × Int32 × Int32) ⊕ (Sto × Int32)) :=
  bnd (loopF (fun s_61 => f12_play_b61 l1 l2_47 s_61.1 s_61.2.1 s_61.2.2.1 l5_61 s_61.2.2.2) FU (μ_61, l3_61, l4_61, l6_61)) fun r_61 =>
    f12_play_j102 l1 l2_47 r_61.1 r_61.2.1 r_61.2.2 l5_61
def f12_play_b47 (l1 : Int32) (μ_47 : Sto) (l2_47 : Int32) (l3_47 : Int32) (l4_47 : Int32) (l5_47 : Int32) : Option ((Sto × Int32 × Int32 × Int32) ⊕ (Sto × Int32)) :=
  if l1 ≤ l5_47 then
    some (.inr (μ_47, l3_47))
  else
    if l4_47 = 0 then
      some (.inr (μ_47, l3_47))
    else
      stp (0 : Int32) fun x6_5 =>
      f12_play_j61 l1 l2_47 μ_47 l3_47 l4_47 l5_47 x6_5
def f12_play_j47 (l1 : Int32) (μ_47 : Sto) (l2_47 : Int32) (l3_47 : Int32) (l4_47 : Int32) (l5_47 : Int32) : Option (Int32 × Sto) :=
  bnd (loopF (fun s_47 => f12_play_b47 l1 s_47.1 l2_47 s_47.2.1 s_47.2.2.1 s_47.2.2.2) FU (μ_47, l3_47, l4_47, l5_47)) fun r_47 =>
    f12_play_j108 l1 r_47.1 l2_47 r_47.2
def f12_play (μ : Sto) (l1 : Int32) : Option (Int32 × Sto) :=
  bnd (f12_in l1 (1 : Int32) (20 : Int32)) fun p_10 =>
  if p_10 = 0 then
    bnd (f12_refuse μ (1 : Int32)) fun p_14 =>
    some (p_14.1, p_14.2)
  else
    if (fI μ 2017 51) = 0 then
      stp (fI μ 2017 34) fun x2_6 =>
      stp (uI μ 2017 34 (1 : Int32)) fun μx_7 =>
      stp (0 : Int32) fun x3_8 =>
      stp (1 : Int32) fun x4_9 =>
      stp (0 : Int32) fun x5_10 =>
      f12_play_j47 l1 μx_7 x2_6 x3_8 x4_9 x5_10
    else
      bnd (f12_refuse μ (2 : Int32)) fun p_13 =>
      some (p_13.1, p_13.2)
set_option maxHeartbeats 4000000 in
set_option maxRecDepth 100000 in
theorem k12_play {l : Launch} {K : JK} (hl : l.stackTraces = false) {σ μ : Sto} {o : Int64} {l1 : Int32}  {Qf : Int32 × Sto → Prop} (h : Ok (f12_play μ l1) Qf) : Con l K yX12_play (.code yX12_play cX12_play 7 (some .int) :: TB) 6 0 0 False [.ref (K.2.2 + 2017), .int l1] 2055 (jw K σ μ o) (PR Qf (fun p => some (.int p.1)) (fun p => jw K σ p.2 o)) PN := by
  refine Con.enter (own := RX12) hl (by decide) rfl (Nat.le_of_ble_eq_true rfl) ?_
  intro X hX hR C hret hnt
  generalize hQQ : jQ X K 0 0 (PR Qf (fun p => some (.int p.1)) (fun p => jw K σ p.2 o)) PN False = QQ
  change J X K 7 False QQ 0 0 2055 (jw K σ μ o) 0 [(0, .ref (K.2.2 + 2017)), (1, .int l1)] []
  have hj_116 : (∀ (μ_116 : Sto) (l3_116 : Int32), Ok (f12_play_j116 l1 μ_116 l3_116) Qf → J X K 7 False QQ 0 0 2055 (jw K σ μ_116 o) 116 [(0, .ref (K.2.2 + 2017)), (3, .int l3_116)] []) := by
    intro μ_116 l3_116 h
    unfold f12_play_j116 at h
    refine J_aload_n (i := 0) (p := 0) C dX12_play_116 rfl rfl rfl ?_
    refine J_iload_n (i := 3) (p := 1) C dX12_play_117 rfl rfl rfl ?_
    refine Jm_cV (rest := []) (st9 := fun p_1 => [.int p_1.1]) C hR hX cv_RX12_209 rfl (Nat.le_of_ble_eq_true rfl) (k12_told hl  (Ok.ofbnd h)) rfl rfl (Nat.le_of_ble_eq_true rfl) (Nat.le_of_ble_eq_true rfl) (Nat.le_of_ble_eq_true rfl) ⟨(Nat.le_of_ble_eq_true rfl), (Nat.le_of_ble_eq_true rfl)⟩ dX12_play_118 rfl (fun E n9 w9 hx => JT_n hx) (fun _ => rfl) (fun p_1 h => ?_)
    have h : Ok _ _ := h
    change J X K 7 False QQ 0 0 2055 (jw K σ p_1.2 o) 121 [(0, .ref (K.2.2 + 2017)), (3, .int l3_116)] [.int p_1.1]
    rw [← hQQ]
    exact J_iret C hret (Nat.le_of_ble_eq_true rfl) (Nat.le_of_ble_eq_true rfl) ⟨_, h.osome, rfl, rfl, rfl⟩ dX12_play_121
  have hj_108 : (∀ (μ_108 : Sto) (l2_108 : Int32) (l3_108 : Int32), Ok (f12_play_j108 l1 μ_108 l2_108 l3_108) Qf → J X K 7 False QQ 0 0 2055 (jw K σ μ_108 o) 108 [(0, .ref (K.2.2 + 2017)), (2, .int l2_108), (3, .int l3_108)] []) := by
    intro μ_108 l2_108 l3_108 h
    unfold f12_play_j108 at h
    refine J_iload_n (i := 2) (p := 1) C dX12_play_108 rfl rfl rfl ?_
    refine J_if_ne (t := 116) C dX12_play_109 (by decide) rfl (fun c_2 => ?_) (fun c_2 => ?_)
    · have h := h.neg c_2
      refine J.sub [0, 2] rfl ?_
      exact hj_116 μ_108 l3_108 h
    · have h := h.pos (Decidable.not_not.mp c_2)
      refine J_aload_n (i := 0) (p := 0) C dX12_play_112 rfl rfl rfl ?_
      refine Jm_cV (rest := []) (st9 := fun p_3 => []) C hR hX cv_RX12_297 rfl (Nat.le_of_ble_eq_true rfl) (k12_closes hl  (Ok.ofbnd h)) rfl rfl (Nat.le_of_ble_eq_true rfl) (Nat.le_of_ble_eq_true rfl) (Nat.le_of_ble_eq_true rfl) ⟨(Nat.le_of_ble_eq_true rfl), (Nat.le_of_ble_eq_true rfl)⟩ dX12_play_113 rfl (fun E n9 w9 hx => JT_n hx) (fun _ => rfl) (fun p_3 h => ?_)
      have h : Ok _ _ := h
      change J X K 7 False QQ 0 0 2055 (jw K σ p_3 o) 116 [(0, .ref (K.2.2 + 2017)), (2, .int l2_108), (3, .int l3_108)] []
      refine J.sub [0, 2] rfl ?_
      exact hj_116 p_3 l3_108 h
  have hj_47 : (∀ (μ_47 : Sto) (l2_47 : Int32) (l3_47 : Int32) (l4_47 : Int32) (l5_47 : Int32), Ok (f12_play_j47 l1 μ_47 l2_47 l3_47 l4_47 l5_47) Qf → J X K 7 False QQ 0 0 2055 (jw K σ μ_47 o) 47 [(0, .ref (K.2.2 + 2017)), (1, .int l1), (2, .int l2_47), (3, .int l3_47), (4, .int l4_47), (5, .int l5_47)] []) := by
    intro μ_47 l2_47 l3_47 l4_47 l5_47 h
    unfold f12_play_j47 at h
    refine loop_gen (S := Sto × Int32 × Int32 × Int32) (P := fun s_47 => J X K 7 False QQ 0 0 2055 (jw K σ s_47.1 o) 47 [(0, .ref (K.2.2 + 2017)), (1, .int l1), (2, .int l2_47), (3, .int s_47.2.1), (4, .int s_47.2.2.1), (5, .int s_47.2.2.2)] []) ?_ FU (μ_47, l3_47, l4_47, l5_47) (Ok.ofbnd h)
    intro B_47 hB_47 hE_47 s_47 h
    obtain ⟨μ_47, l3_47, l4_47, l5_47⟩ := s_47
    have h : Ok (f12_play_b47 l1 μ_47 l2_47 l3_47 l4_47 l5_47) B_47 := h
    change J X K 7 False QQ 0 0 2055 (jw K σ μ_47 o) 47 [(0, .ref (K.2.2 + 2017)), (1, .int l1), (2, .int l2_47), (3, .int l3_47), (4, .int l4_47), (5, .int l5_47)] []
    have hj_102 : (∀ (μ_102 : Sto) (l3_102 : Int32) (l4_102 : Int32) (l5_102 : Int32), Ok (f12_play_j102 l1 l2_47 μ_102 l3_102 l4_102 l5_102) B_47 → J X K 7 False QQ 0 0 2055 (jw K σ μ_102 o) 102 [(0, .ref (K.2.2 + 2017)), (1, .int l1), (2, .int l2_47), (3, .int l3_102), (4, .int l4_102), (5, .int l5_102)] []) := by
      intro μ_102 l3_102 l4_102 l5_102 h
      unfold f12_play_j102 at h
      obtain ⟨x5_1, e_x5_1, h⟩ := Ok.nm h
      refine J_iincE (i := 5) (p := 5) (lv' := [(5, .int x5_1), (0, .ref (K.2.2 + 2017)), (1, .int l1), (2, .int l2_47), (3, .int l3_102), (4, .int l4_102)]) C e_x5_1 dX12_play_102 rfl (by decide) (Nat.le_of_ble_eq_true rfl) rfl rfl ?_
      refine J_goto (t := 47) C dX12_play_105 (by decide) ?_
      refine J.sub [1, 2, 3, 4, 5, 0] rfl ?_
      exact hB_47 (μ_102, l3_102, l4_102, x5_1) h.osome
    have hj_61 : (∀ (μ_61 : Sto) (l3_61 : Int32) (l4_61 : Int32) (l5_61 : Int32) (l6_61 : Int32), Ok (f12_play_j61 l1 l2_47 μ_61 l3_61 l4_61 l5_61 l6_61) B_47 → J X K 7 False QQ 0 0 2055 (jw K σ μ_61 o) 61 [(0, .ref (K.2.2 + 2017)), (1, .int l1), (2, .int l2_47), (3, .int l3_61), (4, .int l4_61), (5, .int l5_61), (6, .int l6_61)] []) := by
      intro μ_61 l3_61 l4_61 l5_61 l6_61 h
      unfold f12_play_j61 at h
      refine loop_gen (S := Sto × Int32 × Int32 × Int32) (P := fun s_61 => J X K 7 False QQ 0 0 2055 (jw K σ s_61.1 o) 61 [(0, .ref (K.2.2 + 2017)), (1, .int l1), (2, .int l2_47), (3, .int s_61.2.1), (4, .int s_61.2.2.1), (5, .int l5_61), (6, .int s_61.2.2.2)] []) ?_ FU (μ_61, l3_61, l4_61, l6_61) (Ok.ofbnd h)
      intro B_61 hB_61 hE_61 s_61 h
      obtain ⟨μ_61, l3_61, l4_61, l6_61⟩ := s_61
      have h : Ok (f12_play_b61 l1 l2_47 μ_61 l3_61 l4_61 l5_61 l6_61) B_61 := h
      change J X K 7 False QQ 0 0 2055 (jw K σ μ_61 o) 61 [(0, .ref (K.2.2 + 2017)), (1, .int l1), (2, .int l2_47), (3, .int l3_61), (4, .int l4_61), (5, .int l5_61), (6, .int l6_61)] []
      have hj_94 : (∀ (μ_94 : Sto) (l4_94 : Int32) (l6_94 : Int32) (s0_94 : Int32) (s1_94 : Int32), Ok (f12_play_j94 l1 l2_47 l5_61 μ_94 l4_94 l6_94 s0_94 s1_94) B_61 → J X K 7 False QQ 0 0 2055 (jw K σ μ_94 o) 94 [(0, .ref (K.2.2 + 2017)), (1, .int l1), (2, .int l2_47), (4, .int l4_94), (5, .int l5_61), (6, .int l6_94)] [.int s1_94, .int s0_94]) := by
        intro μ_94 l4_94 l6_94 s0_94 s1_94 h
        unfold f12_play_j94 at h
        refine J_iadd C dX12_play_94 rfl ?_
        obtain ⟨x3_2, e_x3_2, h⟩ := Ok.nm h
        refine J_istoreE_n (i := 3) (lv' := [(3, .int x3_2), (0, .ref (K.2.2 + 2017)), (1, .int l1), (2, .int l2_47), (4, .int l4_94), (5, .int l5_61), (6, .int l6_94)]) C e_x3_2 dX12_play_95 rfl (Nat.le_of_ble_eq_true rfl) rfl rfl ?_
        obtain ⟨x6_3, e_x6_3, h⟩ := Ok.nm h
        refine J_iincE (i := 6) (p := 6) (lv' := [(6, .int x6_3), (3, .int x3_2), (0, .ref (K.2.2 + 2017)), (1, .int l1), (2, .int l2_47), (4, .int l4_94), (5, .int l5_61)]) C e_x6_3 dX12_play_96 rfl (by decide) (Nat.le_of_ble_eq_true rfl) rfl rfl ?_
        refine J_goto (t := 61) C dX12_play_99 (by decide) ?_
        refine J.sub [2, 3, 4, 1, 5, 6, 0] rfl ?_
        exact hB_61 (μ_94, x3_2, l4_94, x6_3) h.osome
      unfold f12_play_b61 at h
      refine J_iload (i := 6) (p := 6) C dX12_play_61 rfl rfl ?_
      refine J_aload_n (i := 0) (p := 0) C dX12_play_63 rfl rfl rfl ?_
      refine Jm_getI C fp_RX12_357 rfl rfl dX12_play_64 rfl ?_
      refine J_icmp_ge (t := 102) C dX12_play_67 (by decide) rfl (fun c_4 => ?_) (fun c_4 => ?_)
      · have h := h.pos c_4
        have h := hE_61 (μ_61, l3_61, l4_61) h.osome
        try dsimp only at h
        refine J.sub [0, 1, 2, 3, 4, 5] rfl ?_
        exact hj_102 μ_61 l3_61 l4_61 l5_61 h
      · have h := h.neg c_4
        refine J_iload (i := 4) (p := 4) C dX12_play_70 rfl rfl ?_
        refine J_if_eq (t := 102) C dX12_play_72 (by decide) rfl (fun c_5 => ?_) (fun c_5 => ?_)
        · have h := h.pos c_5
          have h := hE_61 (μ_61, l3_61, l4_61) h.osome
          try dsimp only at h
          refine J.sub [0, 1, 2, 3, 4, 5] rfl ?_
          exact hj_102 μ_61 l3_61 l4_61 l5_61 h
        · have h := h.neg c_5
          refine J_aload_n (i := 0) (p := 0) C dX12_play_75 rfl rfl rfl ?_
          refine J_iload (i := 6) (p := 6) C dX12_play_76 rfl rfl ?_
          refine Jm_cV (rest := []) (st9 := fun p_6 => [.int p_6.1]) C hR hX cv_RX12_360 rfl (Nat.le_of_ble_eq_true rfl) (k12_does hl  (Ok.ofbnd h)) rfl rfl (Nat.le_of_ble_eq_true rfl) (Nat.le_of_ble_eq_true rfl) (Nat.le_of_ble_eq_true rfl) ⟨(Nat.le_of_ble_eq_true rfl), (Nat.le_of_ble_eq_true rfl)⟩ dX12_play_78 rfl (fun E n9 w9 hx => JT_n hx) (fun _ => rfl) (fun p_6 h => ?_)
          have h : Ok _ _ := h
          change J X K 7 False QQ 0 0 2055 (jw K σ p_6.2 o) 81 [(0, .ref (K.2.2 + 2017)), (1, .int l1), (2, .int l2_47), (3, .int l3_61), (4, .int l4_61), (5, .int l5_61), (6, .int l6_61)] [.int p_6.1]
          obtain ⟨x4_4, e_x4_4, h⟩ := Ok.nm h
          refine J_istoreE (i := 4) (lv' := [(4, .int x4_4), (0, .ref (K.2.2 + 2017)), (1, .int l1), (2, .int l2_47), (3, .int l3_61), (5, .int l5_61), (6, .int l6_61)]) C e_x4_4 dX12_play_81 (Nat.le_of_ble_eq_true rfl) rfl rfl ?_
          refine J_iload_n (i := 3) (p := 4) C dX12_play_83 rfl rfl rfl ?_
          refine J_iload (i := 4) (p := 0) C dX12_play_84 rfl rfl ?_
          refine J_if_eq (t := 93) C dX12_play_86 (by decide) rfl (fun c_7 => ?_) (fun c_7 => ?_)
          · have h := h.pos c_7
            refine J_iconst (v := 0) C (by decide) dX12_play_93 rfl ?_
            refine J.sub [1, 2, 3, 0, 5, 6] rfl ?_
            exact hj_94 p_6.2 x4_4 l6_61 l3_61 (0 : Int32) h
          · have h := h.neg c_7
            refine J_iconst (v := 1) C (by decide) dX12_play_89 rfl ?_
            refine J_goto (t := 94) C dX12_play_90 (by decide) ?_
            refine J.sub [1, 2, 3, 0, 5, 6] rfl ?_
            exact hj_94 p_6.2 x4_4 l6_61 l3_61 (1 : Int32) h
    unfold f12_play_b47 at h
    refine J_iload (i := 5) (p := 5) C dX12_play_47 rfl rfl ?_
    refine J_iload_n (i := 1) (p := 1) C dX12_play_49 rfl rfl rfl ?_
    refine J_icmp_ge (t := 108) C dX12_play_50 (by decide) rfl (fun c_8 => ?_) (fun c_8 => ?_)
    · have h := h.pos c_8
      have h := hE_47 (μ_47, l3_47) h.osome
      try dsimp only at h
      refine J.sub [0, 2, 3] rfl ?_
      exact hj_108 μ_47 l2_47 l3_47 h
    · have h := h.neg c_8
      refine J_iload (i := 4) (p := 4) C dX12_play_53 rfl rfl ?_
      refine J_if_eq (t := 108) C dX12_play_55 (by decide) rfl (fun c_9 => ?_) (fun c_9 => ?_)
      · have h := h.pos c_9
        have h := hE_47 (μ_47, l3_47) h.osome
        try dsimp only at h
        refine J.sub [0, 2, 3] rfl ?_
        exact hj_108 μ_47 l2_47 l3_47 h
      · have h := h.neg c_9
        refine J_iconst (v := 0) C (by decide) dX12_play_58 rfl ?_
        obtain ⟨x6_5, e_x6_5, h⟩ := Ok.nm h
        refine J_istoreE (i := 6) (lv' := [(6, .int x6_5), (0, .ref (K.2.2 + 2017)), (1, .int l1), (2, .int l2_47), (3, .int l3_47), (4, .int l4_47), (5, .int l5_47)]) C e_x6_5 dX12_play_59 (Nat.le_of_ble_eq_true rfl) rfl rfl ?_
        refine J.sub [1, 2, 3, 4, 5, 6, 0] rfl ?_
        exact hj_61 μ_47 l3_47 l4_47 l5_47 x6_5 h
  unfold f12_play at h
  refine J_iload_n (i := 1) (p := 1) C dX12_play_0 rfl rfl rfl ?_
  refine J_iconst (v := 1) C (by decide) dX12_play_1 rfl ?_
  refine J_bipush (v := 20) C (by decide) dX12_play_2 rfl ?_
  refine J_cS (rest := []) (st9 := fun p_10 => [.int p_10]) C hR hX cs_RX12_134 (k12_in hl  (Ok.ofbnd h)) rfl rfl (Nat.le_of_ble_eq_true rfl) (Nat.le_of_ble_eq_true rfl) (Nat.le_of_ble_eq_true rfl) ⟨(Nat.le_of_ble_eq_true rfl), (Nat.le_of_ble_eq_true rfl)⟩ dX12_play_4 rfl (fun E n9 w9 hx => JT_n hx) (fun _ => rfl) (fun p_10 h => ?_)
  have h : Ok _ _ := h
  change J X K 7 False QQ 0 0 2055 (jw K σ μ o) 7 [(0, .ref (K.2.2 + 2017)), (1, .int l1)] [.int p_10]
  refine J_if_ne (t := 16) C dX12_play_7 (by decide) rfl (fun c_11 => ?_) (fun c_11 => ?_)
  · have h := h.neg c_11
    refine J_aload_n (i := 0) (p := 0) C dX12_play_16 rfl rfl rfl ?_
    refine Jm_getI C fp_RX12_354 rfl rfl dX12_play_17 rfl ?_
    refine J_if_eq (t := 29) C dX12_play_20 (by decide) rfl (fun c_12 => ?_) (fun c_12 => ?_)
    · have h := h.pos c_12
      refine J_aload_n (i := 0) (p := 0) C dX12_play_29 rfl rfl rfl ?_
      refine Jm_getI C fp_RX12_174 rfl rfl dX12_play_30 rfl ?_
      obtain ⟨x2_6, e_x2_6, h⟩ := Ok.nm h
      refine J_istoreE_n (i := 2) (lv' := [(2, .int x2_6), (0, .ref (K.2.2 + 2017)), (1, .int l1)]) C e_x2_6 dX12_play_33 rfl (Nat.le_of_ble_eq_true rfl) rfl rfl ?_
      refine J_aload_n (i := 0) (p := 1) C dX12_play_34 rfl rfl rfl ?_
      refine J_iconst (v := 1) C (by decide) dX12_play_35 rfl ?_
      obtain ⟨μx_7, e_μx_7, h⟩ := Ok.nm h
      refine Jm_putZ C id fp_RX12_174 fw_11_34 rfl rfl rfl rfl e_μx_7 dX12_play_36 rfl ?_
      refine J_iconst (v := 0) C (by decide) dX12_play_39 rfl ?_
      obtain ⟨x3_8, e_x3_8, h⟩ := Ok.nm h
      refine J_istoreE_n (i := 3) (lv' := [(3, .int x3_8), (2, .int x2_6), (0, .ref (K.2.2 + 2017)), (1, .int l1)]) C e_x3_8 dX12_play_40 rfl (Nat.le_of_ble_eq_true rfl) rfl rfl ?_
      refine J_iconst (v := 1) C (by decide) dX12_play_41 rfl ?_
      obtain ⟨x4_9, e_x4_9, h⟩ := Ok.nm h
      refine J_istoreE (i := 4) (lv' := [(4, .int x4_9), (3, .int x3_8), (2, .int x2_6), (0, .ref (K.2.2 + 2017)), (1, .int l1)]) C e_x4_9 dX12_play_42 (Nat.le_of_ble_eq_true rfl) rfl rfl ?_
      refine J_iconst (v := 0) C (by decide) dX12_play_44 rfl ?_
      obtain ⟨x5_10, e_x5_10, h⟩ := Ok.nm h
      refine J_istoreE (i := 5) (lv' := [(5, .int x5_10), (4, .int x4_9), (3, .int x3_8), (2, .int x2_6), (0, .ref (K.2.2 + 2017)), (1, .int l1)]) C e_x5_10 dX12_play_45 (Nat.le_of_ble_eq_true rfl) rfl rfl ?_
      refine J.sub [4, 5, 3, 2, 1, 0] rfl ?_
      exact hj_47 μx_7 x2_6 x3_8 x4_9 x5_10 h
    · have h := h.neg c_12
      refine J_aload_n (i := 0) (p := 0) C dX12_play_23 rfl rfl rfl ?_
      refine J_iconst (v := 2) C (by decide) dX12_play_24 rfl ?_
      refine Jm_cV (rest := []) (st9 := fun p_13 => [.int p_13.1]) C hR hX cv_RX12_206 rfl (Nat.le_of_ble_eq_true rfl) (k12_refuse hl  (Ok.ofbnd h)) rfl rfl (Nat.le_of_ble_eq_true rfl) (Nat.le_of_ble_eq_true rfl) (Nat.le_of_ble_eq_true rfl) ⟨(Nat.le_of_ble_eq_true rfl), (Nat.le_of_ble_eq_true rfl)⟩ dX12_play_25 rfl (fun E n9 w9 hx => JT_n hx) (fun _ => rfl) (fun p_13 h => ?_)
      have h : Ok _ _ := h
      change J X K 7 False QQ 0 0 2055 (jw K σ p_13.2 o) 28 [(0, .ref (K.2.2 + 2017)), (1, .int l1)] [.int p_13.1]
      rw [← hQQ]
      exact J_iret C hret (Nat.le_of_ble_eq_true rfl) (Nat.le_of_ble_eq_true rfl) ⟨_, h.osome, rfl, rfl, rfl⟩ dX12_play_28
  · have h := h.pos (Decidable.not_not.mp c_11)
    refine J_aload_n (i := 0) (p := 0) C dX12_play_10 rfl rfl rfl ?_
    refine J_iconst (v := 1) C (by decide) dX12_play_11 rfl ?_
    refine Jm_cV (rest := []) (st9 := fun p_14 => [.int p_14.1]) C hR hX cv_RX12_206 rfl (Nat.le_of_ble_eq_true rfl) (k12_refuse hl  (Ok.ofbnd h)) rfl rfl (Nat.le_of_ble_eq_true rfl) (Nat.le_of_ble_eq_true rfl) (Nat.le_of_ble_eq_true rfl) ⟨(Nat.le_of_ble_eq_true rfl), (Nat.le_of_ble_eq_true rfl)⟩ dX12_play_12 rfl (fun E n9 w9 hx => JT_n hx) (fun _ => rfl) (fun p_14 h => ?_)
    have h : Ok _ _ := h
    change J X K 7 False QQ 0 0 2055 (jw K σ p_14.2 o) 15 [(0, .ref (K.2.2 + 2017)), (1, .int l1)] [.int p_14.1]
    rw [← hQQ]
    exact J_iret C hret (Nat.le_of_ble_eq_true rfl) (Nat.le_of_ble_eq_true rfl) ⟨_, h.osome, rfl, rfl, rfl⟩ dX12_play_15
def f12_words_j48 (μ : Sto) (l2_48 : Int32) (s0_48 : Int32) (s1_48 : Int32) : Option ((Int32 × Int32) ⊕ Int32) :=
  stp (s0_48 + s1_48) fun x1_1 =>
  stp (l2_48 + (1 : Int32)) fun x2_2 =>
  some (.inl (x1_1, x2_2))
def f12_words_j47 (μ : Sto) (l2_47 : Int32) (s0_47 : Int32) : Option ((Int32 × Int32) ⊕ Int32) :=
  f12_words_j48 μ l2_47 s0_47 (0 : Int32)
def f12_words_j43 (μ : Sto) (l2_43 : Int32) (s0_43 : Int32) : Option ((Int32 × Int32) ⊕ Int32) :=
  f12_words_j48 μ l2_43 s0_43 (1 : Int32)
def f12_words_b4 (μ : Sto) (l1_4 : Int32) (l2_4 : Int32) : Option ((Int32 × Int32) ⊕ Int32) :=
  if (fI μ 2017 5) ≤ l2_4 then
    some (.inr l1_4)
  else
    gd (inb l2_4 3000) <|
    bnd (f12_isOfWord (aI μ 2018 (Int32.toNatClampNeg l2_4))) fun p_3 =>
    if p_3 = 0 then
      f12_words_j47 μ l2_4 l1_4
    else
      if l2_4 = 0 then
        f12_words_j43 μ l2_4 l1_4
      else
        gd (inb (l2_4 - (1 : Int32)) 3000) <|
        bnd (f12_isOfWord (aI μ 2018 (Int32.toNatClampNeg (l2_4 - (1 : Int32))))) fun p_7 =>
        if p_7 = 0 then
          f12_words_j43 μ l2_4 l1_4
        else
          f12_words_j47 μ l2_4 l1_4
def f12_words_j4 (μ : Sto) (l1_4 : Int32) (l2_4 : Int32) : Option (Int32) :=
  bnd (loopF (fun s_4 => f12_words_b4 μ s_4.1 s_4.2) FU (l1_4, l2_4)) fun r_4 =>
    some r_4
def f12_words (μ : Sto) : Option (Int32) :=
  stp (0 : Int32) fun x1_3 =>
  stp (0 : Int32) fun x2_4 =>
  f12_words_j4 μ x1_3 x2_4
set_option maxHeartbeats 4000000 in
set_option maxRecDepth 100000 in
theorem k12_words {l : Launch} {K : JK} (hl : l.stackTraces = false) {σ μ : Sto} {o : Int64}   {Qf : Int32 → Prop} (h : Ok (f12_words μ) Qf) : Con l K yX12_words (.code yX12_words cX12_words 3 (some .int) :: TB) 2 0 0 False [.ref (K.2.2 + 2017)] 2055 (jw K σ μ o) (PR Qf (fun p => some (.int p)) (fun p => jw K σ μ o)) PN := by
  refine Con.enter (own := RX12) hl (by decide) rfl (Nat.le_of_ble_eq_true rfl) ?_
  intro X hX hR C hret hnt
  generalize hQQ : jQ X K 0 0 (PR Qf (fun p => some (.int p)) (fun p => jw K σ μ o)) PN False = QQ
  change J X K 3 False QQ 0 0 2055 (jw K σ μ o) 0 [(0, .ref (K.2.2 + 2017))] []
  have hj_4 : (∀ (l1_4 : Int32) (l2_4 : Int32), Ok (f12_words_j4 μ l1_4 l2_4) Qf → J X K 3 False QQ 0 0 2055 (jw K σ μ o) 4 [(0, .ref (K.2.2 + 2017)), (1, .int l1_4), (2, .int l2_4)] []) := by
    intro l1_4 l2_4 h
    unfold f12_words_j4 at h
    refine loop_gen (S := Int32 × Int32) (P := fun s_4 => J X K 3 False QQ 0 0 2055 (jw K σ μ o) 4 [(0, .ref (K.2.2 + 2017)), (1, .int s_4.1), (2, .int s_4.2)] []) ?_ FU (l1_4, l2_4) (Ok.ofbnd h)
    intro B_4 hB_4 hE_4 s_4 h
    obtain ⟨l1_4, l2_4⟩ := s_4
    have h : Ok (f12_words_b4 μ l1_4 l2_4) B_4 := h
    change J X K 3 False QQ 0 0 2055 (jw K σ μ o) 4 [(0, .ref (K.2.2 + 2017)), (1, .int l1_4), (2, .int l2_4)] []
    have hj_48 : (∀ (l2_48 : Int32) (s0_48 : Int32) (s1_48 : Int32), Ok (f12_words_j48 μ l2_48 s0_48 s1_48) B_4 → J X K 3 False QQ 0 0 2055 (jw K σ μ o) 48 [(0, .ref (K.2.2 + 2017)), (2, .int l2_48)] [.int s1_48, .int s0_48]) := by
      intro l2_48 s0_48 s1_48 h
      unfold f12_words_j48 at h
      refine J_iadd C dX12_words_48 rfl ?_
      obtain ⟨x1_1, e_x1_1, h⟩ := Ok.nm h
      refine J_istoreE_n (i := 1) (lv' := [(1, .int x1_1), (0, .ref (K.2.2 + 2017)), (2, .int l2_48)]) C e_x1_1 dX12_words_49 rfl (Nat.le_of_ble_eq_true rfl) rfl rfl ?_
      obtain ⟨x2_2, e_x2_2, h⟩ := Ok.nm h
      refine J_iincE (i := 2) (p := 2) (lv' := [(2, .int x2_2), (1, .int x1_1), (0, .ref (K.2.2 + 2017))]) C e_x2_2 dX12_words_50 rfl (by decide) (Nat.le_of_ble_eq_true rfl) rfl rfl ?_
      refine J_goto (t := 4) C dX12_words_53 (by decide) ?_
      refine J.sub [2, 1, 0] rfl ?_
      exact hB_4 (x1_1, x2_2) h.osome
    have hj_47 : (∀ (l2_47 : Int32) (s0_47 : Int32), Ok (f12_words_j47 μ l2_47 s0_47) B_4 → J X K 3 False QQ 0 0 2055 (jw K σ μ o) 47 [(0, .ref (K.2.2 + 2017)), (2, .int l2_47)] [.int s0_47]) := by
      intro l2_47 s0_47 h
      unfold f12_words_j47 at h
      refine J_iconst (v := 0) C (by decide) dX12_words_47 rfl ?_
      exact hj_48 l2_47 s0_47 (0 : Int32) h
    have hj_43 : (∀ (l2_43 : Int32) (s0_43 : Int32), Ok (f12_words_j43 μ l2_43 s0_43) B_4 → J X K 3 False QQ 0 0 2055 (jw K σ μ o) 43 [(0, .ref (K.2.2 + 2017)), (2, .int l2_43)] [.int s0_43]) := by
      intro l2_43 s0_43 h
      unfold f12_words_j43 at h
      refine J_iconst (v := 1) C (by decide) dX12_words_43 rfl ?_
      refine J_goto (t := 48) C dX12_words_44 (by decide) ?_
      exact hj_48 l2_43 s0_43 (1 : Int32) h
    unfold f12_words_b4 at h
    refine J_iload_n (i := 2) (p := 2) C dX12_words_4 rfl rfl rfl ?_
    refine J_aload_n (i := 0) (p := 0) C dX12_words_5 rfl rfl rfl ?_
    refine Jm_getI C fp_RX12_138 rfl rfl dX12_words_6 rfl ?_
    refine J_icmp_ge (t := 56) C dX12_words_9 (by decide) rfl (fun c_1 => ?_) (fun c_1 => ?_)
    · have h := h.pos c_1
      have h := hE_4 l1_4 h.osome
      try dsimp only at h
      refine J_iload_n (i := 1) (p := 1) C dX12_words_56 rfl rfl rfl ?_
      rw [← hQQ]
      exact J_iret C hret (Nat.le_of_ble_eq_true rfl) (Nat.le_of_ble_eq_true rfl) ⟨_, h.osome, rfl, rfl, rfl⟩ dX12_words_57
    · have h := h.neg c_1
      refine J_iload_n (i := 1) (p := 1) C dX12_words_12 rfl rfl rfl ?_
      refine J_aload_n (i := 0) (p := 0) C dX12_words_13 rfl rfl rfl ?_
      refine Jm_getS (o2 := 1) (r2 := 2018) C fp_RX12_7 rfl rfl rfl dX12_words_14 rfl ?_
      refine J_iload_n (i := 2) (p := 2) C dX12_words_17 rfl rfl rfl ?_
      obtain ⟨g_2, h⟩ := Ok.ofgd h
      refine Jm_iald C rfl rfl g_2 dX12_words_18 rfl ?_
      refine J_cS (rest := [.int l1_4]) (st9 := fun p_3 => [.int p_3, .int l1_4]) C hR hX cs_RX12_285 (k12_isOfWord hl  (Ok.ofbnd h)) rfl rfl (Nat.le_of_ble_eq_true rfl) (Nat.le_of_ble_eq_true rfl) (Nat.le_of_ble_eq_true rfl) ⟨(Nat.le_of_ble_eq_true rfl), (Nat.le_of_ble_eq_true rfl)⟩ dX12_words_19 rfl (fun E n9 w9 hx => JT_n hx) (fun _ => rfl) (fun p_3 h => ?_)
      have h : Ok _ _ := h
      change J X K 3 False QQ 0 0 2055 (jw K σ μ o) 22 [(0, .ref (K.2.2 + 2017)), (1, .int l1_4), (2, .int l2_4)] [.int p_3, .int l1_4]
      refine J_if_eq (t := 47) C dX12_words_22 (by decide) rfl (fun c_4 => ?_) (fun c_4 => ?_)
      · have h := h.pos c_4
        refine J.sub [0, 2] rfl ?_
        exact hj_47 l2_4 l1_4 h
      · have h := h.neg c_4
        refine J_iload_n (i := 2) (p := 2) C dX12_words_25 rfl rfl rfl ?_
        refine J_if_eq (t := 43) C dX12_words_26 (by decide) rfl (fun c_5 => ?_) (fun c_5 => ?_)
        · have h := h.pos c_5
          refine J.sub [0, 2] rfl ?_
          exact hj_43 l2_4 l1_4 h
        · have h := h.neg c_5
          refine J_aload_n (i := 0) (p := 0) C dX12_words_29 rfl rfl rfl ?_
          refine Jm_getS (o2 := 1) (r2 := 2018) C fp_RX12_7 rfl rfl rfl dX12_words_30 rfl ?_
          refine J_iload_n (i := 2) (p := 2) C dX12_words_33 rfl rfl rfl ?_
          refine J_iconst (v := 1) C (by decide) dX12_words_34 rfl ?_
          refine J_isub C dX12_words_35 rfl ?_
          obtain ⟨g_6, h⟩ := Ok.ofgd h
          refine Jm_iald C rfl rfl g_6 dX12_words_36 rfl ?_
          refine J_cS (rest := [.int l1_4]) (st9 := fun p_7 => [.int p_7, .int l1_4]) C hR hX cs_RX12_285 (k12_isOfWord hl  (Ok.ofbnd h)) rfl rfl (Nat.le_of_ble_eq_true rfl) (Nat.le_of_ble_eq_true rfl) (Nat.le_of_ble_eq_true rfl) ⟨(Nat.le_of_ble_eq_true rfl), (Nat.le_of_ble_eq_true rfl)⟩ dX12_words_37 rfl (fun E n9 w9 hx => JT_n hx) (fun _ => rfl) (fun p_7 h => ?_)
          have h : Ok _ _ := h
          change J X K 3 False QQ 0 0 2055 (jw K σ μ o) 40 [(0, .ref (K.2.2 + 2017)), (1, .int l1_4), (2, .int l2_4)] [.int p_7, .int l1_4]
          refine J_if_ne (t := 47) C dX12_words_40 (by decide) rfl (fun c_8 => ?_) (fun c_8 => ?_)
          · have h := h.neg c_8
            refine J.sub [0, 2] rfl ?_
            exact hj_47 l2_4 l1_4 h
          · have h := h.pos (Decidable.not_not.mp c_8)
            refine J.sub [0, 2] rfl ?_
            exact hj_43 l2_4 l1_4 h
  unfold f12_words at h
  refine J_iconst (v := 0) C (by decide) dX12_words_0 rfl ?_
  obtain ⟨x1_3, e_x1_3, h⟩ := Ok.nm h
  refine J_istoreE_n (i := 1) (lv' := [(1, .int x1_3), (0, .ref (K.2.2 + 2017))]) C e_x1_3 dX12_words_1 rfl (Nat.le_of_ble_eq_true rfl) rfl rfl ?_
  refine J_iconst (v := 0) C (by decide) dX12_words_2 rfl ?_
  obtain ⟨x2_4, e_x2_4, h⟩ := Ok.nm h
  refine J_istoreE_n (i := 2) (lv' := [(2, .int x2_4), (1, .int x1_3), (0, .ref (K.2.2 + 2017))]) C e_x2_4 dX12_words_3 rfl (Nat.le_of_ble_eq_true rfl) rfl rfl ?_
  refine J.sub [2, 1, 0] rfl ?_
  exact hj_4 x1_3 x2_4 h
def f12_marks_j26 (μ : Sto) (l2_26 : Int32) (s0_26 : Int32) (s1_26 : Int32) : Option ((Int32 × Int32) ⊕ Int32) :=
  stp (s0_26 + s1_26) fun x1_1 =>
  stp (l2_26 + (1 : Int32)) fun x2_2 =>
  some (.inl (x1_1, x2_2))
def f12_marks_b4 (μ : Sto) (l1_4 : Int32) (l2_4 : Int32) : Option ((Int32 × Int32) ⊕ Int32) :=
  if (16 : Int32) ≤ l2_4 then
    some (.inr l1_4)
  else
    gd (inb l2_4 16) <|
    if (aI μ 2020 (Int32.toNatClampNeg l2_4)) = (-1 : Int32) then
      f12_marks_j26 μ l2_4 l1_4 (0 : Int32)
    else
      f12_marks_j26 μ l2_4 l1_4 (1 : Int32)
def f12_marks_j4 (μ : Sto) (l1_4 : Int32) (l2_4 : Int32) : Option (Int32) :=
  bnd (loopF (fun s_4 => f12_marks_b4 μ s_4.1 s_4.2) FU (l1_4, l2_4)) fun r_4 =>
    some r_4
def f12_marks (μ : Sto) : Option (Int32) :=
  stp (0 : Int32) fun x1_3 =>
  stp (0 : Int32) fun x2_4 =>
  f12_marks_j4 μ x1_3 x2_4
set_option maxHeartbeats 4000000 in
set_option maxRecDepth 100000 in
theorem k12_marks {l : Launch} {K : JK} (hl : l.stackTraces = false) {σ μ : Sto} {o : Int64}   {Qf : Int32 → Prop} (h : Ok (f12_marks μ) Qf) : Con l K yX12_marks (.code yX12_marks cX12_marks 3 (some .int) :: TB) 0 0 0 False [.ref (K.2.2 + 2017)] 2055 (jw K σ μ o) (PR Qf (fun p => some (.int p)) (fun p => jw K σ μ o)) PN := by
  refine Con.enter (own := RX12) hl (by decide) rfl (Nat.le_of_ble_eq_true rfl) ?_
  intro X hX hR C hret hnt
  generalize hQQ : jQ X K 0 0 (PR Qf (fun p => some (.int p)) (fun p => jw K σ μ o)) PN False = QQ
  change J X K 3 False QQ 0 0 2055 (jw K σ μ o) 0 [(0, .ref (K.2.2 + 2017))] []
  have hj_4 : (∀ (l1_4 : Int32) (l2_4 : Int32), Ok (f12_marks_j4 μ l1_4 l2_4) Qf → J X K 3 False QQ 0 0 2055 (jw K σ μ o) 4 [(0, .ref (K.2.2 + 2017)), (1, .int l1_4), (2, .int l2_4)] []) := by
    intro l1_4 l2_4 h
    unfold f12_marks_j4 at h
    refine loop_gen (S := Int32 × Int32) (P := fun s_4 => J X K 3 False QQ 0 0 2055 (jw K σ μ o) 4 [(0, .ref (K.2.2 + 2017)), (1, .int s_4.1), (2, .int s_4.2)] []) ?_ FU (l1_4, l2_4) (Ok.ofbnd h)
    intro B_4 hB_4 hE_4 s_4 h
    obtain ⟨l1_4, l2_4⟩ := s_4
    have h : Ok (f12_marks_b4 μ l1_4 l2_4) B_4 := h
    change J X K 3 False QQ 0 0 2055 (jw K σ μ o) 4 [(0, .ref (K.2.2 + 2017)), (1, .int l1_4), (2, .int l2_4)] []
    have hj_26 : (∀ (l2_26 : Int32) (s0_26 : Int32) (s1_26 : Int32), Ok (f12_marks_j26 μ l2_26 s0_26 s1_26) B_4 → J X K 3 False QQ 0 0 2055 (jw K σ μ o) 26 [(0, .ref (K.2.2 + 2017)), (2, .int l2_26)] [.int s1_26, .int s0_26]) := by
      intro l2_26 s0_26 s1_26 h
      unfold f12_marks_j26 at h
      refine J_iadd C dX12_marks_26 rfl ?_
      obtain ⟨x1_1, e_x1_1, h⟩ := Ok.nm h
      refine J_istoreE_n (i := 1) (lv' := [(1, .int x1_1), (0, .ref (K.2.2 + 2017)), (2, .int l2_26)]) C e_x1_1 dX12_marks_27 rfl (Nat.le_of_ble_eq_true rfl) rfl rfl ?_
      obtain ⟨x2_2, e_x2_2, h⟩ := Ok.nm h
      refine J_iincE (i := 2) (p := 2) (lv' := [(2, .int x2_2), (1, .int x1_1), (0, .ref (K.2.2 + 2017))]) C e_x2_2 dX12_marks_28 rfl (by decide) (Nat.le_of_ble_eq_true rfl) rfl rfl ?_
      refine J_goto (t := 4) C dX12_marks_31 (by decide) ?_
      refine J.sub [2, 1, 0] rfl ?_
      exact hB_4 (x1_1, x2_2) h.osome
    unfold f12_marks_b4 at h
    refine J_iload_n (i := 2) (p := 2) C dX12_marks_4 rfl rfl rfl ?_
    refine J_bipush (v := 16) C (by decide) dX12_marks_5 rfl ?_
    refine J_icmp_ge (t := 34) C dX12_marks_7 (by decide) rfl (fun c_1 => ?_) (fun c_1 => ?_)
    · have h := h.pos c_1
      have h := hE_4 l1_4 h.osome
      try dsimp only at h
      refine J_iload_n (i := 1) (p := 1) C dX12_marks_34 rfl rfl rfl ?_
      rw [← hQQ]
      exact J_iret C hret (Nat.le_of_ble_eq_true rfl) (Nat.le_of_ble_eq_true rfl) ⟨_, h.osome, rfl, rfl, rfl⟩ dX12_marks_35
    · have h := h.neg c_1
      refine J_iload_n (i := 1) (p := 1) C dX12_marks_10 rfl rfl rfl ?_
      refine J_aload_n (i := 0) (p := 0) C dX12_marks_11 rfl rfl rfl ?_
      refine Jm_getS (o2 := 3) (r2 := 2020) C fp_RX12_16 rfl rfl rfl dX12_marks_12 rfl ?_
      refine J_iload_n (i := 2) (p := 2) C dX12_marks_15 rfl rfl rfl ?_
      obtain ⟨g_2, h⟩ := Ok.ofgd h
      refine Jm_iald C rfl rfl g_2 dX12_marks_16 rfl ?_
      refine J_iconst (v := -1) C (by decide) dX12_marks_17 rfl ?_
      refine J_icmp_ne (t := 25) C dX12_marks_18 (by decide) rfl (fun c_3 => ?_) (fun c_3 => ?_)
      · have h := h.neg c_3
        refine J_iconst (v := 1) C (by decide) dX12_marks_25 rfl ?_
        refine J.sub [0, 2] rfl ?_
        exact hj_26 l2_4 l1_4 (1 : Int32) h
      · have h := h.pos (Decidable.not_not.mp c_3)
        refine J_iconst (v := 0) C (by decide) dX12_marks_21 rfl ?_
        refine J_goto (t := 26) C dX12_marks_22 (by decide) ?_
        refine J.sub [0, 2] rfl ?_
        exact hj_26 l2_4 l1_4 (0 : Int32) h
  unfold f12_marks at h
  refine J_iconst (v := 0) C (by decide) dX12_marks_0 rfl ?_
  obtain ⟨x1_3, e_x1_3, h⟩ := Ok.nm h
  refine J_istoreE_n (i := 1) (lv' := [(1, .int x1_3), (0, .ref (K.2.2 + 2017))]) C e_x1_3 dX12_marks_1 rfl (Nat.le_of_ble_eq_true rfl) rfl rfl ?_
  refine J_iconst (v := 0) C (by decide) dX12_marks_2 rfl ?_
  obtain ⟨x2_4, e_x2_4, h⟩ := Ok.nm h
  refine J_istoreE_n (i := 2) (lv' := [(2, .int x2_4), (1, .int x1_3), (0, .ref (K.2.2 + 2017))]) C e_x2_4 dX12_marks_3 rfl (Nat.le_of_ble_eq_true rfl) rfl rfl ?_
  refine J.sub [2, 1, 0] rfl ?_
  exact hj_4 x1_3 x2_4 h
def f12_count (μ : Sto) (l1 : Int32) : Option (Int32 × Sto) :=
  if Int32.toInt l1 = 0 then
    bnd (f12_told μ (fI μ 2017 5)) fun p_2 =>
    some (p_2.1, p_2.2)
  else if Int32.toInt l1 = 1 then
    bnd (f12_lines μ) fun p_4 =>
    bnd (f12_told μ p_4) fun p_5 =>
    some (p_5.1, p_5.2)
  else if Int32.toInt l1 = 2 then
    bnd (f12_told μ (fI μ 2017 6)) fun p_7 =>
    some (p_7.1, p_7.2)
  else if Int32.toInt l1 = 3 then
    bnd (f12_marks μ) fun p_9 =>
    bnd (f12_told μ p_9) fun p_10 =>
    some (p_10.1, p_10.2)
  else if Int32.toInt l1 = 4 then
    bnd (f12_hiddenMany μ) fun p_12 =>
    bnd (f12_told μ p_12) fun p_13 =>
    some (p_13.1, p_13.2)
  else if Int32.toInt l1 = 5 then
    bnd (f12_told μ (fI μ 2017 11)) fun p_15 =>
    some (p_15.1, p_15.2)
  else if Int32.toInt l1 = 6 then
    bnd (f12_told μ (fI μ 2017 12)) fun p_17 =>
    some (p_17.1, p_17.2)
  else if Int32.toInt l1 = 7 then
    bnd (f12_words μ) fun p_19 =>
    bnd (f12_told μ p_19) fun p_20 =>
    some (p_20.1, p_20.2)
  else
    bnd (f12_refuse μ (1 : Int32)) fun p_21 =>
    some (p_21.1, p_21.2)
set_option maxHeartbeats 4000000 in
set_option maxRecDepth 100000 in
theorem k12_count {l : Launch} {K : JK} (hl : l.stackTraces = false) {σ μ : Sto} {o : Int64} {l1 : Int32}  {Qf : Int32 × Sto → Prop} (h : Ok (f12_count μ l1) Qf) : Con l K yX12_count (.code yX12_count cX12_count 2 (some .int) :: TB) 3 0 0 False [.ref (K.2.2 + 2017), .int l1] 2055 (jw K σ μ o) (PR Qf (fun p => some (.int p.1)) (fun p => jw K σ p.2 o)) PN := by
  refine Con.enter (own := RX12) hl (by decide) rfl (Nat.le_of_ble_eq_true rfl) ?_
  intro X hX hR C hret hnt
  generalize hQQ : jQ X K 0 0 (PR Qf (fun p => some (.int p.1)) (fun p => jw K σ p.2 o)) PN False = QQ
  change J X K 2 False QQ 0 0 2055 (jw K σ μ o) 0 [(0, .ref (K.2.2 + 2017)), (1, .int l1)] []
  unfold f12_count at h
  refine J_iload_n (i := 1) (p := 1) C dX12_count_0 rfl rfl rfl ?_
  by_cases c_2 : Int32.toInt l1 = 0
  · have h := h.pos c_2
    refine J_tab (t := 48) C 0 c_2 dX12_count_1 (by decide) (by decide) rfl (by decide) ?_
    refine J_aload_n (i := 0) (p := 0) C dX12_count_48 rfl rfl rfl ?_
    refine J_aload_n (i := 0) (p := 0) C dX12_count_49 rfl rfl rfl ?_
    refine Jm_getI C fp_RX12_138 rfl rfl dX12_count_50 rfl ?_
    refine Jm_cV (rest := []) (st9 := fun p_2 => [.int p_2.1]) C hR hX cv_RX12_209 rfl (Nat.le_of_ble_eq_true rfl) (k12_told hl  (Ok.ofbnd h)) rfl rfl (Nat.le_of_ble_eq_true rfl) (Nat.le_of_ble_eq_true rfl) (Nat.le_of_ble_eq_true rfl) ⟨(Nat.le_of_ble_eq_true rfl), (Nat.le_of_ble_eq_true rfl)⟩ dX12_count_53 rfl (fun E n9 w9 hx => JT_n hx) (fun _ => rfl) (fun p_2 h => ?_)
    have h : Ok _ _ := h
    change J X K 2 False QQ 0 0 2055 (jw K σ p_2.2 o) 56 [(0, .ref (K.2.2 + 2017)), (1, .int l1)] [.int p_2.1]
    rw [← hQQ]
    exact J_iret C hret (Nat.le_of_ble_eq_true rfl) (Nat.le_of_ble_eq_true rfl) ⟨_, h.osome, rfl, rfl, rfl⟩ dX12_count_56
  · have h := h.neg c_2
    by_cases c_5 : Int32.toInt l1 = 1
    · have h := h.pos c_5
      refine J_tab (t := 57) C 1 c_5 dX12_count_1 (by decide) (by decide) rfl (by decide) ?_
      refine J_aload_n (i := 0) (p := 0) C dX12_count_57 rfl rfl rfl ?_
      refine J_aload_n (i := 0) (p := 0) C dX12_count_58 rfl rfl rfl ?_
      refine Jm_cV (rest := [.ref (K.2.2 + 2017)]) (st9 := fun p_4 => [.int p_4, .ref (K.2.2 + 2017)]) C hR hX cv_RX12_141 rfl (Nat.le_of_ble_eq_true rfl) (k12_lines hl  (Ok.ofbnd h)) rfl rfl (Nat.le_of_ble_eq_true rfl) (Nat.le_of_ble_eq_true rfl) (Nat.le_of_ble_eq_true rfl) ⟨(Nat.le_of_ble_eq_true rfl), (Nat.le_of_ble_eq_true rfl)⟩ dX12_count_59 rfl (fun E n9 w9 hx => JT_n hx) (fun _ => rfl) (fun p_4 h => ?_)
      have h : Ok _ _ := h
      change J X K 2 False QQ 0 0 2055 (jw K σ μ o) 62 [(0, .ref (K.2.2 + 2017)), (1, .int l1)] [.int p_4, .ref (K.2.2 + 2017)]
      refine Jm_cV (rest := []) (st9 := fun p_5 => [.int p_5.1]) C hR hX cv_RX12_209 rfl (Nat.le_of_ble_eq_true rfl) (k12_told hl  (Ok.ofbnd h)) rfl rfl (Nat.le_of_ble_eq_true rfl) (Nat.le_of_ble_eq_true rfl) (Nat.le_of_ble_eq_true rfl) ⟨(Nat.le_of_ble_eq_true rfl), (Nat.le_of_ble_eq_true rfl)⟩ dX12_count_62 rfl (fun E n9 w9 hx => JT_n hx) (fun _ => rfl) (fun p_5 h => ?_)
      have h : Ok _ _ := h
      change J X K 2 False QQ 0 0 2055 (jw K σ p_5.2 o) 65 [(0, .ref (K.2.2 + 2017)), (1, .int l1)] [.int p_5.1]
      rw [← hQQ]
      exact J_iret C hret (Nat.le_of_ble_eq_true rfl) (Nat.le_of_ble_eq_true rfl) ⟨_, h.osome, rfl, rfl, rfl⟩ dX12_count_65
    · have h := h.neg c_5
      by_cases c_7 : Int32.toInt l1 = 2
      · have h := h.pos c_7
        refine J_tab (t := 66) C 2 c_7 dX12_count_1 (by decide) (by decide) rfl (by decide) ?_
        refine J_aload_n (i := 0) (p := 0) C dX12_count_66 rfl rfl rfl ?_
        refine J_aload_n (i := 0) (p := 0) C dX12_count_67 rfl rfl rfl ?_
        refine Jm_getI C fp_RX12_26 rfl rfl dX12_count_68 rfl ?_
        refine Jm_cV (rest := []) (st9 := fun p_7 => [.int p_7.1]) C hR hX cv_RX12_209 rfl (Nat.le_of_ble_eq_true rfl) (k12_told hl  (Ok.ofbnd h)) rfl rfl (Nat.le_of_ble_eq_true rfl) (Nat.le_of_ble_eq_true rfl) (Nat.le_of_ble_eq_true rfl) ⟨(Nat.le_of_ble_eq_true rfl), (Nat.le_of_ble_eq_true rfl)⟩ dX12_count_71 rfl (fun E n9 w9 hx => JT_n hx) (fun _ => rfl) (fun p_7 h => ?_)
        have h : Ok _ _ := h
        change J X K 2 False QQ 0 0 2055 (jw K σ p_7.2 o) 74 [(0, .ref (K.2.2 + 2017)), (1, .int l1)] [.int p_7.1]
        rw [← hQQ]
        exact J_iret C hret (Nat.le_of_ble_eq_true rfl) (Nat.le_of_ble_eq_true rfl) ⟨_, h.osome, rfl, rfl, rfl⟩ dX12_count_74
      · have h := h.neg c_7
        by_cases c_10 : Int32.toInt l1 = 3
        · have h := h.pos c_10
          refine J_tab (t := 75) C 3 c_10 dX12_count_1 (by decide) (by decide) rfl (by decide) ?_
          refine J_aload_n (i := 0) (p := 0) C dX12_count_75 rfl rfl rfl ?_
          refine J_aload_n (i := 0) (p := 0) C dX12_count_76 rfl rfl rfl ?_
          refine Jm_cV (rest := [.ref (K.2.2 + 2017)]) (st9 := fun p_9 => [.int p_9, .ref (K.2.2 + 2017)]) C hR hX cv_RX12_363 rfl (Nat.le_of_ble_eq_true rfl) (k12_marks hl  (Ok.ofbnd h)) rfl rfl (Nat.le_of_ble_eq_true rfl) (Nat.le_of_ble_eq_true rfl) (Nat.le_of_ble_eq_true rfl) ⟨(Nat.le_of_ble_eq_true rfl), (Nat.le_of_ble_eq_true rfl)⟩ dX12_count_77 rfl (fun E n9 w9 hx => JT_n hx) (fun _ => rfl) (fun p_9 h => ?_)
          have h : Ok _ _ := h
          change J X K 2 False QQ 0 0 2055 (jw K σ μ o) 80 [(0, .ref (K.2.2 + 2017)), (1, .int l1)] [.int p_9, .ref (K.2.2 + 2017)]
          refine Jm_cV (rest := []) (st9 := fun p_10 => [.int p_10.1]) C hR hX cv_RX12_209 rfl (Nat.le_of_ble_eq_true rfl) (k12_told hl  (Ok.ofbnd h)) rfl rfl (Nat.le_of_ble_eq_true rfl) (Nat.le_of_ble_eq_true rfl) (Nat.le_of_ble_eq_true rfl) ⟨(Nat.le_of_ble_eq_true rfl), (Nat.le_of_ble_eq_true rfl)⟩ dX12_count_80 rfl (fun E n9 w9 hx => JT_n hx) (fun _ => rfl) (fun p_10 h => ?_)
          have h : Ok _ _ := h
          change J X K 2 False QQ 0 0 2055 (jw K σ p_10.2 o) 83 [(0, .ref (K.2.2 + 2017)), (1, .int l1)] [.int p_10.1]
          rw [← hQQ]
          exact J_iret C hret (Nat.le_of_ble_eq_true rfl) (Nat.le_of_ble_eq_true rfl) ⟨_, h.osome, rfl, rfl, rfl⟩ dX12_count_83
        · have h := h.neg c_10
          by_cases c_13 : Int32.toInt l1 = 4
          · have h := h.pos c_13
            refine J_tab (t := 84) C 4 c_13 dX12_count_1 (by decide) (by decide) rfl (by decide) ?_
            refine J_aload_n (i := 0) (p := 0) C dX12_count_84 rfl rfl rfl ?_
            refine J_aload_n (i := 0) (p := 0) C dX12_count_85 rfl rfl rfl ?_
            refine Jm_cV (rest := [.ref (K.2.2 + 2017)]) (st9 := fun p_12 => [.int p_12, .ref (K.2.2 + 2017)]) C hR hX cv_RX12_345 rfl (Nat.le_of_ble_eq_true rfl) (k12_hiddenMany hl  (Ok.ofbnd h)) rfl rfl (Nat.le_of_ble_eq_true rfl) (Nat.le_of_ble_eq_true rfl) (Nat.le_of_ble_eq_true rfl) ⟨(Nat.le_of_ble_eq_true rfl), (Nat.le_of_ble_eq_true rfl)⟩ dX12_count_86 rfl (fun E n9 w9 hx => JT_n hx) (fun _ => rfl) (fun p_12 h => ?_)
            have h : Ok _ _ := h
            change J X K 2 False QQ 0 0 2055 (jw K σ μ o) 89 [(0, .ref (K.2.2 + 2017)), (1, .int l1)] [.int p_12, .ref (K.2.2 + 2017)]
            refine Jm_cV (rest := []) (st9 := fun p_13 => [.int p_13.1]) C hR hX cv_RX12_209 rfl (Nat.le_of_ble_eq_true rfl) (k12_told hl  (Ok.ofbnd h)) rfl rfl (Nat.le_of_ble_eq_true rfl) (Nat.le_of_ble_eq_true rfl) (Nat.le_of_ble_eq_true rfl) ⟨(Nat.le_of_ble_eq_true rfl), (Nat.le_of_ble_eq_true rfl)⟩ dX12_count_89 rfl (fun E n9 w9 hx => JT_n hx) (fun _ => rfl) (fun p_13 h => ?_)
            have h : Ok _ _ := h
            change J X K 2 False QQ 0 0 2055 (jw K σ p_13.2 o) 92 [(0, .ref (K.2.2 + 2017)), (1, .int l1)] [.int p_13.1]
            rw [← hQQ]
            exact J_iret C hret (Nat.le_of_ble_eq_true rfl) (Nat.le_of_ble_eq_true rfl) ⟨_, h.osome, rfl, rfl, rfl⟩ dX12_count_92
          · have h := h.neg c_13
            by_cases c_15 : Int32.toInt l1 = 5
            · have h := h.pos c_15
              refine J_tab (t := 93) C 5 c_15 dX12_count_1 (by decide) (by decide) rfl (by decide) ?_
              refine J_aload_n (i := 0) (p := 0) C dX12_count_93 rfl rfl rfl ?_
              refine J_aload_n (i := 0) (p := 0) C dX12_count_94 rfl rfl rfl ?_
              refine Jm_getI C fp_RX12_161 rfl rfl dX12_count_95 rfl ?_
              refine Jm_cV (rest := []) (st9 := fun p_15 => [.int p_15.1]) C hR hX cv_RX12_209 rfl (Nat.le_of_ble_eq_true rfl) (k12_told hl  (Ok.ofbnd h)) rfl rfl (Nat.le_of_ble_eq_true rfl) (Nat.le_of_ble_eq_true rfl) (Nat.le_of_ble_eq_true rfl) ⟨(Nat.le_of_ble_eq_true rfl), (Nat.le_of_ble_eq_true rfl)⟩ dX12_count_98 rfl (fun E n9 w9 hx => JT_n hx) (fun _ => rfl) (fun p_15 h => ?_)
              have h : Ok _ _ := h
              change J X K 2 False QQ 0 0 2055 (jw K σ p_15.2 o) 101 [(0, .ref (K.2.2 + 2017)), (1, .int l1)] [.int p_15.1]
              rw [← hQQ]
              exact J_iret C hret (Nat.le_of_ble_eq_true rfl) (Nat.le_of_ble_eq_true rfl) ⟨_, h.osome, rfl, rfl, rfl⟩ dX12_count_101
            · have h := h.neg c_15
              by_cases c_17 : Int32.toInt l1 = 6
              · have h := h.pos c_17
                refine J_tab (t := 102) C 6 c_17 dX12_count_1 (by decide) (by decide) rfl (by decide) ?_
                refine J_aload_n (i := 0) (p := 0) C dX12_count_102 rfl rfl rfl ?_
                refine J_aload_n (i := 0) (p := 0) C dX12_count_103 rfl rfl rfl ?_
                refine Jm_getI C fp_RX12_215 rfl rfl dX12_count_104 rfl ?_
                refine Jm_cV (rest := []) (st9 := fun p_17 => [.int p_17.1]) C hR hX cv_RX12_209 rfl (Nat.le_of_ble_eq_true rfl) (k12_told hl  (Ok.ofbnd h)) rfl rfl (Nat.le_of_ble_eq_true rfl) (Nat.le_of_ble_eq_true rfl) (Nat.le_of_ble_eq_true rfl) ⟨(Nat.le_of_ble_eq_true rfl), (Nat.le_of_ble_eq_true rfl)⟩ dX12_count_107 rfl (fun E n9 w9 hx => JT_n hx) (fun _ => rfl) (fun p_17 h => ?_)
                have h : Ok _ _ := h
                change J X K 2 False QQ 0 0 2055 (jw K σ p_17.2 o) 110 [(0, .ref (K.2.2 + 2017)), (1, .int l1)] [.int p_17.1]
                rw [← hQQ]
                exact J_iret C hret (Nat.le_of_ble_eq_true rfl) (Nat.le_of_ble_eq_true rfl) ⟨_, h.osome, rfl, rfl, rfl⟩ dX12_count_110
              · have h := h.neg c_17
                by_cases c_20 : Int32.toInt l1 = 7
                · have h := h.pos c_20
                  refine J_tab (t := 111) C 7 c_20 dX12_count_1 (by decide) (by decide) rfl (by decide) ?_
                  refine J_aload_n (i := 0) (p := 0) C dX12_count_111 rfl rfl rfl ?_
                  refine J_aload_n (i := 0) (p := 0) C dX12_count_112 rfl rfl rfl ?_
                  refine Jm_cV (rest := [.ref (K.2.2 + 2017)]) (st9 := fun p_19 => [.int p_19, .ref (K.2.2 + 2017)]) C hR hX cv_RX12_366 rfl (Nat.le_of_ble_eq_true rfl) (k12_words hl  (Ok.ofbnd h)) rfl rfl (Nat.le_of_ble_eq_true rfl) (Nat.le_of_ble_eq_true rfl) (Nat.le_of_ble_eq_true rfl) ⟨(Nat.le_of_ble_eq_true rfl), (Nat.le_of_ble_eq_true rfl)⟩ dX12_count_113 rfl (fun E n9 w9 hx => JT_n hx) (fun _ => rfl) (fun p_19 h => ?_)
                  have h : Ok _ _ := h
                  change J X K 2 False QQ 0 0 2055 (jw K σ μ o) 116 [(0, .ref (K.2.2 + 2017)), (1, .int l1)] [.int p_19, .ref (K.2.2 + 2017)]
                  refine Jm_cV (rest := []) (st9 := fun p_20 => [.int p_20.1]) C hR hX cv_RX12_209 rfl (Nat.le_of_ble_eq_true rfl) (k12_told hl  (Ok.ofbnd h)) rfl rfl (Nat.le_of_ble_eq_true rfl) (Nat.le_of_ble_eq_true rfl) (Nat.le_of_ble_eq_true rfl) ⟨(Nat.le_of_ble_eq_true rfl), (Nat.le_of_ble_eq_true rfl)⟩ dX12_count_116 rfl (fun E n9 w9 hx => JT_n hx) (fun _ => rfl) (fun p_20 h => ?_)
                  have h : Ok _ _ := h
                  change J X K 2 False QQ 0 0 2055 (jw K σ p_20.2 o) 119 [(0, .ref (K.2.2 + 2017)), (1, .int l1)] [.int p_20.1]
                  rw [← hQQ]
                  exact J_iret C hret (Nat.le_of_ble_eq_true rfl) (Nat.le_of_ble_eq_true rfl) ⟨_, h.osome, rfl, rfl, rfl⟩ dX12_count_119
                · have h := h.neg c_20
                  refine J_tabO (t := 120) C dX12_count_1 (by omega) (by decide) ?_
                  refine J_aload_n (i := 0) (p := 0) C dX12_count_120 rfl rfl rfl ?_
                  refine J_iconst (v := 1) C (by decide) dX12_count_121 rfl ?_
                  refine Jm_cV (rest := []) (st9 := fun p_21 => [.int p_21.1]) C hR hX cv_RX12_206 rfl (Nat.le_of_ble_eq_true rfl) (k12_refuse hl  (Ok.ofbnd h)) rfl rfl (Nat.le_of_ble_eq_true rfl) (Nat.le_of_ble_eq_true rfl) (Nat.le_of_ble_eq_true rfl) ⟨(Nat.le_of_ble_eq_true rfl), (Nat.le_of_ble_eq_true rfl)⟩ dX12_count_122 rfl (fun E n9 w9 hx => JT_n hx) (fun _ => rfl) (fun p_21 h => ?_)
                  have h : Ok _ _ := h
                  change J X K 2 False QQ 0 0 2055 (jw K σ p_21.2 o) 125 [(0, .ref (K.2.2 + 2017)), (1, .int l1)] [.int p_21.1]
                  rw [← hQQ]
                  exact J_iret C hret (Nat.le_of_ble_eq_true rfl) (Nat.le_of_ble_eq_true rfl) ⟨_, h.osome, rfl, rfl, rfl⟩ dX12_count_125
def f12_letterAt_j32 (l1 : Int32) (μ_32 : Sto) (s0_32 : Int32) : Option (Int32 × Sto) :=
  some (s0_32, μ_32)
def f12_letterAt (μ : Sto) (l1 : Int32) : Option (Int32 × Sto) :=
  bnd (f12_in l1 (0 : Int32) ((fI μ 2017 5) - (1 : Int32))) fun p_1 =>
  if p_1 = 0 then
    bnd (f12_refuse μ (1 : Int32)) fun p_3 =>
    f12_letterAt_j32 l1 p_3.2 p_3.1
  else
    gd (inb l1 3000) <|
    bnd (f12_told μ (aI μ 2018 (Int32.toNatClampNeg l1))) fun p_5 =>
    f12_letterAt_j32 l1 p_5.2 p_5.1
set_option maxHeartbeats 4000000 in
set_option maxRecDepth 100000 in
theorem k12_letterAt {l : Launch} {K : JK} (hl : l.stackTraces = false) {σ μ : Sto} {o : Int64} {l1 : Int32}  {Qf : Int32 × Sto → Prop} (h : Ok (f12_letterAt μ l1) Qf) : Con l K yX12_letterAt (.code yX12_letterAt cX12_letterAt 2 (some .int) :: TB) 1 0 0 False [.ref (K.2.2 + 2017), .int l1] 2055 (jw K σ μ o) (PR Qf (fun p => some (.int p.1)) (fun p => jw K σ p.2 o)) PN := by
  refine Con.enter (own := RX12) hl (by decide) rfl (Nat.le_of_ble_eq_true rfl) ?_
  intro X hX hR C hret hnt
  generalize hQQ : jQ X K 0 0 (PR Qf (fun p => some (.int p.1)) (fun p => jw K σ p.2 o)) PN False = QQ
  change J X K 2 False QQ 0 0 2055 (jw K σ μ o) 0 [(0, .ref (K.2.2 + 2017)), (1, .int l1)] []
  have hj_32 : (∀ (μ_32 : Sto) (s0_32 : Int32), Ok (f12_letterAt_j32 l1 μ_32 s0_32) Qf → J X K 2 False QQ 0 0 2055 (jw K σ μ_32 o) 32 [] [.int s0_32]) := by
    intro μ_32 s0_32 h
    unfold f12_letterAt_j32 at h
    rw [← hQQ]
    exact J_iret C hret (Nat.le_of_ble_eq_true rfl) (Nat.le_of_ble_eq_true rfl) ⟨_, h.osome, rfl, rfl, rfl⟩ dX12_letterAt_32
  unfold f12_letterAt at h
  refine J_iload_n (i := 1) (p := 1) C dX12_letterAt_0 rfl rfl rfl ?_
  refine J_iconst (v := 0) C (by decide) dX12_letterAt_1 rfl ?_
  refine J_aload_n (i := 0) (p := 0) C dX12_letterAt_2 rfl rfl rfl ?_
  refine Jm_getI C fp_RX12_138 rfl rfl dX12_letterAt_3 rfl ?_
  refine J_iconst (v := 1) C (by decide) dX12_letterAt_6 rfl ?_
  refine J_isub C dX12_letterAt_7 rfl ?_
  refine J_cS (rest := []) (st9 := fun p_1 => [.int p_1]) C hR hX cs_RX12_134 (k12_in hl  (Ok.ofbnd h)) rfl rfl (Nat.le_of_ble_eq_true rfl) (Nat.le_of_ble_eq_true rfl) (Nat.le_of_ble_eq_true rfl) ⟨(Nat.le_of_ble_eq_true rfl), (Nat.le_of_ble_eq_true rfl)⟩ dX12_letterAt_8 rfl (fun E n9 w9 hx => JT_n hx) (fun _ => rfl) (fun p_1 h => ?_)
  have h : Ok _ _ := h
  change J X K 2 False QQ 0 0 2055 (jw K σ μ o) 11 [(0, .ref (K.2.2 + 2017)), (1, .int l1)] [.int p_1]
  refine J_if_eq (t := 27) C dX12_letterAt_11 (by decide) rfl (fun c_2 => ?_) (fun c_2 => ?_)
  · have h := h.pos c_2
    refine J_aload_n (i := 0) (p := 0) C dX12_letterAt_27 rfl rfl rfl ?_
    refine J_iconst (v := 1) C (by decide) dX12_letterAt_28 rfl ?_
    refine Jm_cV (rest := []) (st9 := fun p_3 => [.int p_3.1]) C hR hX cv_RX12_206 rfl (Nat.le_of_ble_eq_true rfl) (k12_refuse hl  (Ok.ofbnd h)) rfl rfl (Nat.le_of_ble_eq_true rfl) (Nat.le_of_ble_eq_true rfl) (Nat.le_of_ble_eq_true rfl) ⟨(Nat.le_of_ble_eq_true rfl), (Nat.le_of_ble_eq_true rfl)⟩ dX12_letterAt_29 rfl (fun E n9 w9 hx => JT_n hx) (fun _ => rfl) (fun p_3 h => ?_)
    have h : Ok _ _ := h
    change J X K 2 False QQ 0 0 2055 (jw K σ p_3.2 o) 32 [(0, .ref (K.2.2 + 2017)), (1, .int l1)] [.int p_3.1]
    refine J.sub [] rfl ?_
    exact hj_32 p_3.2 p_3.1 h
  · have h := h.neg c_2
    refine J_aload_n (i := 0) (p := 0) C dX12_letterAt_14 rfl rfl rfl ?_
    refine J_aload_n (i := 0) (p := 0) C dX12_letterAt_15 rfl rfl rfl ?_
    refine Jm_getS (o2 := 1) (r2 := 2018) C fp_RX12_7 rfl rfl rfl dX12_letterAt_16 rfl ?_
    refine J_iload_n (i := 1) (p := 1) C dX12_letterAt_19 rfl rfl rfl ?_
    obtain ⟨g_4, h⟩ := Ok.ofgd h
    refine Jm_iald C rfl rfl g_4 dX12_letterAt_20 rfl ?_
    refine Jm_cV (rest := []) (st9 := fun p_5 => [.int p_5.1]) C hR hX cv_RX12_209 rfl (Nat.le_of_ble_eq_true rfl) (k12_told hl  (Ok.ofbnd h)) rfl rfl (Nat.le_of_ble_eq_true rfl) (Nat.le_of_ble_eq_true rfl) (Nat.le_of_ble_eq_true rfl) ⟨(Nat.le_of_ble_eq_true rfl), (Nat.le_of_ble_eq_true rfl)⟩ dX12_letterAt_21 rfl (fun E n9 w9 hx => JT_n hx) (fun _ => rfl) (fun p_5 h => ?_)
    have h : Ok _ _ := h
    change J X K 2 False QQ 0 0 2055 (jw K σ p_5.2 o) 24 [(0, .ref (K.2.2 + 2017)), (1, .int l1)] [.int p_5.1]
    refine J_goto (t := 32) C dX12_letterAt_24 (by decide) ?_
    refine J.sub [] rfl ?_
    exact hj_32 p_5.2 p_5.1 h
def f12_lineOf_j25 (l1 : Int32) (μ_25 : Sto) (s0_25 : Int32) : Option (Int32 × Sto) :=
  some (s0_25, μ_25)
def f12_lineOf (μ : Sto) (l1 : Int32) : Option (Int32 × Sto) :=
  bnd (f12_isPlace μ l1) fun p_1 =>
  if p_1 = 0 then
    bnd (f12_refuse μ (1 : Int32)) fun p_3 =>
    f12_lineOf_j25 l1 p_3.2 p_3.1
  else
    bnd (f12_lineAt μ l1) fun p_4 =>
    bnd (f12_told μ p_4) fun p_5 =>
    f12_lineOf_j25 l1 p_5.2 p_5.1
set_option maxHeartbeats 4000000 in
set_option maxRecDepth 100000 in
theorem k12_lineOf {l : Launch} {K : JK} (hl : l.stackTraces = false) {σ μ : Sto} {o : Int64} {l1 : Int32}  {Qf : Int32 × Sto → Prop} (h : Ok (f12_lineOf μ l1) Qf) : Con l K yX12_lineOf (.code yX12_lineOf cX12_lineOf 2 (some .int) :: TB) 2 0 0 False [.ref (K.2.2 + 2017), .int l1] 2055 (jw K σ μ o) (PR Qf (fun p => some (.int p.1)) (fun p => jw K σ p.2 o)) PN := by
  refine Con.enter (own := RX12) hl (by decide) rfl (Nat.le_of_ble_eq_true rfl) ?_
  intro X hX hR C hret hnt
  generalize hQQ : jQ X K 0 0 (PR Qf (fun p => some (.int p.1)) (fun p => jw K σ p.2 o)) PN False = QQ
  change J X K 2 False QQ 0 0 2055 (jw K σ μ o) 0 [(0, .ref (K.2.2 + 2017)), (1, .int l1)] []
  have hj_25 : (∀ (μ_25 : Sto) (s0_25 : Int32), Ok (f12_lineOf_j25 l1 μ_25 s0_25) Qf → J X K 2 False QQ 0 0 2055 (jw K σ μ_25 o) 25 [] [.int s0_25]) := by
    intro μ_25 s0_25 h
    unfold f12_lineOf_j25 at h
    rw [← hQQ]
    exact J_iret C hret (Nat.le_of_ble_eq_true rfl) (Nat.le_of_ble_eq_true rfl) ⟨_, h.osome, rfl, rfl, rfl⟩ dX12_lineOf_25
  unfold f12_lineOf at h
  refine J_aload_n (i := 0) (p := 0) C dX12_lineOf_0 rfl rfl rfl ?_
  refine J_iload_n (i := 1) (p := 1) C dX12_lineOf_1 rfl rfl rfl ?_
  refine Jm_cV (rest := []) (st9 := fun p_1 => [.int p_1]) C hR hX cv_RX12_218 rfl (Nat.le_of_ble_eq_true rfl) (k12_isPlace hl  (Ok.ofbnd h)) rfl rfl (Nat.le_of_ble_eq_true rfl) (Nat.le_of_ble_eq_true rfl) (Nat.le_of_ble_eq_true rfl) ⟨(Nat.le_of_ble_eq_true rfl), (Nat.le_of_ble_eq_true rfl)⟩ dX12_lineOf_2 rfl (fun E n9 w9 hx => JT_n hx) (fun _ => rfl) (fun p_1 h => ?_)
  have h : Ok _ _ := h
  change J X K 2 False QQ 0 0 2055 (jw K σ μ o) 5 [(0, .ref (K.2.2 + 2017)), (1, .int l1)] [.int p_1]
  refine J_if_eq (t := 20) C dX12_lineOf_5 (by decide) rfl (fun c_2 => ?_) (fun c_2 => ?_)
  · have h := h.pos c_2
    refine J_aload_n (i := 0) (p := 0) C dX12_lineOf_20 rfl rfl rfl ?_
    refine J_iconst (v := 1) C (by decide) dX12_lineOf_21 rfl ?_
    refine Jm_cV (rest := []) (st9 := fun p_3 => [.int p_3.1]) C hR hX cv_RX12_206 rfl (Nat.le_of_ble_eq_true rfl) (k12_refuse hl  (Ok.ofbnd h)) rfl rfl (Nat.le_of_ble_eq_true rfl) (Nat.le_of_ble_eq_true rfl) (Nat.le_of_ble_eq_true rfl) ⟨(Nat.le_of_ble_eq_true rfl), (Nat.le_of_ble_eq_true rfl)⟩ dX12_lineOf_22 rfl (fun E n9 w9 hx => JT_n hx) (fun _ => rfl) (fun p_3 h => ?_)
    have h : Ok _ _ := h
    change J X K 2 False QQ 0 0 2055 (jw K σ p_3.2 o) 25 [(0, .ref (K.2.2 + 2017)), (1, .int l1)] [.int p_3.1]
    refine J.sub [] rfl ?_
    exact hj_25 p_3.2 p_3.1 h
  · have h := h.neg c_2
    refine J_aload_n (i := 0) (p := 0) C dX12_lineOf_8 rfl rfl rfl ?_
    refine J_aload_n (i := 0) (p := 0) C dX12_lineOf_9 rfl rfl rfl ?_
    refine J_iload_n (i := 1) (p := 1) C dX12_lineOf_10 rfl rfl rfl ?_
    refine Jm_cV (rest := [.ref (K.2.2 + 2017)]) (st9 := fun p_4 => [.int p_4, .ref (K.2.2 + 2017)]) C hR hX cv_RX12_149 rfl (Nat.le_of_ble_eq_true rfl) (k12_lineAt hl  (Ok.ofbnd h)) rfl rfl (Nat.le_of_ble_eq_true rfl) (Nat.le_of_ble_eq_true rfl) (Nat.le_of_ble_eq_true rfl) ⟨(Nat.le_of_ble_eq_true rfl), (Nat.le_of_ble_eq_true rfl)⟩ dX12_lineOf_11 rfl (fun E n9 w9 hx => JT_n hx) (fun _ => rfl) (fun p_4 h => ?_)
    have h : Ok _ _ := h
    change J X K 2 False QQ 0 0 2055 (jw K σ μ o) 14 [(0, .ref (K.2.2 + 2017)), (1, .int l1)] [.int p_4, .ref (K.2.2 + 2017)]
    refine Jm_cV (rest := []) (st9 := fun p_5 => [.int p_5.1]) C hR hX cv_RX12_209 rfl (Nat.le_of_ble_eq_true rfl) (k12_told hl  (Ok.ofbnd h)) rfl rfl (Nat.le_of_ble_eq_true rfl) (Nat.le_of_ble_eq_true rfl) (Nat.le_of_ble_eq_true rfl) ⟨(Nat.le_of_ble_eq_true rfl), (Nat.le_of_ble_eq_true rfl)⟩ dX12_lineOf_14 rfl (fun E n9 w9 hx => JT_n hx) (fun _ => rfl) (fun p_5 h => ?_)
    have h : Ok _ _ := h
    change J X K 2 False QQ 0 0 2055 (jw K σ p_5.2 o) 17 [(0, .ref (K.2.2 + 2017)), (1, .int l1)] [.int p_5.1]
    refine J_goto (t := 25) C dX12_lineOf_17 (by decide) ?_
    refine J.sub [] rfl ?_
    exact hj_25 p_5.2 p_5.1 h
def f12_columnOf_j25 (l1 : Int32) (μ_25 : Sto) (s0_25 : Int32) : Option (Int32 × Sto) :=
  some (s0_25, μ_25)
def f12_columnOf (μ : Sto) (l1 : Int32) : Option (Int32 × Sto) :=
  bnd (f12_isPlace μ l1) fun p_1 =>
  if p_1 = 0 then
    bnd (f12_refuse μ (1 : Int32)) fun p_3 =>
    f12_columnOf_j25 l1 p_3.2 p_3.1
  else
    bnd (f12_column μ l1) fun p_4 =>
    bnd (f12_told μ p_4) fun p_5 =>
    f12_columnOf_j25 l1 p_5.2 p_5.1
set_option maxHeartbeats 4000000 in
set_option maxRecDepth 100000 in
theorem k12_columnOf {l : Launch} {K : JK} (hl : l.stackTraces = false) {σ μ : Sto} {o : Int64} {l1 : Int32}  {Qf : Int32 × Sto → Prop} (h : Ok (f12_columnOf μ l1) Qf) : Con l K yX12_columnOf (.code yX12_columnOf cX12_columnOf 2 (some .int) :: TB) 2 0 0 False [.ref (K.2.2 + 2017), .int l1] 2055 (jw K σ μ o) (PR Qf (fun p => some (.int p.1)) (fun p => jw K σ p.2 o)) PN := by
  refine Con.enter (own := RX12) hl (by decide) rfl (Nat.le_of_ble_eq_true rfl) ?_
  intro X hX hR C hret hnt
  generalize hQQ : jQ X K 0 0 (PR Qf (fun p => some (.int p.1)) (fun p => jw K σ p.2 o)) PN False = QQ
  change J X K 2 False QQ 0 0 2055 (jw K σ μ o) 0 [(0, .ref (K.2.2 + 2017)), (1, .int l1)] []
  have hj_25 : (∀ (μ_25 : Sto) (s0_25 : Int32), Ok (f12_columnOf_j25 l1 μ_25 s0_25) Qf → J X K 2 False QQ 0 0 2055 (jw K σ μ_25 o) 25 [] [.int s0_25]) := by
    intro μ_25 s0_25 h
    unfold f12_columnOf_j25 at h
    rw [← hQQ]
    exact J_iret C hret (Nat.le_of_ble_eq_true rfl) (Nat.le_of_ble_eq_true rfl) ⟨_, h.osome, rfl, rfl, rfl⟩ dX12_columnOf_25
  unfold f12_columnOf at h
  refine J_aload_n (i := 0) (p := 0) C dX12_columnOf_0 rfl rfl rfl ?_
  refine J_iload_n (i := 1) (p := 1) C dX12_columnOf_1 rfl rfl rfl ?_
  refine Jm_cV (rest := []) (st9 := fun p_1 => [.int p_1]) C hR hX cv_RX12_218 rfl (Nat.le_of_ble_eq_true rfl) (k12_isPlace hl  (Ok.ofbnd h)) rfl rfl (Nat.le_of_ble_eq_true rfl) (Nat.le_of_ble_eq_true rfl) (Nat.le_of_ble_eq_true rfl) ⟨(Nat.le_of_ble_eq_true rfl), (Nat.le_of_ble_eq_true rfl)⟩ dX12_columnOf_2 rfl (fun E n9 w9 hx => JT_n hx) (fun _ => rfl) (fun p_1 h => ?_)
  have h : Ok _ _ := h
  change J X K 2 False QQ 0 0 2055 (jw K σ μ o) 5 [(0, .ref (K.2.2 + 2017)), (1, .int l1)] [.int p_1]
  refine J_if_eq (t := 20) C dX12_columnOf_5 (by decide) rfl (fun c_2 => ?_) (fun c_2 => ?_)
  · have h := h.pos c_2
    refine J_aload_n (i := 0) (p := 0) C dX12_columnOf_20 rfl rfl rfl ?_
    refine J_iconst (v := 1) C (by decide) dX12_columnOf_21 rfl ?_
    refine Jm_cV (rest := []) (st9 := fun p_3 => [.int p_3.1]) C hR hX cv_RX12_206 rfl (Nat.le_of_ble_eq_true rfl) (k12_refuse hl  (Ok.ofbnd h)) rfl rfl (Nat.le_of_ble_eq_true rfl) (Nat.le_of_ble_eq_true rfl) (Nat.le_of_ble_eq_true rfl) ⟨(Nat.le_of_ble_eq_true rfl), (Nat.le_of_ble_eq_true rfl)⟩ dX12_columnOf_22 rfl (fun E n9 w9 hx => JT_n hx) (fun _ => rfl) (fun p_3 h => ?_)
    have h : Ok _ _ := h
    change J X K 2 False QQ 0 0 2055 (jw K σ p_3.2 o) 25 [(0, .ref (K.2.2 + 2017)), (1, .int l1)] [.int p_3.1]
    refine J.sub [] rfl ?_
    exact hj_25 p_3.2 p_3.1 h
  · have h := h.neg c_2
    refine J_aload_n (i := 0) (p := 0) C dX12_columnOf_8 rfl rfl rfl ?_
    refine J_aload_n (i := 0) (p := 0) C dX12_columnOf_9 rfl rfl rfl ?_
    refine J_iload_n (i := 1) (p := 1) C dX12_columnOf_10 rfl rfl rfl ?_
    refine Jm_cV (rest := [.ref (K.2.2 + 2017)]) (st9 := fun p_4 => [.int p_4, .ref (K.2.2 + 2017)]) C hR hX cv_RX12_322 rfl (Nat.le_of_ble_eq_true rfl) (k12_column hl  (Ok.ofbnd h)) rfl rfl (Nat.le_of_ble_eq_true rfl) (Nat.le_of_ble_eq_true rfl) (Nat.le_of_ble_eq_true rfl) ⟨(Nat.le_of_ble_eq_true rfl), (Nat.le_of_ble_eq_true rfl)⟩ dX12_columnOf_11 rfl (fun E n9 w9 hx => JT_n hx) (fun _ => rfl) (fun p_4 h => ?_)
    have h : Ok _ _ := h
    change J X K 2 False QQ 0 0 2055 (jw K σ μ o) 14 [(0, .ref (K.2.2 + 2017)), (1, .int l1)] [.int p_4, .ref (K.2.2 + 2017)]
    refine Jm_cV (rest := []) (st9 := fun p_5 => [.int p_5.1]) C hR hX cv_RX12_209 rfl (Nat.le_of_ble_eq_true rfl) (k12_told hl  (Ok.ofbnd h)) rfl rfl (Nat.le_of_ble_eq_true rfl) (Nat.le_of_ble_eq_true rfl) (Nat.le_of_ble_eq_true rfl) ⟨(Nat.le_of_ble_eq_true rfl), (Nat.le_of_ble_eq_true rfl)⟩ dX12_columnOf_14 rfl (fun E n9 w9 hx => JT_n hx) (fun _ => rfl) (fun p_5 h => ?_)
    have h : Ok _ _ := h
    change J X K 2 False QQ 0 0 2055 (jw K σ p_5.2 o) 17 [(0, .ref (K.2.2 + 2017)), (1, .int l1)] [.int p_5.1]
    refine J_goto (t := 25) C dX12_columnOf_17 (by decide) ?_
    refine J.sub [] rfl ?_
    exact hj_25 p_5.2 p_5.1 h
def f12_placeAt_j36 (l1 : Int32) (l2 : Int32) (μ_36 : Sto) (s0_36 : Int32) : Option (Int32 × Sto) :=
  some (s0_36, μ_36)
def f12_placeAt (μ : Sto) (l1 : Int32) (l2 : Int32) : Option (Int32 × Sto) :=
  bnd (f12_isLine μ l1) fun p_1 =>
  if p_1 = 0 then
    bnd (f12_refuse μ (1 : Int32)) fun p_7 =>
    some (p_7.1, p_7.2)
  else
    if 0 ≤ l2 then
      bnd (f12_placeIn μ l1 l2) fun p_4 =>
      bnd (f12_told μ p_4) fun p_5 =>
      f12_placeAt_j36 l1 l2 p_5.2 p_5.1
    else
      bnd (f12_refuse μ (2 : Int32)) fun p_6 =>
      f12_placeAt_j36 l1 l2 p_6.2 p_6.1
set_option maxHeartbeats 4000000 in
set_option maxRecDepth 100000 in
theorem k12_placeAt {l : Launch} {K : JK} (hl : l.stackTraces = false) {σ μ : Sto} {o : Int64} {l1 : Int32} {l2 : Int32}  {Qf : Int32 × Sto → Prop} (h : Ok (f12_placeAt μ l1 l2) Qf) : Con l K yX12_placeAt (.code yX12_placeAt cX12_placeAt 3 (some .int) :: TB) 2 0 0 False [.ref (K.2.2 + 2017), .int l1, .int l2] 2055 (jw K σ μ o) (PR Qf (fun p => some (.int p.1)) (fun p => jw K σ p.2 o)) PN := by
  refine Con.enter (own := RX12) hl (by decide) rfl (Nat.le_of_ble_eq_true rfl) ?_
  intro X hX hR C hret hnt
  generalize hQQ : jQ X K 0 0 (PR Qf (fun p => some (.int p.1)) (fun p => jw K σ p.2 o)) PN False = QQ
  change J X K 3 False QQ 0 0 2055 (jw K σ μ o) 0 [(0, .ref (K.2.2 + 2017)), (1, .int l1), (2, .int l2)] []
  have hj_36 : (∀ (μ_36 : Sto) (s0_36 : Int32), Ok (f12_placeAt_j36 l1 l2 μ_36 s0_36) Qf → J X K 3 False QQ 0 0 2055 (jw K σ μ_36 o) 36 [] [.int s0_36]) := by
    intro μ_36 s0_36 h
    unfold f12_placeAt_j36 at h
    rw [← hQQ]
    exact J_iret C hret (Nat.le_of_ble_eq_true rfl) (Nat.le_of_ble_eq_true rfl) ⟨_, h.osome, rfl, rfl, rfl⟩ dX12_placeAt_36
  unfold f12_placeAt at h
  refine J_aload_n (i := 0) (p := 0) C dX12_placeAt_0 rfl rfl rfl ?_
  refine J_iload_n (i := 1) (p := 1) C dX12_placeAt_1 rfl rfl rfl ?_
  refine Jm_cV (rest := []) (st9 := fun p_1 => [.int p_1]) C hR hX cv_RX12_225 rfl (Nat.le_of_ble_eq_true rfl) (k12_isLine hl  (Ok.ofbnd h)) rfl rfl (Nat.le_of_ble_eq_true rfl) (Nat.le_of_ble_eq_true rfl) (Nat.le_of_ble_eq_true rfl) ⟨(Nat.le_of_ble_eq_true rfl), (Nat.le_of_ble_eq_true rfl)⟩ dX12_placeAt_2 rfl (fun E n9 w9 hx => JT_n hx) (fun _ => rfl) (fun p_1 h => ?_)
  have h : Ok _ _ := h
  change J X K 3 False QQ 0 0 2055 (jw K σ μ o) 5 [(0, .ref (K.2.2 + 2017)), (1, .int l1), (2, .int l2)] [.int p_1]
  refine J_if_ne (t := 14) C dX12_placeAt_5 (by decide) rfl (fun c_2 => ?_) (fun c_2 => ?_)
  · have h := h.neg c_2
    refine J_iload_n (i := 2) (p := 2) C dX12_placeAt_14 rfl rfl rfl ?_
    refine J_if_ge (t := 26) C dX12_placeAt_15 (by decide) rfl (fun c_3 => ?_) (fun c_3 => ?_)
    · have h := h.pos c_3
      refine J_aload_n (i := 0) (p := 0) C dX12_placeAt_26 rfl rfl rfl ?_
      refine J_aload_n (i := 0) (p := 0) C dX12_placeAt_27 rfl rfl rfl ?_
      refine J_iload_n (i := 1) (p := 1) C dX12_placeAt_28 rfl rfl rfl ?_
      refine J_iload_n (i := 2) (p := 2) C dX12_placeAt_29 rfl rfl rfl ?_
      refine Jm_cV (rest := [.ref (K.2.2 + 2017)]) (st9 := fun p_4 => [.int p_4, .ref (K.2.2 + 2017)]) C hR hX cv_RX12_325 rfl (Nat.le_of_ble_eq_true rfl) (k12_placeIn hl  (Ok.ofbnd h)) rfl rfl (Nat.le_of_ble_eq_true rfl) (Nat.le_of_ble_eq_true rfl) (Nat.le_of_ble_eq_true rfl) ⟨(Nat.le_of_ble_eq_true rfl), (Nat.le_of_ble_eq_true rfl)⟩ dX12_placeAt_30 rfl (fun E n9 w9 hx => JT_n hx) (fun _ => rfl) (fun p_4 h => ?_)
      have h : Ok _ _ := h
      change J X K 3 False QQ 0 0 2055 (jw K σ μ o) 33 [(0, .ref (K.2.2 + 2017)), (1, .int l1), (2, .int l2)] [.int p_4, .ref (K.2.2 + 2017)]
      refine Jm_cV (rest := []) (st9 := fun p_5 => [.int p_5.1]) C hR hX cv_RX12_209 rfl (Nat.le_of_ble_eq_true rfl) (k12_told hl  (Ok.ofbnd h)) rfl rfl (Nat.le_of_ble_eq_true rfl) (Nat.le_of_ble_eq_true rfl) (Nat.le_of_ble_eq_true rfl) ⟨(Nat.le_of_ble_eq_true rfl), (Nat.le_of_ble_eq_true rfl)⟩ dX12_placeAt_33 rfl (fun E n9 w9 hx => JT_n hx) (fun _ => rfl) (fun p_5 h => ?_)
      have h : Ok _ _ := h
      change J X K 3 False QQ 0 0 2055 (jw K σ p_5.2 o) 36 [(0, .ref (K.2.2 + 2017)), (1, .int l1), (2, .int l2)] [.int p_5.1]
      refine J.sub [] rfl ?_
      exact hj_36 p_5.2 p_5.1 h
    · have h := h.neg c_3
      refine J_aload_n (i := 0) (p := 0) C dX12_placeAt_18 rfl rfl rfl ?_
      refine J_iconst (v := 2) C (by decide) dX12_placeAt_19 rfl ?_
      refine Jm_cV (rest := []) (st9 := fun p_6 => [.int p_6.1]) C hR hX cv_RX12_206 rfl (Nat.le_of_ble_eq_true rfl) (k12_refuse hl  (Ok.ofbnd h)) rfl rfl (Nat.le_of_ble_eq_true rfl) (Nat.le_of_ble_eq_true rfl) (Nat.le_of_ble_eq_true rfl) ⟨(Nat.le_of_ble_eq_true rfl), (Nat.le_of_ble_eq_true rfl)⟩ dX12_placeAt_20 rfl (fun E n9 w9 hx => JT_n hx) (fun _ => rfl) (fun p_6 h => ?_)
      have h : Ok _ _ := h
      change J X K 3 False QQ 0 0 2055 (jw K σ p_6.2 o) 23 [(0, .ref (K.2.2 + 2017)), (1, .int l1), (2, .int l2)] [.int p_6.1]
      refine J_goto (t := 36) C dX12_placeAt_23 (by decide) ?_
      refine J.sub [] rfl ?_
      exact hj_36 p_6.2 p_6.1 h
  · have h := h.pos (Decidable.not_not.mp c_2)
    refine J_aload_n (i := 0) (p := 0) C dX12_placeAt_8 rfl rfl rfl ?_
    refine J_iconst (v := 1) C (by decide) dX12_placeAt_9 rfl ?_
    refine Jm_cV (rest := []) (st9 := fun p_7 => [.int p_7.1]) C hR hX cv_RX12_206 rfl (Nat.le_of_ble_eq_true rfl) (k12_refuse hl  (Ok.ofbnd h)) rfl rfl (Nat.le_of_ble_eq_true rfl) (Nat.le_of_ble_eq_true rfl) (Nat.le_of_ble_eq_true rfl) ⟨(Nat.le_of_ble_eq_true rfl), (Nat.le_of_ble_eq_true rfl)⟩ dX12_placeAt_10 rfl (fun E n9 w9 hx => JT_n hx) (fun _ => rfl) (fun p_7 h => ?_)
    have h : Ok _ _ := h
    change J X K 3 False QQ 0 0 2055 (jw K σ p_7.2 o) 13 [(0, .ref (K.2.2 + 2017)), (1, .int l1), (2, .int l2)] [.int p_7.1]
    rw [← hQQ]
    exact J_iret C hret (Nat.le_of_ble_eq_true rfl) (Nat.le_of_ble_eq_true rfl) ⟨_, h.osome, rfl, rfl, rfl⟩ dX12_placeAt_13
def f12_setTab (μ : Sto) (l1 : Int32) : Option (Int32 × Sto) :=
  bnd (f12_in l1 (1 : Int32) (8 : Int32)) fun p_1 =>
  if p_1 = 0 then
    bnd (f12_refuse μ (1 : Int32)) fun p_4 =>
    some (p_4.1, p_4.2)
  else
    stp (fI μ 2017 17) fun x2_1 =>
    stp (uI μ 2017 17 l1) fun μx_2 =>
    bnd (f12_told μx_2 x2_1) fun p_3 =>
    some (p_3.1, p_3.2)
set_option maxHeartbeats 4000000 in
set_option maxRecDepth 100000 in
theorem k12_setTab {l : Launch} {K : JK} (hl : l.stackTraces = false) {σ μ : Sto} {o : Int64} {l1 : Int32}  {Qf : Int32 × Sto → Prop} (h : Ok (f12_setTab μ l1) Qf) : Con l K yX12_setTab (.code yX12_setTab cX12_setTab 3 (some .int) :: TB) 1 0 0 False [.ref (K.2.2 + 2017), .int l1] 2055 (jw K σ μ o) (PR Qf (fun p => some (.int p.1)) (fun p => jw K σ p.2 o)) PN := by
  refine Con.enter (own := RX12) hl (by decide) rfl (Nat.le_of_ble_eq_true rfl) ?_
  intro X hX hR C hret hnt
  generalize hQQ : jQ X K 0 0 (PR Qf (fun p => some (.int p.1)) (fun p => jw K σ p.2 o)) PN False = QQ
  change J X K 3 False QQ 0 0 2055 (jw K σ μ o) 0 [(0, .ref (K.2.2 + 2017)), (1, .int l1)] []
  unfold f12_setTab at h
  refine J_iload_n (i := 1) (p := 1) C dX12_setTab_0 rfl rfl rfl ?_
  refine J_iconst (v := 1) C (by decide) dX12_setTab_1 rfl ?_
  refine J_bipush (v := 8) C (by decide) dX12_setTab_2 rfl ?_
  refine J_cS (rest := []) (st9 := fun p_1 => [.int p_1]) C hR hX cs_RX12_134 (k12_in hl  (Ok.ofbnd h)) rfl rfl (Nat.le_of_ble_eq_true rfl) (Nat.le_of_ble_eq_true rfl) (Nat.le_of_ble_eq_true rfl) ⟨(Nat.le_of_ble_eq_true rfl), (Nat.le_of_ble_eq_true rfl)⟩ dX12_setTab_4 rfl (fun E n9 w9 hx => JT_n hx) (fun _ => rfl) (fun p_1 h => ?_)
  have h : Ok _ _ := h
  change J X K 3 False QQ 0 0 2055 (jw K σ μ o) 7 [(0, .ref (K.2.2 + 2017)), (1, .int l1)] [.int p_1]
  refine J_if_ne (t := 16) C dX12_setTab_7 (by decide) rfl (fun c_2 => ?_) (fun c_2 => ?_)
  · have h := h.neg c_2
    refine J_aload_n (i := 0) (p := 0) C dX12_setTab_16 rfl rfl rfl ?_
    refine Jm_getI C fp_RX12_42 rfl rfl dX12_setTab_17 rfl ?_
    obtain ⟨x2_1, e_x2_1, h⟩ := Ok.nm h
    refine J_istoreE_n (i := 2) (lv' := [(2, .int x2_1), (0, .ref (K.2.2 + 2017)), (1, .int l1)]) C e_x2_1 dX12_setTab_20 rfl (Nat.le_of_ble_eq_true rfl) rfl rfl ?_
    refine J_aload_n (i := 0) (p := 1) C dX12_setTab_21 rfl rfl rfl ?_
    refine J_iload_n (i := 1) (p := 2) C dX12_setTab_22 rfl rfl rfl ?_
    obtain ⟨μx_2, e_μx_2, h⟩ := Ok.nm h
    refine Jm_putI C id fp_RX12_42 fw_11_17 rfl rfl rfl e_μx_2 dX12_setTab_23 rfl ?_
    refine J_aload_n (i := 0) (p := 1) C dX12_setTab_26 rfl rfl rfl ?_
    refine J_iload_n (i := 2) (p := 0) C dX12_setTab_27 rfl rfl rfl ?_
    refine Jm_cV (rest := []) (st9 := fun p_3 => [.int p_3.1]) C hR hX cv_RX12_209 rfl (Nat.le_of_ble_eq_true rfl) (k12_told hl  (Ok.ofbnd h)) rfl rfl (Nat.le_of_ble_eq_true rfl) (Nat.le_of_ble_eq_true rfl) (Nat.le_of_ble_eq_true rfl) ⟨(Nat.le_of_ble_eq_true rfl), (Nat.le_of_ble_eq_true rfl)⟩ dX12_setTab_28 rfl (fun E n9 w9 hx => JT_n hx) (fun _ => rfl) (fun p_3 h => ?_)
    have h : Ok _ _ := h
    change J X K 3 False QQ 0 0 2055 (jw K σ p_3.2 o) 31 [(2, .int x2_1), (0, .ref (K.2.2 + 2017)), (1, .int l1)] [.int p_3.1]
    rw [← hQQ]
    exact J_iret C hret (Nat.le_of_ble_eq_true rfl) (Nat.le_of_ble_eq_true rfl) ⟨_, h.osome, rfl, rfl, rfl⟩ dX12_setTab_31
  · have h := h.pos (Decidable.not_not.mp c_2)
    refine J_aload_n (i := 0) (p := 0) C dX12_setTab_10 rfl rfl rfl ?_
    refine J_iconst (v := 1) C (by decide) dX12_setTab_11 rfl ?_
    refine Jm_cV (rest := []) (st9 := fun p_4 => [.int p_4.1]) C hR hX cv_RX12_206 rfl (Nat.le_of_ble_eq_true rfl) (k12_refuse hl  (Ok.ofbnd h)) rfl rfl (Nat.le_of_ble_eq_true rfl) (Nat.le_of_ble_eq_true rfl) (Nat.le_of_ble_eq_true rfl) ⟨(Nat.le_of_ble_eq_true rfl), (Nat.le_of_ble_eq_true rfl)⟩ dX12_setTab_12 rfl (fun E n9 w9 hx => JT_n hx) (fun _ => rfl) (fun p_4 h => ?_)
    have h : Ok _ _ := h
    change J X K 3 False QQ 0 0 2055 (jw K σ p_4.2 o) 15 [(0, .ref (K.2.2 + 2017)), (1, .int l1)] [.int p_4.1]
    rw [← hQQ]
    exact J_iret C hret (Nat.le_of_ble_eq_true rfl) (Nat.le_of_ble_eq_true rfl) ⟨_, h.osome, rfl, rfl, rfl⟩ dX12_setTab_15
def f12_hash_b4 (μ_4 : Sto) (l1_4 : Int32) (l2_4 : Int32) : Option ((Int32 × Int32) ⊕ Int32) :=
  if (fI μ_4 2017 5) ≤ l2_4 then
    some (.inr l1_4)
  else
    gd (inb l2_4 3000) <|
    stp (((31 : Int32) * l1_4) + (aI μ_4 2018 (Int32.toNatClampNeg l2_4))) fun x1_1 =>
    stp (l2_4 + (1 : Int32)) fun x2_2 =>
    some (.inl (x1_1, x2_2))
def f12_hash_j4 (μ_4 : Sto) (l1_4 : Int32) (l2_4 : Int32) : Option (Int32 × Sto) :=
  bnd (loopF (fun s_4 => f12_hash_b4 μ_4 s_4.1 s_4.2) FU (l1_4, l2_4)) fun r_4 =>
    bnd (f12_told μ_4 r_4) fun p_4 =>
    some (p_4.1, p_4.2)
def f12_hash (μ : Sto) : Option (Int32 × Sto) :=
  stp (0 : Int32) fun x1_3 =>
  stp (0 : Int32) fun x2_4 =>
  f12_hash_j4 μ x1_3 x2_4
set_option maxHeartbeats 4000000 in
set_option maxRecDepth 100000 in
theorem k12_hash {l : Launch} {K : JK} (hl : l.stackTraces = false) {σ μ : Sto} {o : Int64}   {Qf : Int32 × Sto → Prop} (h : Ok (f12_hash μ) Qf) : Con l K yX12_hash (.code yX12_hash cX12_hash 3 (some .int) :: TB) 1 0 0 False [.ref (K.2.2 + 2017)] 2055 (jw K σ μ o) (PR Qf (fun p => some (.int p.1)) (fun p => jw K σ p.2 o)) PN := by
  refine Con.enter (own := RX12) hl (by decide) rfl (Nat.le_of_ble_eq_true rfl) ?_
  intro X hX hR C hret hnt
  generalize hQQ : jQ X K 0 0 (PR Qf (fun p => some (.int p.1)) (fun p => jw K σ p.2 o)) PN False = QQ
  change J X K 3 False QQ 0 0 2055 (jw K σ μ o) 0 [(0, .ref (K.2.2 + 2017))] []
  have hj_4 : (∀ (μ_4 : Sto) (l1_4 : Int32) (l2_4 : Int32), Ok (f12_hash_j4 μ_4 l1_4 l2_4) Qf → J X K 3 False QQ 0 0 2055 (jw K σ μ_4 o) 4 [(0, .ref (K.2.2 + 2017)), (1, .int l1_4), (2, .int l2_4)] []) := by
    intro μ_4 l1_4 l2_4 h
    unfold f12_hash_j4 at h
    refine loop_gen (S := Int32 × Int32) (P := fun s_4 => J X K 3 False QQ 0 0 2055 (jw K σ μ_4 o) 4 [(0, .ref (K.2.2 + 2017)), (1, .int s_4.1), (2, .int s_4.2)] []) ?_ FU (l1_4, l2_4) (Ok.ofbnd h)
    intro B_4 hB_4 hE_4 s_4 h
    obtain ⟨l1_4, l2_4⟩ := s_4
    have h : Ok (f12_hash_b4 μ_4 l1_4 l2_4) B_4 := h
    change J X K 3 False QQ 0 0 2055 (jw K σ μ_4 o) 4 [(0, .ref (K.2.2 + 2017)), (1, .int l1_4), (2, .int l2_4)] []
    unfold f12_hash_b4 at h
    refine J_iload_n (i := 2) (p := 2) C dX12_hash_4 rfl rfl rfl ?_
    refine J_aload_n (i := 0) (p := 0) C dX12_hash_5 rfl rfl rfl ?_
    refine Jm_getI C fp_RX12_138 rfl rfl dX12_hash_6 rfl ?_
    refine J_icmp_ge (t := 30) C dX12_hash_9 (by decide) rfl (fun c_1 => ?_) (fun c_1 => ?_)
    · have h := h.pos c_1
      have h := hE_4 l1_4 h.osome
      try dsimp only at h
      refine J_aload_n (i := 0) (p := 0) C dX12_hash_30 rfl rfl rfl ?_
      refine J_iload_n (i := 1) (p := 1) C dX12_hash_31 rfl rfl rfl ?_
      refine Jm_cV (rest := []) (st9 := fun p_2 => [.int p_2.1]) C hR hX cv_RX12_209 rfl (Nat.le_of_ble_eq_true rfl) (k12_told hl  (Ok.ofbnd h)) rfl rfl (Nat.le_of_ble_eq_true rfl) (Nat.le_of_ble_eq_true rfl) (Nat.le_of_ble_eq_true rfl) ⟨(Nat.le_of_ble_eq_true rfl), (Nat.le_of_ble_eq_true rfl)⟩ dX12_hash_32 rfl (fun E n9 w9 hx => JT_n hx) (fun _ => rfl) (fun p_2 h => ?_)
      have h : Ok _ _ := h
      change J X K 3 False QQ 0 0 2055 (jw K σ p_2.2 o) 35 [(0, .ref (K.2.2 + 2017)), (1, .int l1_4), (2, .int l2_4)] [.int p_2.1]
      rw [← hQQ]
      exact J_iret C hret (Nat.le_of_ble_eq_true rfl) (Nat.le_of_ble_eq_true rfl) ⟨_, h.osome, rfl, rfl, rfl⟩ dX12_hash_35
    · have h := h.neg c_1
      refine J_bipush (v := 31) C (by decide) dX12_hash_12 rfl ?_
      refine J_iload_n (i := 1) (p := 1) C dX12_hash_14 rfl rfl rfl ?_
      refine J_imul C dX12_hash_15 rfl ?_
      refine J_aload_n (i := 0) (p := 0) C dX12_hash_16 rfl rfl rfl ?_
      refine Jm_getS (o2 := 1) (r2 := 2018) C fp_RX12_7 rfl rfl rfl dX12_hash_17 rfl ?_
      refine J_iload_n (i := 2) (p := 2) C dX12_hash_20 rfl rfl rfl ?_
      obtain ⟨g_3, h⟩ := Ok.ofgd h
      refine Jm_iald C rfl rfl g_3 dX12_hash_21 rfl ?_
      refine J_iadd C dX12_hash_22 rfl ?_
      obtain ⟨x1_1, e_x1_1, h⟩ := Ok.nm h
      refine J_istoreE_n (i := 1) (lv' := [(1, .int x1_1), (0, .ref (K.2.2 + 2017)), (2, .int l2_4)]) C e_x1_1 dX12_hash_23 rfl (Nat.le_of_ble_eq_true rfl) rfl rfl ?_
      obtain ⟨x2_2, e_x2_2, h⟩ := Ok.nm h
      refine J_iincE (i := 2) (p := 2) (lv' := [(2, .int x2_2), (1, .int x1_1), (0, .ref (K.2.2 + 2017))]) C e_x2_2 dX12_hash_24 rfl (by decide) (Nat.le_of_ble_eq_true rfl) rfl rfl ?_
      refine J_goto (t := 4) C dX12_hash_27 (by decide) ?_
      refine J.sub [2, 1, 0] rfl ?_
      exact hB_4 (x1_1, x2_2) h.osome
  unfold f12_hash at h
  refine J_iconst (v := 0) C (by decide) dX12_hash_0 rfl ?_
  obtain ⟨x1_3, e_x1_3, h⟩ := Ok.nm h
  refine J_istoreE_n (i := 1) (lv' := [(1, .int x1_3), (0, .ref (K.2.2 + 2017))]) C e_x1_3 dX12_hash_1 rfl (Nat.le_of_ble_eq_true rfl) rfl rfl ?_
  refine J_iconst (v := 0) C (by decide) dX12_hash_2 rfl ?_
  obtain ⟨x2_4, e_x2_4, h⟩ := Ok.nm h
  refine J_istoreE_n (i := 2) (lv' := [(2, .int x2_4), (1, .int x1_3), (0, .ref (K.2.2 + 2017))]) C e_x2_4 dX12_hash_3 rfl (Nat.le_of_ble_eq_true rfl) rfl rfl ?_
  refine J.sub [2, 1, 0] rfl ?_
  exact hj_4 μ x1_3 x2_4 h
def f12_meanLine (μ : Sto) : Option (UInt64 × Sto) :=
  stp (uI μ 2017 18 (0 : Int32)) fun μx_1 =>
  bnd (f12_lines μx_1) fun p_1 =>
  stp p_1 fun x1_2 =>
  gd (nf64 (FP.ddiv (FP.i2d ((fI μx_1 2017 5) - (x1_2 - (1 : Int32)))) (FP.i2d x1_2))) <|
  some (FP.ddiv (FP.i2d ((fI μx_1 2017 5) - (x1_2 - (1 : Int32)))) (FP.i2d x1_2), μx_1)
set_option maxHeartbeats 4000000 in
set_option maxRecDepth 100000 in
theorem k12_meanLine {l : Launch} {K : JK} (hl : l.stackTraces = false) {σ μ : Sto} {o : Int64}   {Qf : UInt64 × Sto → Prop} (h : Ok (f12_meanLine μ) Qf) : Con l K yX12_meanLine (.code yX12_meanLine cX12_meanLine 2 (some .double) :: TB) 1 0 0 False [.ref (K.2.2 + 2017)] 2055 (jw K σ μ o) (PR Qf (fun p => some (.double p.1)) (fun p => jw K σ p.2 o)) PN := by
  refine Con.enter (own := RX12) hl (by decide) rfl (Nat.le_of_ble_eq_true rfl) ?_
  intro X hX hR C hret hnt
  generalize hQQ : jQ X K 0 0 (PR Qf (fun p => some (.double p.1)) (fun p => jw K σ p.2 o)) PN False = QQ
  change J X K 2 False QQ 0 0 2055 (jw K σ μ o) 0 [(0, .ref (K.2.2 + 2017))] []
  unfold f12_meanLine at h
  refine J_aload_n (i := 0) (p := 0) C dX12_meanLine_0 rfl rfl rfl ?_
  refine J_iconst (v := 0) C (by decide) dX12_meanLine_1 rfl ?_
  obtain ⟨μx_1, e_μx_1, h⟩ := Ok.nm h
  refine Jm_putI C id fp_RX12_131 fw_11_18 rfl rfl rfl e_μx_1 dX12_meanLine_2 rfl ?_
  refine J_aload_n (i := 0) (p := 0) C dX12_meanLine_5 rfl rfl rfl ?_
  refine Jm_cV (rest := []) (st9 := fun p_1 => [.int p_1]) C hR hX cv_RX12_141 rfl (Nat.le_of_ble_eq_true rfl) (k12_lines hl  (Ok.ofbnd h)) rfl rfl (Nat.le_of_ble_eq_true rfl) (Nat.le_of_ble_eq_true rfl) (Nat.le_of_ble_eq_true rfl) ⟨(Nat.le_of_ble_eq_true rfl), (Nat.le_of_ble_eq_true rfl)⟩ dX12_meanLine_6 rfl (fun E n9 w9 hx => JT_n hx) (fun _ => rfl) (fun p_1 h => ?_)
  have h : Ok _ _ := h
  change J X K 2 False QQ 0 0 2055 (jw K σ μx_1 o) 9 [(0, .ref (K.2.2 + 2017))] [.int p_1]
  obtain ⟨x1_2, e_x1_2, h⟩ := Ok.nm h
  refine J_istoreE_n (i := 1) (lv' := [(1, .int x1_2), (0, .ref (K.2.2 + 2017))]) C e_x1_2 dX12_meanLine_9 rfl (Nat.le_of_ble_eq_true rfl) rfl rfl ?_
  refine J_aload_n (i := 0) (p := 1) C dX12_meanLine_10 rfl rfl rfl ?_
  refine Jm_getI C fp_RX12_138 rfl rfl dX12_meanLine_11 rfl ?_
  refine J_iload_n (i := 1) (p := 0) C dX12_meanLine_14 rfl rfl rfl ?_
  refine J_iconst (v := 1) C (by decide) dX12_meanLine_15 rfl ?_
  refine J_isub C dX12_meanLine_16 rfl ?_
  refine J_isub C dX12_meanLine_17 rfl ?_
  refine J_i2d C dX12_meanLine_18 rfl ?_
  refine J_iload_n (i := 1) (p := 0) C dX12_meanLine_19 rfl rfl rfl ?_
  refine J_i2d C dX12_meanLine_20 rfl ?_
  obtain ⟨g_2, h⟩ := Ok.ofgd h
  refine J_ddiv C (nf64_spec g_2) dX12_meanLine_21 rfl ?_
  rw [← hQQ]
  exact J_dret C hret (Nat.le_of_ble_eq_true rfl) (Nat.le_of_ble_eq_true rfl) ⟨_, h.osome, rfl, rfl, rfl⟩ dX12_meanLine_22
def f12_keep_b10 (μ_10 : Sto) (l1_10 : Int32) : Option ((Sto × Int32) ⊕ Sto) :=
  if (fI μ_10 2017 5) ≤ l1_10 then
    some (.inr μ_10)
  else
    gd (inb l1_10 3000) <|
    gd (inb l1_10 3000) <|
    stp (uA μ_10 2026 (Int32.toNatClampNeg l1_10) (aI μ_10 2018 (Int32.toNatClampNeg l1_10))) fun μx_1 =>
    stp (l1_10 + (1 : Int32)) fun x1_2 =>
    some (.inl (μx_1, x1_2))
def f12_keep_j10 (μ_10 : Sto) (l1_10 : Int32) : Option (Int32 × Sto) :=
  bnd (loopF (fun s_10 => f12_keep_b10 s_10.1 s_10.2) FU (μ_10, l1_10)) fun r_10 =>
    bnd (f12_lines r_10) fun p_6 =>
    bnd (f12_told r_10 p_6) fun p_7 =>
    some (p_7.1, p_7.2)
def f12_keep (μ : Sto) : Option (Int32 × Sto) :=
  stp (uI μ 2017 16 (fI μ 2017 5)) fun μx_3 =>
  stp (0 : Int32) fun x1_4 =>
  f12_keep_j10 μx_3 x1_4
set_option maxHeartbeats 4000000 in
set_option maxRecDepth 100000 in
theorem k12_keep {l : Launch} {K : JK} (hl : l.stackTraces = false) {σ μ : Sto} {o : Int64}   {Qf : Int32 × Sto → Prop} (h : Ok (f12_keep μ) Qf) : Con l K yX12_keep (.code yX12_keep cX12_keep 2 (some .int) :: TB) 1 0 0 False [.ref (K.2.2 + 2017)] 2055 (jw K σ μ o) (PR Qf (fun p => some (.int p.1)) (fun p => jw K σ p.2 o)) PN := by
  refine Con.enter (own := RX12) hl (by decide) rfl (Nat.le_of_ble_eq_true rfl) ?_
  intro X hX hR C hret hnt
  generalize hQQ : jQ X K 0 0 (PR Qf (fun p => some (.int p.1)) (fun p => jw K σ p.2 o)) PN False = QQ
  change J X K 2 False QQ 0 0 2055 (jw K σ μ o) 0 [(0, .ref (K.2.2 + 2017))] []
  have hj_10 : (∀ (μ_10 : Sto) (l1_10 : Int32), Ok (f12_keep_j10 μ_10 l1_10) Qf → J X K 2 False QQ 0 0 2055 (jw K σ μ_10 o) 10 [(0, .ref (K.2.2 + 2017)), (1, .int l1_10)] []) := by
    intro μ_10 l1_10 h
    unfold f12_keep_j10 at h
    refine loop_gen (S := Sto × Int32) (P := fun s_10 => J X K 2 False QQ 0 0 2055 (jw K σ s_10.1 o) 10 [(0, .ref (K.2.2 + 2017)), (1, .int s_10.2)] []) ?_ FU (μ_10, l1_10) (Ok.ofbnd h)
    intro B_10 hB_10 hE_10 s_10 h
    obtain ⟨μ_10, l1_10⟩ := s_10
    have h : Ok (f12_keep_b10 μ_10 l1_10) B_10 := h
    change J X K 2 False QQ 0 0 2055 (jw K σ μ_10 o) 10 [(0, .ref (K.2.2 + 2017)), (1, .int l1_10)] []
    unfold f12_keep_b10 at h
    refine J_iload_n (i := 1) (p := 1) C dX12_keep_10 rfl rfl rfl ?_
    refine J_aload_n (i := 0) (p := 0) C dX12_keep_11 rfl rfl rfl ?_
    refine Jm_getI C fp_RX12_138 rfl rfl dX12_keep_12 rfl ?_
    refine J_icmp_ge (t := 36) C dX12_keep_15 (by decide) rfl (fun c_1 => ?_) (fun c_1 => ?_)
    · have h := h.pos c_1
      have h := hE_10 μ_10 h.osome
      try dsimp only at h
      refine J_aload_n (i := 0) (p := 0) C dX12_keep_36 rfl rfl rfl ?_
      refine J_aload_n (i := 0) (p := 0) C dX12_keep_37 rfl rfl rfl ?_
      refine Jm_cV (rest := [.ref (K.2.2 + 2017)]) (st9 := fun p_2 => [.int p_2, .ref (K.2.2 + 2017)]) C hR hX cv_RX12_141 rfl (Nat.le_of_ble_eq_true rfl) (k12_lines hl  (Ok.ofbnd h)) rfl rfl (Nat.le_of_ble_eq_true rfl) (Nat.le_of_ble_eq_true rfl) (Nat.le_of_ble_eq_true rfl) ⟨(Nat.le_of_ble_eq_true rfl), (Nat.le_of_ble_eq_true rfl)⟩ dX12_keep_38 rfl (fun E n9 w9 hx => JT_n hx) (fun _ => rfl) (fun p_2 h => ?_)
      have h : Ok _ _ := h
      change J X K 2 False QQ 0 0 2055 (jw K σ μ_10 o) 41 [(0, .ref (K.2.2 + 2017)), (1, .int l1_10)] [.int p_2, .ref (K.2.2 + 2017)]
      refine Jm_cV (rest := []) (st9 := fun p_3 => [.int p_3.1]) C hR hX cv_RX12_209 rfl (Nat.le_of_ble_eq_true rfl) (k12_told hl  (Ok.ofbnd h)) rfl rfl (Nat.le_of_ble_eq_true rfl) (Nat.le_of_ble_eq_true rfl) (Nat.le_of_ble_eq_true rfl) ⟨(Nat.le_of_ble_eq_true rfl), (Nat.le_of_ble_eq_true rfl)⟩ dX12_keep_41 rfl (fun E n9 w9 hx => JT_n hx) (fun _ => rfl) (fun p_3 h => ?_)
      have h : Ok _ _ := h
      change J X K 2 False QQ 0 0 2055 (jw K σ p_3.2 o) 44 [(0, .ref (K.2.2 + 2017)), (1, .int l1_10)] [.int p_3.1]
      rw [← hQQ]
      exact J_iret C hret (Nat.le_of_ble_eq_true rfl) (Nat.le_of_ble_eq_true rfl) ⟨_, h.osome, rfl, rfl, rfl⟩ dX12_keep_44
    · have h := h.neg c_1
      refine J_aload_n (i := 0) (p := 0) C dX12_keep_18 rfl rfl rfl ?_
      refine Jm_getS (o2 := 9) (r2 := 2026) C fp_RX12_39 rfl rfl rfl dX12_keep_19 rfl ?_
      refine J_iload_n (i := 1) (p := 1) C dX12_keep_22 rfl rfl rfl ?_
      refine J_aload_n (i := 0) (p := 0) C dX12_keep_23 rfl rfl rfl ?_
      refine Jm_getS (o2 := 1) (r2 := 2018) C fp_RX12_7 rfl rfl rfl dX12_keep_24 rfl ?_
      refine J_iload_n (i := 1) (p := 1) C dX12_keep_27 rfl rfl rfl ?_
      obtain ⟨g_4, h⟩ := Ok.ofgd h
      refine Jm_iald C rfl rfl g_4 dX12_keep_28 rfl ?_
      obtain ⟨g_5, h⟩ := Ok.ofgd h
      obtain ⟨μx_1, e_μx_1, h⟩ := Ok.nm h
      refine Jm_iast C id rfl rfl g_5 e_μx_1 dX12_keep_29 rfl ?_
      obtain ⟨x1_2, e_x1_2, h⟩ := Ok.nm h
      refine J_iincE (i := 1) (p := 1) (lv' := [(1, .int x1_2), (0, .ref (K.2.2 + 2017))]) C e_x1_2 dX12_keep_30 rfl (by decide) (Nat.le_of_ble_eq_true rfl) rfl rfl ?_
      refine J_goto (t := 10) C dX12_keep_33 (by decide) ?_
      refine J.sub [1, 0] rfl ?_
      exact hB_10 (μx_1, x1_2) h.osome
  unfold f12_keep at h
  refine J_aload_n (i := 0) (p := 0) C dX12_keep_0 rfl rfl rfl ?_
  refine J_aload_n (i := 0) (p := 0) C dX12_keep_1 rfl rfl rfl ?_
  refine Jm_getI C fp_RX12_138 rfl rfl dX12_keep_2 rfl ?_
  obtain ⟨μx_3, e_μx_3, h⟩ := Ok.nm h
  refine Jm_putI C id fp_RX12_369 fw_11_16 rfl rfl rfl e_μx_3 dX12_keep_5 rfl ?_
  refine J_iconst (v := 0) C (by decide) dX12_keep_8 rfl ?_
  obtain ⟨x1_4, e_x1_4, h⟩ := Ok.nm h
  refine J_istoreE_n (i := 1) (lv' := [(1, .int x1_4), (0, .ref (K.2.2 + 2017))]) C e_x1_4 dX12_keep_9 rfl (Nat.le_of_ble_eq_true rfl) rfl rfl ?_
  refine J.sub [1, 0] rfl ?_
  exact hj_10 μx_3 x1_4 h
def f12_lays_j34 (a0 : Nat) (l1 : Int32) (a2 : Nat) (μ_34 : Sto) (l3_34 : Int32) (l4_34 : Int32) : Option ((Sto × Int32 × Int32) ⊕ (Sto × Int32)) :=
  stp (l4_34 + (1 : Int32)) fun x4_1 =>
  some (.inl (μ_34, l3_34, x4_1))
def f12_lays_b9 (a0 : Nat) (l1 : Int32) (a2 : Nat) (μ_9 : Sto) (l3_9 : Int32) (l4_9 : Int32) : Option ((Sto × Int32 × Int32) ⊕ (Sto × Int32)) :=
  if l1 ≤ l4_9 then
    some (.inr (μ_9, l3_9))
  else
    gd (inb l4_9 (ln a0)) <|
    if (aI μ_9 a0 (Int32.toNatClampNeg l4_9)) = (10 : Int32) then
      gd (inb l3_9 (ln a2)) <|
      stp (uA μ_9 a2 (Int32.toNatClampNeg l3_9) (l4_9 + (1 : Int32))) fun μx_3 =>
      stp (l3_9 + (1 : Int32)) fun x3_4 =>
      f12_lays_j34 a0 l1 a2 μx_3 x3_4 l4_9
    else
      f12_lays_j34 a0 l1 a2 μ_9 l3_9 l4_9
def f12_lays_j9 (a0 : Nat) (l1 : Int32) (a2 : Nat) (μ_9 : Sto) (l3_9 : Int32) (l4_9 : Int32) : Option (Int32 × Sto) :=
  bnd (loopF (fun s_9 => f12_lays_b9 a0 l1 a2 s_9.1 s_9.2.1 s_9.2.2) FU (μ_9, l3_9, l4_9)) fun r_9 =>
    gd (inb r_9.2 (ln a2)) <|
    stp (uA r_9.1 a2 (Int32.toNatClampNeg r_9.2) (l1 + (1 : Int32))) fun μx_5 =>
    some (r_9.2, μx_5)
def f12_lays (μ : Sto) (a0 : Nat) (l1 : Int32) (a2 : Nat) : Option (Int32 × Sto) :=
  stp (1 : Int32) fun x3_6 =>
  gd (inb (0 : Int32) (ln a2)) <|
  stp (uA μ a2 (Int32.toNatClampNeg (0 : Int32)) (0 : Int32)) fun μx_7 =>
  stp (0 : Int32) fun x4_8 =>
  f12_lays_j9 a0 l1 a2 μx_7 x3_6 x4_8
set_option maxHeartbeats 4000000 in
set_option maxRecDepth 100000 in
theorem k12_lays {l : Launch} {K : JK} (hl : l.stackTraces = false) {σ μ : Sto} {o : Int64} {a0 : Nat} {l1 : Int32} {a2 : Nat} (h_a0 : km a0 = 12) (h_a2 : km a2 = 12) {Qf : Int32 × Sto → Prop} (h : Ok (f12_lays μ a0 l1 a2) Qf) : Con l K yX12_lays (.code yX12_lays cX12_lays 5 (some .int) :: TB) 0 0 0 False [.ref (K.2.2 + a0), .int l1, .ref (K.2.2 + a2)] 2055 (jw K σ μ o) (PR Qf (fun p => some (.int p.1)) (fun p => jw K σ p.2 o)) PN := by
  refine Con.enter (own := RX12) hl (by decide) rfl (Nat.le_of_ble_eq_true rfl) ?_
  intro X hX hR C hret hnt
  generalize hQQ : jQ X K 0 0 (PR Qf (fun p => some (.int p.1)) (fun p => jw K σ p.2 o)) PN False = QQ
  change J X K 5 False QQ 0 0 2055 (jw K σ μ o) 0 [(0, .ref (K.2.2 + a0)), (1, .int l1), (2, .ref (K.2.2 + a2))] []
  have hj_9 : (∀ (μ_9 : Sto) (l3_9 : Int32) (l4_9 : Int32), Ok (f12_lays_j9 a0 l1 a2 μ_9 l3_9 l4_9) Qf → J X K 5 False QQ 0 0 2055 (jw K σ μ_9 o) 9 [(0, .ref (K.2.2 + a0)), (1, .int l1), (2, .ref (K.2.2 + a2)), (3, .int l3_9), (4, .int l4_9)] []) := by
    intro μ_9 l3_9 l4_9 h
    unfold f12_lays_j9 at h
    refine loop_gen (S := Sto × Int32 × Int32) (P := fun s_9 => J X K 5 False QQ 0 0 2055 (jw K σ s_9.1 o) 9 [(0, .ref (K.2.2 + a0)), (1, .int l1), (2, .ref (K.2.2 + a2)), (3, .int s_9.2.1), (4, .int s_9.2.2)] []) ?_ FU (μ_9, l3_9, l4_9) (Ok.ofbnd h)
    intro B_9 hB_9 hE_9 s_9 h
    obtain ⟨μ_9, l3_9, l4_9⟩ := s_9
    have h : Ok (f12_lays_b9 a0 l1 a2 μ_9 l3_9 l4_9) B_9 := h
    change J X K 5 False QQ 0 0 2055 (jw K σ μ_9 o) 9 [(0, .ref (K.2.2 + a0)), (1, .int l1), (2, .ref (K.2.2 + a2)), (3, .int l3_9), (4, .int l4_9)] []
    have hj_34 : (∀ (μ_34 : Sto) (l3_34 : Int32) (l4_34 : Int32), Ok (f12_lays_j34 a0 l1 a2 μ_34 l3_34 l4_34) B_9 → J X K 5 False QQ 0 0 2055 (jw K σ μ_34 o) 34 [(0, .ref (K.2.2 + a0)), (1, .int l1), (2, .ref (K.2.2 + a2)), (3, .int l3_34), (4, .int l4_34)] []) := by
      intro μ_34 l3_34 l4_34 h
      unfold f12_lays_j34 at h
      obtain ⟨x4_1, e_x4_1, h⟩ := Ok.nm h
      refine J_iincE (i := 4) (p := 4) (lv' := [(4, .int x4_1), (0, .ref (K.2.2 + a0)), (1, .int l1), (2, .ref (K.2.2 + a2)), (3, .int l3_34)]) C e_x4_1 dX12_lays_34 rfl (by decide) (Nat.le_of_ble_eq_true rfl) rfl rfl ?_
      refine J_goto (t := 9) C dX12_lays_37 (by decide) ?_
      refine J.sub [1, 2, 3, 4, 0] rfl ?_
      exact hB_9 (μ_34, l3_34, x4_1) h.osome
    unfold f12_lays_b9 at h
    refine J_iload (i := 4) (p := 4) C dX12_lays_9 rfl rfl ?_
    refine J_iload_n (i := 1) (p := 1) C dX12_lays_11 rfl rfl rfl ?_
    refine J_icmp_ge (t := 40) C dX12_lays_12 (by decide) rfl (fun c_1 => ?_) (fun c_1 => ?_)
    · have h := h.pos c_1
      have h := hE_9 (μ_9, l3_9) h.osome
      try dsimp only at h
      refine J_aload_n (i := 2) (p := 2) C dX12_lays_40 rfl rfl rfl ?_
      refine J_iload_n (i := 3) (p := 3) C dX12_lays_41 rfl rfl rfl ?_
      refine J_iload_n (i := 1) (p := 1) C dX12_lays_42 rfl rfl rfl ?_
      refine J_iconst (v := 1) C (by decide) dX12_lays_43 rfl ?_
      refine J_iadd C dX12_lays_44 rfl ?_
      obtain ⟨g_2, h⟩ := Ok.ofgd h
      obtain ⟨μx_2, e_μx_2, h⟩ := Ok.nm h
      refine Jm_iast C id h_a2 rfl g_2 e_μx_2 dX12_lays_45 rfl ?_
      refine J_iload_n (i := 3) (p := 3) C dX12_lays_46 rfl rfl rfl ?_
      rw [← hQQ]
      exact J_iret C hret (Nat.le_of_ble_eq_true rfl) (Nat.le_of_ble_eq_true rfl) ⟨_, h.osome, rfl, rfl, rfl⟩ dX12_lays_47
    · have h := h.neg c_1
      refine J_aload_n (i := 0) (p := 0) C dX12_lays_15 rfl rfl rfl ?_
      refine J_iload (i := 4) (p := 4) C dX12_lays_16 rfl rfl ?_
      obtain ⟨g_3, h⟩ := Ok.ofgd h
      refine Jm_iald C h_a0 rfl g_3 dX12_lays_18 rfl ?_
      refine J_bipush (v := 10) C (by decide) dX12_lays_19 rfl ?_
      refine J_icmp_ne (t := 34) C dX12_lays_21 (by decide) rfl (fun c_4 => ?_) (fun c_4 => ?_)
      · have h := h.neg c_4
        exact hj_34 μ_9 l3_9 l4_9 h
      · have h := h.pos (Decidable.not_not.mp c_4)
        refine J_aload_n (i := 2) (p := 2) C dX12_lays_24 rfl rfl rfl ?_
        refine J_iload_n (i := 3) (p := 3) C dX12_lays_25 rfl rfl rfl ?_
        refine J_iload (i := 4) (p := 4) C dX12_lays_26 rfl rfl ?_
        refine J_iconst (v := 1) C (by decide) dX12_lays_28 rfl ?_
        refine J_iadd C dX12_lays_29 rfl ?_
        obtain ⟨g_5, h⟩ := Ok.ofgd h
        obtain ⟨μx_3, e_μx_3, h⟩ := Ok.nm h
        refine Jm_iast C id h_a2 rfl g_5 e_μx_3 dX12_lays_30 rfl ?_
        obtain ⟨x3_4, e_x3_4, h⟩ := Ok.nm h
        refine J_iincE (i := 3) (p := 3) (lv' := [(3, .int x3_4), (0, .ref (K.2.2 + a0)), (1, .int l1), (2, .ref (K.2.2 + a2)), (4, .int l4_9)]) C e_x3_4 dX12_lays_31 rfl (by decide) (Nat.le_of_ble_eq_true rfl) rfl rfl ?_
        refine J.sub [1, 2, 3, 0, 4] rfl ?_
        exact hj_34 μx_3 x3_4 l4_9 h
  unfold f12_lays at h
  refine J_iconst (v := 1) C (by decide) dX12_lays_0 rfl ?_
  obtain ⟨x3_6, e_x3_6, h⟩ := Ok.nm h
  refine J_istoreE_n (i := 3) (lv' := [(3, .int x3_6), (0, .ref (K.2.2 + a0)), (1, .int l1), (2, .ref (K.2.2 + a2))]) C e_x3_6 dX12_lays_1 rfl (Nat.le_of_ble_eq_true rfl) rfl rfl ?_
  refine J_aload_n (i := 2) (p := 3) C dX12_lays_2 rfl rfl rfl ?_
  refine J_iconst (v := 0) C (by decide) dX12_lays_3 rfl ?_
  refine J_iconst (v := 0) C (by decide) dX12_lays_4 rfl ?_
  obtain ⟨g_7, h⟩ := Ok.ofgd h
  obtain ⟨μx_7, e_μx_7, h⟩ := Ok.nm h
  refine Jm_iast C id h_a2 rfl g_7 e_μx_7 dX12_lays_5 rfl ?_
  refine J_iconst (v := 0) C (by decide) dX12_lays_6 rfl ?_
  obtain ⟨x4_8, e_x4_8, h⟩ := Ok.nm h
  refine J_istoreE (i := 4) (lv' := [(4, .int x4_8), (3, .int x3_6), (0, .ref (K.2.2 + a0)), (1, .int l1), (2, .ref (K.2.2 + a2))]) C e_x4_8 dX12_lays_7 (Nat.le_of_ble_eq_true rfl) rfl rfl ?_
  refine J.sub [2, 3, 4, 1, 0] rfl ?_
  exact hj_9 μx_7 x3_6 x4_8 h
def f12_areAlike_j102 (l1 : Int32) (l2 : Int32) (μ : Sto) (l4_102 : Int32) : Option (Int32) :=
  gd (isB l4_102) <|
  some l4_102
def f12_areAlike_j94 (l1 : Int32) (l2 : Int32) (μ : Sto) (l3_45 : Int32) (l5_94 : Int32) (s0_94 : Int32) : Option ((Int32 × Int32) ⊕ Int32) :=
  stp s0_94 fun x4_1 =>
  stp (l5_94 + (1 : Int32)) fun x5_2 =>
  some (.inl (x4_1, x5_2))
def f12_areAlike_b45 (l1 : Int32) (l2 : Int32) (μ : Sto) (l3_45 : Int32) (l4_45 : Int32) (l5_45 : Int32) : Option ((Int32 × Int32) ⊕ Int32) :=
  if l3_45 ≤ (l5_45 + (1 : Int32)) then
    some (.inr l4_45)
  else
    if l4_45 = 0 then
      some (.inr l4_45)
    else
      gd (inb l1 302) <|
      gd (inb ((aI μ 2051 (Int32.toNatClampNeg l1)) + l5_45) 3000) <|
      gd (inb l2 302) <|
      gd (inb ((aI μ 2050 (Int32.toNatClampNeg l2)) + l5_45) 3000) <|
      if (aI μ 2018 (Int32.toNatClampNeg ((aI μ 2051 (Int32.toNatClampNeg l1)) + l5_45))) = (aI μ 2026 (Int32.toNatClampNeg ((aI μ 2050 (Int32.toNatClampNeg l2)) + l5_45))) then
        f12_areAlike_j94 l1 l2 μ l3_45 l5_45 (1 : Int32)
      else
        f12_areAlike_j94 l1 l2 μ l3_45 l5_45 (0 : Int32)
def f12_areAlike_j45 (l1 : Int32) (l2 : Int32) (μ : Sto) (l3_45 : Int32) (l4_45 : Int32) (l5_45 : Int32) : Option (Int32) :=
  bnd (loopF (fun s_45 => f12_areAlike_b45 l1 l2 μ l3_45 s_45.1 s_45.2) FU (l4_45, l5_45)) fun r_45 =>
    f12_areAlike_j102 l1 l2 μ r_45
def f12_areAlike_j40 (l1 : Int32) (l2 : Int32) (μ : Sto) (l3_40 : Int32) (s0_40 : Int32) : Option (Int32) :=
  stp s0_40 fun x4_3 =>
  stp (0 : Int32) fun x5_4 =>
  f12_areAlike_j45 l1 l2 μ l3_40 x4_3 x5_4
def f12_areAlike (μ : Sto) (l1 : Int32) (l2 : Int32) : Option (Int32) :=
  gd (inb (l1 + (1 : Int32)) 302) <|
  gd (inb l1 302) <|
  stp ((aI μ 2051 (Int32.toNatClampNeg (l1 + (1 : Int32)))) - (aI μ 2051 (Int32.toNatClampNeg l1))) fun x3_5 =>
  gd (inb (l2 + (1 : Int32)) 302) <|
  gd (inb l2 302) <|
  if x3_5 = ((aI μ 2050 (Int32.toNatClampNeg (l2 + (1 : Int32)))) - (aI μ 2050 (Int32.toNatClampNeg l2))) then
    f12_areAlike_j40 l1 l2 μ x3_5 (1 : Int32)
  else
    f12_areAlike_j40 l1 l2 μ x3_5 (0 : Int32)
set_option maxHeartbeats 4000000 in
set_option maxRecDepth 100000 in
theorem k12_areAlike {l : Launch} {K : JK} (hl : l.stackTraces = false) {σ μ : Sto} {o : Int64} {l1 : Int32} {l2 : Int32}  {Qf : Int32 → Prop} (h : Ok (f12_areAlike μ l1 l2) Qf) : Con l K yX12_areAlike (.code yX12_areAlike cX12_areAlike 6 (some .boolean) :: TB) 0 0 0 False [.ref (K.2.2 + 2017), .int l1, .int l2] 2055 (jw K σ μ o) (PR Qf (fun p => some (.int p)) (fun p => jw K σ μ o)) PN := by
  refine Con.enter (own := RX12) hl (by decide) rfl (Nat.le_of_ble_eq_true rfl) ?_
  intro X hX hR C hret hnt
  generalize hQQ : jQ X K 0 0 (PR Qf (fun p => some (.int p)) (fun p => jw K σ μ o)) PN False = QQ
  change J X K 6 False QQ 0 0 2055 (jw K σ μ o) 0 [(0, .ref (K.2.2 + 2017)), (1, .int l1), (2, .int l2)] []
  have hj_102 : (∀ (l4_102 : Int32), Ok (f12_areAlike_j102 l1 l2 μ l4_102) Qf → J X K 6 False QQ 0 0 2055 (jw K σ μ o) 102 [(4, .int l4_102)] []) := by
    intro l4_102 h
    unfold f12_areAlike_j102 at h
    refine J_iload (i := 4) (p := 0) C dX12_areAlike_102 rfl rfl ?_
    obtain ⟨g_1, h⟩ := Ok.ofgd h
    rw [← hQQ]
    exact J_zret C hret (narB g_1).1 (Nat.le_of_ble_eq_true rfl) (Nat.le_of_ble_eq_true rfl) ⟨_, h.osome, rfl, rfl, rfl⟩ dX12_areAlike_104
  have hj_45 : (∀ (l3_45 : Int32) (l4_45 : Int32) (l5_45 : Int32), Ok (f12_areAlike_j45 l1 l2 μ l3_45 l4_45 l5_45) Qf → J X K 6 False QQ 0 0 2055 (jw K σ μ o) 45 [(0, .ref (K.2.2 + 2017)), (1, .int l1), (2, .int l2), (3, .int l3_45), (4, .int l4_45), (5, .int l5_45)] []) := by
    intro l3_45 l4_45 l5_45 h
    unfold f12_areAlike_j45 at h
    refine loop_gen (S := Int32 × Int32) (P := fun s_45 => J X K 6 False QQ 0 0 2055 (jw K σ μ o) 45 [(0, .ref (K.2.2 + 2017)), (1, .int l1), (2, .int l2), (3, .int l3_45), (4, .int s_45.1), (5, .int s_45.2)] []) ?_ FU (l4_45, l5_45) (Ok.ofbnd h)
    intro B_45 hB_45 hE_45 s_45 h
    obtain ⟨l4_45, l5_45⟩ := s_45
    have h : Ok (f12_areAlike_b45 l1 l2 μ l3_45 l4_45 l5_45) B_45 := h
    change J X K 6 False QQ 0 0 2055 (jw K σ μ o) 45 [(0, .ref (K.2.2 + 2017)), (1, .int l1), (2, .int l2), (3, .int l3_45), (4, .int l4_45), (5, .int l5_45)] []
    have hj_94 : (∀ (l5_94 : Int32) (s0_94 : Int32), Ok (f12_areAlike_j94 l1 l2 μ l3_45 l5_94 s0_94) B_45 → J X K 6 False QQ 0 0 2055 (jw K σ μ o) 94 [(0, .ref (K.2.2 + 2017)), (1, .int l1), (2, .int l2), (3, .int l3_45), (5, .int l5_94)] [.int s0_94]) := by
      intro l5_94 s0_94 h
      unfold f12_areAlike_j94 at h
      obtain ⟨x4_1, e_x4_1, h⟩ := Ok.nm h
      refine J_istoreE (i := 4) (lv' := [(4, .int x4_1), (0, .ref (K.2.2 + 2017)), (1, .int l1), (2, .int l2), (3, .int l3_45), (5, .int l5_94)]) C e_x4_1 dX12_areAlike_94 (Nat.le_of_ble_eq_true rfl) rfl rfl ?_
      obtain ⟨x5_2, e_x5_2, h⟩ := Ok.nm h
      refine J_iincE (i := 5) (p := 5) (lv' := [(5, .int x5_2), (4, .int x4_1), (0, .ref (K.2.2 + 2017)), (1, .int l1), (2, .int l2), (3, .int l3_45)]) C e_x5_2 dX12_areAlike_96 rfl (by decide) (Nat.le_of_ble_eq_true rfl) rfl rfl ?_
      refine J_goto (t := 45) C dX12_areAlike_99 (by decide) ?_
      refine J.sub [2, 3, 4, 5, 1, 0] rfl ?_
      exact hB_45 (x4_1, x5_2) h.osome
    unfold f12_areAlike_b45 at h
    refine J_iload (i := 5) (p := 5) C dX12_areAlike_45 rfl rfl ?_
    refine J_iconst (v := 1) C (by decide) dX12_areAlike_47 rfl ?_
    refine J_iadd C dX12_areAlike_48 rfl ?_
    refine J_iload_n (i := 3) (p := 3) C dX12_areAlike_49 rfl rfl rfl ?_
    refine J_icmp_ge (t := 102) C dX12_areAlike_50 (by decide) rfl (fun c_2 => ?_) (fun c_2 => ?_)
    · have h := h.pos c_2
      have h := hE_45 l4_45 h.osome
      try dsimp only at h
      refine J.sub [4] rfl ?_
      exact hj_102 l4_45 h
    · have h := h.neg c_2
      refine J_iload (i := 4) (p := 4) C dX12_areAlike_53 rfl rfl ?_
      refine J_if_eq (t := 102) C dX12_areAlike_55 (by decide) rfl (fun c_3 => ?_) (fun c_3 => ?_)
      · have h := h.pos c_3
        have h := hE_45 l4_45 h.osome
        try dsimp only at h
        refine J.sub [4] rfl ?_
        exact hj_102 l4_45 h
      · have h := h.neg c_3
        refine J_aload_n (i := 0) (p := 0) C dX12_areAlike_58 rfl rfl rfl ?_
        refine Jm_getS (o2 := 1) (r2 := 2018) C fp_RX12_7 rfl rfl rfl dX12_areAlike_59 rfl ?_
        refine J_aload_n (i := 0) (p := 0) C dX12_areAlike_62 rfl rfl rfl ?_
        refine Jm_getS (o2 := 34) (r2 := 2051) C fp_RX12_122 rfl rfl rfl dX12_areAlike_63 rfl ?_
        refine J_iload_n (i := 1) (p := 1) C dX12_areAlike_66 rfl rfl rfl ?_
        obtain ⟨g_4, h⟩ := Ok.ofgd h
        refine Jm_iald C rfl rfl g_4 dX12_areAlike_67 rfl ?_
        refine J_iload (i := 5) (p := 5) C dX12_areAlike_68 rfl rfl ?_
        refine J_iadd C dX12_areAlike_70 rfl ?_
        obtain ⟨g_5, h⟩ := Ok.ofgd h
        refine Jm_iald C rfl rfl g_5 dX12_areAlike_71 rfl ?_
        refine J_aload_n (i := 0) (p := 0) C dX12_areAlike_72 rfl rfl rfl ?_
        refine Jm_getS (o2 := 9) (r2 := 2026) C fp_RX12_39 rfl rfl rfl dX12_areAlike_73 rfl ?_
        refine J_aload_n (i := 0) (p := 0) C dX12_areAlike_76 rfl rfl rfl ?_
        refine Jm_getS (o2 := 33) (r2 := 2050) C fp_RX12_119 rfl rfl rfl dX12_areAlike_77 rfl ?_
        refine J_iload_n (i := 2) (p := 2) C dX12_areAlike_80 rfl rfl rfl ?_
        obtain ⟨g_6, h⟩ := Ok.ofgd h
        refine Jm_iald C rfl rfl g_6 dX12_areAlike_81 rfl ?_
        refine J_iload (i := 5) (p := 5) C dX12_areAlike_82 rfl rfl ?_
        refine J_iadd C dX12_areAlike_84 rfl ?_
        obtain ⟨g_7, h⟩ := Ok.ofgd h
        refine Jm_iald C rfl rfl g_7 dX12_areAlike_85 rfl ?_
        refine J_icmp_ne (t := 93) C dX12_areAlike_86 (by decide) rfl (fun c_8 => ?_) (fun c_8 => ?_)
        · have h := h.neg c_8
          refine J_iconst (v := 0) C (by decide) dX12_areAlike_93 rfl ?_
          refine J.sub [0, 1, 2, 3, 5] rfl ?_
          exact hj_94 l5_45 (0 : Int32) h
        · have h := h.pos (Decidable.not_not.mp c_8)
          refine J_iconst (v := 1) C (by decide) dX12_areAlike_89 rfl ?_
          refine J_goto (t := 94) C dX12_areAlike_90 (by decide) ?_
          refine J.sub [0, 1, 2, 3, 5] rfl ?_
          exact hj_94 l5_45 (1 : Int32) h
  have hj_40 : (∀ (l3_40 : Int32) (s0_40 : Int32), Ok (f12_areAlike_j40 l1 l2 μ l3_40 s0_40) Qf → J X K 6 False QQ 0 0 2055 (jw K σ μ o) 40 [(0, .ref (K.2.2 + 2017)), (1, .int l1), (2, .int l2), (3, .int l3_40)] [.int s0_40]) := by
    intro l3_40 s0_40 h
    unfold f12_areAlike_j40 at h
    obtain ⟨x4_3, e_x4_3, h⟩ := Ok.nm h
    refine J_istoreE (i := 4) (lv' := [(4, .int x4_3), (0, .ref (K.2.2 + 2017)), (1, .int l1), (2, .int l2), (3, .int l3_40)]) C e_x4_3 dX12_areAlike_40 (Nat.le_of_ble_eq_true rfl) rfl rfl ?_
    refine J_iconst (v := 0) C (by decide) dX12_areAlike_42 rfl ?_
    obtain ⟨x5_4, e_x5_4, h⟩ := Ok.nm h
    refine J_istoreE (i := 5) (lv' := [(5, .int x5_4), (4, .int x4_3), (0, .ref (K.2.2 + 2017)), (1, .int l1), (2, .int l2), (3, .int l3_40)]) C e_x5_4 dX12_areAlike_43 (Nat.le_of_ble_eq_true rfl) rfl rfl ?_
    refine J.sub [2, 3, 4, 5, 1, 0] rfl ?_
    exact hj_45 l3_40 x4_3 x5_4 h
  unfold f12_areAlike at h
  refine J_aload_n (i := 0) (p := 0) C dX12_areAlike_0 rfl rfl rfl ?_
  refine Jm_getS (o2 := 34) (r2 := 2051) C fp_RX12_122 rfl rfl rfl dX12_areAlike_1 rfl ?_
  refine J_iload_n (i := 1) (p := 1) C dX12_areAlike_4 rfl rfl rfl ?_
  refine J_iconst (v := 1) C (by decide) dX12_areAlike_5 rfl ?_
  refine J_iadd C dX12_areAlike_6 rfl ?_
  obtain ⟨g_9, h⟩ := Ok.ofgd h
  refine Jm_iald C rfl rfl g_9 dX12_areAlike_7 rfl ?_
  refine J_aload_n (i := 0) (p := 0) C dX12_areAlike_8 rfl rfl rfl ?_
  refine Jm_getS (o2 := 34) (r2 := 2051) C fp_RX12_122 rfl rfl rfl dX12_areAlike_9 rfl ?_
  refine J_iload_n (i := 1) (p := 1) C dX12_areAlike_12 rfl rfl rfl ?_
  obtain ⟨g_10, h⟩ := Ok.ofgd h
  refine Jm_iald C rfl rfl g_10 dX12_areAlike_13 rfl ?_
  refine J_isub C dX12_areAlike_14 rfl ?_
  obtain ⟨x3_5, e_x3_5, h⟩ := Ok.nm h
  refine J_istoreE_n (i := 3) (lv' := [(3, .int x3_5), (0, .ref (K.2.2 + 2017)), (1, .int l1), (2, .int l2)]) C e_x3_5 dX12_areAlike_15 rfl (Nat.le_of_ble_eq_true rfl) rfl rfl ?_
  refine J_iload_n (i := 3) (p := 0) C dX12_areAlike_16 rfl rfl rfl ?_
  refine J_aload_n (i := 0) (p := 1) C dX12_areAlike_17 rfl rfl rfl ?_
  refine Jm_getS (o2 := 33) (r2 := 2050) C fp_RX12_119 rfl rfl rfl dX12_areAlike_18 rfl ?_
  refine J_iload_n (i := 2) (p := 3) C dX12_areAlike_21 rfl rfl rfl ?_
  refine J_iconst (v := 1) C (by decide) dX12_areAlike_22 rfl ?_
  refine J_iadd C dX12_areAlike_23 rfl ?_
  obtain ⟨g_11, h⟩ := Ok.ofgd h
  refine Jm_iald C rfl rfl g_11 dX12_areAlike_24 rfl ?_
  refine J_aload_n (i := 0) (p := 1) C dX12_areAlike_25 rfl rfl rfl ?_
  refine Jm_getS (o2 := 33) (r2 := 2050) C fp_RX12_119 rfl rfl rfl dX12_areAlike_26 rfl ?_
  refine J_iload_n (i := 2) (p := 3) C dX12_areAlike_29 rfl rfl rfl ?_
  obtain ⟨g_12, h⟩ := Ok.ofgd h
  refine Jm_iald C rfl rfl g_12 dX12_areAlike_30 rfl ?_
  refine J_isub C dX12_areAlike_31 rfl ?_
  refine J_icmp_ne (t := 39) C dX12_areAlike_32 (by decide) rfl (fun c_13 => ?_) (fun c_13 => ?_)
  · have h := h.neg c_13
    refine J_iconst (v := 0) C (by decide) dX12_areAlike_39 rfl ?_
    refine J.sub [1, 2, 3, 0] rfl ?_
    exact hj_40 x3_5 (0 : Int32) h
  · have h := h.pos (Decidable.not_not.mp c_13)
    refine J_iconst (v := 1) C (by decide) dX12_areAlike_35 rfl ?_
    refine J_goto (t := 40) C dX12_areAlike_36 (by decide) ?_
    refine J.sub [1, 2, 3, 0] rfl ?_
    exact hj_40 x3_5 (1 : Int32) h
def f12_staying_b134 (l1_54 : Int32) (l2_54 : Int32) (μ_134 : Sto) (l3_134 : Int32) (l4_134 : Int32) : Option ((Sto × Int32) ⊕ Sto) :=
  if l2_54 < l4_134 then
    some (.inr μ_134)
  else
    gd (inb l4_134 302) <|
    gd (inb l4_134 302) <|
    stp (uA μ_134 2053 (Int32.toNatClampNeg l4_134) (aI μ_134 2052 (Int32.toNatClampNeg l4_134))) fun μx_2 =>
    stp (l4_134 + (1 : Int32)) fun x4_3 =>
    some (.inl (μx_2, x4_3))
def f12_staying_j134 (l1_54 : Int32) (l2_54 : Int32) (μ_134 : Sto) (l3_134 : Int32) (l4_134 : Int32) : Option ((Sto × Int32) ⊕ Sto) :=
  bnd (loopF (fun s_134 => f12_staying_b134 l1_54 l2_54 s_134.1 l3_134 s_134.2) FU (μ_134, l4_134)) fun r_134 =>
    stp (l3_134 + (1 : Int32)) fun x3_4 =>
    some (.inl (r_134, x3_4))
def f12_staying_j124 (l1_54 : Int32) (l2_54 : Int32) (l3_69 : Int32) (μ_124 : Sto) (l4_124 : Int32) (s1_124 : Int32) (s2_124 : Int32) : Option ((Sto × Int32) ⊕ Sto) :=
  gd (inb s1_124 302) <|
  stp (uA μ_124 2052 (Int32.toNatClampNeg s1_124) s2_124) fun μx_5 =>
  stp (l4_124 + (1 : Int32)) fun x4_6 =>
  some (.inl (μx_5, x4_6))
def f12_staying_b69 (l1_54 : Int32) (l2_54 : Int32) (μ_69 : Sto) (l3_69 : Int32) (l4_69 : Int32) : Option ((Sto × Int32) ⊕ Sto) :=
  if l2_54 ≤ l4_69 then
    some (.inr μ_69)
  else
    bnd (f12_areAlike μ_69 l3_69 l4_69) fun p_6 =>
    if p_6 = 0 then
      gd (inb (l4_69 + (1 : Int32)) 302) <|
      gd (inb l4_69 302) <|
      bnd (f12_more (aI μ_69 2053 (Int32.toNatClampNeg (l4_69 + (1 : Int32)))) (aI μ_69 2052 (Int32.toNatClampNeg l4_69))) fun p_10 =>
      f12_staying_j124 l1_54 l2_54 l3_69 μ_69 l4_69 (l4_69 + (1 : Int32)) p_10
    else
      gd (inb l4_69 302) <|
      f12_staying_j124 l1_54 l2_54 l3_69 μ_69 l4_69 (l4_69 + (1 : Int32)) ((aI μ_69 2053 (Int32.toNatClampNeg l4_69)) + (1 : Int32))
def f12_staying_j69 (l1_54 : Int32) (l2_54 : Int32) (μ_69 : Sto) (l3_69 : Int32) (l4_69 : Int32) : Option ((Sto × Int32) ⊕ Sto) :=
  bnd (loopF (fun s_69 => f12_staying_b69 l1_54 l2_54 s_69.1 l3_69 s_69.2) FU (μ_69, l4_69)) fun r_69 =>
    stp (0 : Int32) fun x4_8 =>
    f12_staying_j134 l1_54 l2_54 r_69 l3_69 x4_8
def f12_staying_b54 (μ_54 : Sto) (l1_54 : Int32) (l2_54 : Int32) (l3_54 : Int32) : Option ((Sto × Int32) ⊕ Sto) :=
  if l1_54 ≤ l3_54 then
    some (.inr μ_54)
  else
    gd (inb (0 : Int32) 302) <|
    stp (uA μ_54 2052 (Int32.toNatClampNeg (0 : Int32)) (0 : Int32)) fun μx_9 =>
    stp (0 : Int32) fun x4_10 =>
    f12_staying_j69 l1_54 l2_54 μx_9 l3_54 x4_10
def f12_staying_j54 (μ_54 : Sto) (l1_54 : Int32) (l2_54 : Int32) (l3_54 : Int32) : Option (Int32 × Sto) :=
  bnd (loopF (fun s_54 => f12_staying_b54 s_54.1 l1_54 l2_54 s_54.2) FU (μ_54, l3_54)) fun r_54 =>
    gd (inb l2_54 302) <|
    some (aI r_54 2053 (Int32.toNatClampNeg l2_54), r_54)
def f12_staying_b34 (μ_34 : Sto) (l1_34 : Int32) (l2_34 : Int32) (l3_34 : Int32) : Option ((Sto × Int32) ⊕ Sto) :=
  if l2_34 < l3_34 then
    some (.inr μ_34)
  else
    gd (inb l3_34 302) <|
    stp (uA μ_34 2053 (Int32.toNatClampNeg l3_34) (0 : Int32)) fun μx_12 =>
    stp (l3_34 + (1 : Int32)) fun x3_13 =>
    some (.inl (μx_12, x3_13))
def f12_staying_j34 (μ_34 : Sto) (l1_34 : Int32) (l2_34 : Int32) (l3_34 : Int32) : Option (Int32 × Sto) :=
  bnd (loopF (fun s_34 => f12_staying_b34 s_34.1 l1_34 l2_34 s_34.2) FU (μ_34, l3_34)) fun r_34 =>
    stp (0 : Int32) fun x3_14 =>
    f12_staying_j54 r_34 l1_34 l2_34 x3_14
def f12_staying (μ : Sto) : Option (Int32 × Sto) :=
  bnd (f12_lays μ 2018 (fI μ 2017 5) 2051) fun p_18 =>
  stp p_18.1 fun x1_15 =>
  bnd (f12_lays p_18.2 2026 (fI p_18.2 2017 16) 2050) fun p_19 =>
  stp p_19.1 fun x2_16 =>
  stp (0 : Int32) fun x3_17 =>
  f12_staying_j34 p_19.2 x1_15 x2_16 x3_17
set_option maxHeartbeats 4000000 in
set_option maxRecDepth 100000 in
theorem k12_staying {l : Launch} {K : JK} (hl : l.stackTraces = false) {σ μ : Sto} {o : Int64}   {Qf : Int32 × Sto → Prop} (h : Ok (f12_staying μ) Qf) : Con l K yX12_staying (.code yX12_staying cX12_staying 5 (some .int) :: TB) 1 0 0 False [.ref (K.2.2 + 2017)] 2055 (jw K σ μ o) (PR Qf (fun p => some (.int p.1)) (fun p => jw K σ p.2 o)) PN := by
  refine Con.enter (own := RX12) hl (by decide) rfl (Nat.le_of_ble_eq_true rfl) ?_
  intro X hX hR C hret hnt
  generalize hQQ : jQ X K 0 0 (PR Qf (fun p => some (.int p.1)) (fun p => jw K σ p.2 o)) PN False = QQ
  change J X K 5 False QQ 0 0 2055 (jw K σ μ o) 0 [(0, .ref (K.2.2 + 2017))] []
  have hj_54 : (∀ (μ_54 : Sto) (l1_54 : Int32) (l2_54 : Int32) (l3_54 : Int32), Ok (f12_staying_j54 μ_54 l1_54 l2_54 l3_54) Qf → J X K 5 False QQ 0 0 2055 (jw K σ μ_54 o) 54 [(0, .ref (K.2.2 + 2017)), (1, .int l1_54), (2, .int l2_54), (3, .int l3_54)] []) := by
    intro μ_54 l1_54 l2_54 l3_54 h
    unfold f12_staying_j54 at h
    refine loop_gen (S := Sto × Int32) (P := fun s_54 => J X K 5 False QQ 0 0 2055 (jw K σ s_54.1 o) 54 [(0, .ref (K.2.2 + 2017)), (1, .int l1_54), (2, .int l2_54), (3, .int s_54.2)] []) ?_ FU (μ_54, l3_54) (Ok.ofbnd h)
    intro B_54 hB_54 hE_54 s_54 h
    obtain ⟨μ_54, l3_54⟩ := s_54
    have h : Ok (f12_staying_b54 μ_54 l1_54 l2_54 l3_54) B_54 := h
    change J X K 5 False QQ 0 0 2055 (jw K σ μ_54 o) 54 [(0, .ref (K.2.2 + 2017)), (1, .int l1_54), (2, .int l2_54), (3, .int l3_54)] []
    have hj_134 : (∀ (μ_134 : Sto) (l3_134 : Int32) (l4_134 : Int32), Ok (f12_staying_j134 l1_54 l2_54 μ_134 l3_134 l4_134) B_54 → J X K 5 False QQ 0 0 2055 (jw K σ μ_134 o) 134 [(0, .ref (K.2.2 + 2017)), (1, .int l1_54), (2, .int l2_54), (3, .int l3_134), (4, .int l4_134)] []) := by
      intro μ_134 l3_134 l4_134 h
      unfold f12_staying_j134 at h
      refine loop_gen (S := Sto × Int32) (P := fun s_134 => J X K 5 False QQ 0 0 2055 (jw K σ s_134.1 o) 134 [(0, .ref (K.2.2 + 2017)), (1, .int l1_54), (2, .int l2_54), (3, .int l3_134), (4, .int s_134.2)] []) ?_ FU (μ_134, l4_134) (Ok.ofbnd h)
      intro B_134 hB_134 hE_134 s_134 h
      obtain ⟨μ_134, l4_134⟩ := s_134
      have h : Ok (f12_staying_b134 l1_54 l2_54 μ_134 l3_134 l4_134) B_134 := h
      change J X K 5 False QQ 0 0 2055 (jw K σ μ_134 o) 134 [(0, .ref (K.2.2 + 2017)), (1, .int l1_54), (2, .int l2_54), (3, .int l3_134), (4, .int l4_134)] []
      unfold f12_staying_b134 at h
      refine J_iload (i := 4) (p := 4) C dX12_staying_134 rfl rfl ?_
      refine J_iload_n (i := 2) (p := 2) C dX12_staying_136 rfl rfl rfl ?_
      refine J_icmp_gt (t := 160) C dX12_staying_137 (by decide) rfl (fun c_1 => ?_) (fun c_1 => ?_)
      · have h := h.pos c_1
        have h := hE_134 μ_134 h.osome
        try dsimp only at h
        obtain ⟨x3_1, e_x3_1, h⟩ := Ok.nm h
        refine J_iincE (i := 3) (p := 3) (lv' := [(3, .int x3_1), (0, .ref (K.2.2 + 2017)), (1, .int l1_54), (2, .int l2_54), (4, .int l4_134)]) C e_x3_1 dX12_staying_160 rfl (by decide) (Nat.le_of_ble_eq_true rfl) rfl rfl ?_
        refine J_goto (t := 54) C dX12_staying_163 (by decide) ?_
        refine J.sub [1, 2, 3, 0] rfl ?_
        exact hB_54 (μ_134, x3_1) h.osome
      · have h := h.neg c_1
        refine J_aload_n (i := 0) (p := 0) C dX12_staying_140 rfl rfl rfl ?_
        refine Jm_getS (o2 := 36) (r2 := 2053) C fp_RX12_128 rfl rfl rfl dX12_staying_141 rfl ?_
        refine J_iload (i := 4) (p := 4) C dX12_staying_144 rfl rfl ?_
        refine J_aload_n (i := 0) (p := 0) C dX12_staying_146 rfl rfl rfl ?_
        refine Jm_getS (o2 := 35) (r2 := 2052) C fp_RX12_125 rfl rfl rfl dX12_staying_147 rfl ?_
        refine J_iload (i := 4) (p := 4) C dX12_staying_150 rfl rfl ?_
        obtain ⟨g_2, h⟩ := Ok.ofgd h
        refine Jm_iald C rfl rfl g_2 dX12_staying_152 rfl ?_
        obtain ⟨g_3, h⟩ := Ok.ofgd h
        obtain ⟨μx_2, e_μx_2, h⟩ := Ok.nm h
        refine Jm_iast C id rfl rfl g_3 e_μx_2 dX12_staying_153 rfl ?_
        obtain ⟨x4_3, e_x4_3, h⟩ := Ok.nm h
        refine J_iincE (i := 4) (p := 4) (lv' := [(4, .int x4_3), (0, .ref (K.2.2 + 2017)), (1, .int l1_54), (2, .int l2_54), (3, .int l3_134)]) C e_x4_3 dX12_staying_154 rfl (by decide) (Nat.le_of_ble_eq_true rfl) rfl rfl ?_
        refine J_goto (t := 134) C dX12_staying_157 (by decide) ?_
        refine J.sub [1, 2, 3, 4, 0] rfl ?_
        exact hB_134 (μx_2, x4_3) h.osome
    have hj_69 : (∀ (μ_69 : Sto) (l3_69 : Int32) (l4_69 : Int32), Ok (f12_staying_j69 l1_54 l2_54 μ_69 l3_69 l4_69) B_54 → J X K 5 False QQ 0 0 2055 (jw K σ μ_69 o) 69 [(0, .ref (K.2.2 + 2017)), (1, .int l1_54), (2, .int l2_54), (3, .int l3_69), (4, .int l4_69)] []) := by
      intro μ_69 l3_69 l4_69 h
      unfold f12_staying_j69 at h
      refine loop_gen (S := Sto × Int32) (P := fun s_69 => J X K 5 False QQ 0 0 2055 (jw K σ s_69.1 o) 69 [(0, .ref (K.2.2 + 2017)), (1, .int l1_54), (2, .int l2_54), (3, .int l3_69), (4, .int s_69.2)] []) ?_ FU (μ_69, l4_69) (Ok.ofbnd h)
      intro B_69 hB_69 hE_69 s_69 h
      obtain ⟨μ_69, l4_69⟩ := s_69
      have h : Ok (f12_staying_b69 l1_54 l2_54 μ_69 l3_69 l4_69) B_69 := h
      change J X K 5 False QQ 0 0 2055 (jw K σ μ_69 o) 69 [(0, .ref (K.2.2 + 2017)), (1, .int l1_54), (2, .int l2_54), (3, .int l3_69), (4, .int l4_69)] []
      have hj_124 : (∀ (μ_124 : Sto) (l4_124 : Int32) (s1_124 : Int32) (s2_124 : Int32), Ok (f12_staying_j124 l1_54 l2_54 l3_69 μ_124 l4_124 s1_124 s2_124) B_69 → J X K 5 False QQ 0 0 2055 (jw K σ μ_124 o) 124 [(0, .ref (K.2.2 + 2017)), (1, .int l1_54), (2, .int l2_54), (3, .int l3_69), (4, .int l4_124)] [.int s2_124, .int s1_124, .ref (K.2.2 + 2052)]) := by
        intro μ_124 l4_124 s1_124 s2_124 h
        unfold f12_staying_j124 at h
        obtain ⟨g_4, h⟩ := Ok.ofgd h
        obtain ⟨μx_5, e_μx_5, h⟩ := Ok.nm h
        refine Jm_iast C id rfl rfl g_4 e_μx_5 dX12_staying_124 rfl ?_
        obtain ⟨x4_6, e_x4_6, h⟩ := Ok.nm h
        refine J_iincE (i := 4) (p := 4) (lv' := [(4, .int x4_6), (0, .ref (K.2.2 + 2017)), (1, .int l1_54), (2, .int l2_54), (3, .int l3_69)]) C e_x4_6 dX12_staying_125 rfl (by decide) (Nat.le_of_ble_eq_true rfl) rfl rfl ?_
        refine J_goto (t := 69) C dX12_staying_128 (by decide) ?_
        refine J.sub [1, 2, 3, 4, 0] rfl ?_
        exact hB_69 (μx_5, x4_6) h.osome
      unfold f12_staying_b69 at h
      refine J_iload (i := 4) (p := 4) C dX12_staying_69 rfl rfl ?_
      refine J_iload_n (i := 2) (p := 2) C dX12_staying_71 rfl rfl rfl ?_
      refine J_icmp_ge (t := 131) C dX12_staying_72 (by decide) rfl (fun c_5 => ?_) (fun c_5 => ?_)
      · have h := h.pos c_5
        have h := hE_69 μ_69 h.osome
        try dsimp only at h
        refine J_iconst (v := 0) C (by decide) dX12_staying_131 rfl ?_
        obtain ⟨x4_7, e_x4_7, h⟩ := Ok.nm h
        refine J_istoreE (i := 4) (lv' := [(4, .int x4_7), (0, .ref (K.2.2 + 2017)), (1, .int l1_54), (2, .int l2_54), (3, .int l3_69)]) C e_x4_7 dX12_staying_132 (Nat.le_of_ble_eq_true rfl) rfl rfl ?_
        refine J.sub [1, 2, 3, 4, 0] rfl ?_
        exact hj_134 μ_69 l3_69 x4_7 h
      · have h := h.neg c_5
        refine J_aload_n (i := 0) (p := 0) C dX12_staying_75 rfl rfl rfl ?_
        refine Jm_getS (o2 := 35) (r2 := 2052) C fp_RX12_125 rfl rfl rfl dX12_staying_76 rfl ?_
        refine J_iload (i := 4) (p := 4) C dX12_staying_79 rfl rfl ?_
        refine J_iconst (v := 1) C (by decide) dX12_staying_81 rfl ?_
        refine J_iadd C dX12_staying_82 rfl ?_
        refine J_aload_n (i := 0) (p := 0) C dX12_staying_83 rfl rfl rfl ?_
        refine J_iload_n (i := 3) (p := 3) C dX12_staying_84 rfl rfl rfl ?_
        refine J_iload (i := 4) (p := 4) C dX12_staying_85 rfl rfl ?_
        refine Jm_cV (rest := [.int (l4_69 + (1 : Int32)), .ref (K.2.2 + 2052)]) (st9 := fun p_6 => [.int p_6, .int (l4_69 + (1 : Int32)), .ref (K.2.2 + 2052)]) C hR hX cv_RX12_376 rfl (Nat.le_of_ble_eq_true rfl) (k12_areAlike hl  (Ok.ofbnd h)) rfl rfl (Nat.le_of_ble_eq_true rfl) (Nat.le_of_ble_eq_true rfl) (Nat.le_of_ble_eq_true rfl) ⟨(Nat.le_of_ble_eq_true rfl), (Nat.le_of_ble_eq_true rfl)⟩ dX12_staying_87 rfl (fun E n9 w9 hx => JT_n hx) (fun _ => rfl) (fun p_6 h => ?_)
        have h : Ok _ _ := h
        change J X K 5 False QQ 0 0 2055 (jw K σ μ_69 o) 90 [(0, .ref (K.2.2 + 2017)), (1, .int l1_54), (2, .int l2_54), (3, .int l3_69), (4, .int l4_69)] [.int p_6, .int (l4_69 + (1 : Int32)), .ref (K.2.2 + 2052)]
        refine J_if_eq (t := 105) C dX12_staying_90 (by decide) rfl (fun c_7 => ?_) (fun c_7 => ?_)
        · have h := h.pos c_7
          refine J_aload_n (i := 0) (p := 0) C dX12_staying_105 rfl rfl rfl ?_
          refine Jm_getS (o2 := 36) (r2 := 2053) C fp_RX12_128 rfl rfl rfl dX12_staying_106 rfl ?_
          refine J_iload (i := 4) (p := 4) C dX12_staying_109 rfl rfl ?_
          refine J_iconst (v := 1) C (by decide) dX12_staying_111 rfl ?_
          refine J_iadd C dX12_staying_112 rfl ?_
          obtain ⟨g_8, h⟩ := Ok.ofgd h
          refine Jm_iald C rfl rfl g_8 dX12_staying_113 rfl ?_
          refine J_aload_n (i := 0) (p := 0) C dX12_staying_114 rfl rfl rfl ?_
          refine Jm_getS (o2 := 35) (r2 := 2052) C fp_RX12_125 rfl rfl rfl dX12_staying_115 rfl ?_
          refine J_iload (i := 4) (p := 4) C dX12_staying_118 rfl rfl ?_
          obtain ⟨g_9, h⟩ := Ok.ofgd h
          refine Jm_iald C rfl rfl g_9 dX12_staying_120 rfl ?_
          refine J_cS (rest := [.int (l4_69 + (1 : Int32)), .ref (K.2.2 + 2052)]) (st9 := fun p_10 => [.int p_10, .int (l4_69 + (1 : Int32)), .ref (K.2.2 + 2052)]) C hR hX cs_RX12_257 (k12_more hl  (Ok.ofbnd h)) rfl rfl (Nat.le_of_ble_eq_true rfl) (Nat.le_of_ble_eq_true rfl) (Nat.le_of_ble_eq_true rfl) ⟨(Nat.le_of_ble_eq_true rfl), (Nat.le_of_ble_eq_true rfl)⟩ dX12_staying_121 rfl (fun E n9 w9 hx => JT_n hx) (fun _ => rfl) (fun p_10 h => ?_)
          have h : Ok _ _ := h
          change J X K 5 False QQ 0 0 2055 (jw K σ μ_69 o) 124 [(0, .ref (K.2.2 + 2017)), (1, .int l1_54), (2, .int l2_54), (3, .int l3_69), (4, .int l4_69)] [.int p_10, .int (l4_69 + (1 : Int32)), .ref (K.2.2 + 2052)]
          exact hj_124 μ_69 l4_69 (l4_69 + (1 : Int32)) p_10 h
        · have h := h.neg c_7
          refine J_aload_n (i := 0) (p := 0) C dX12_staying_93 rfl rfl rfl ?_
          refine Jm_getS (o2 := 36) (r2 := 2053) C fp_RX12_128 rfl rfl rfl dX12_staying_94 rfl ?_
          refine J_iload (i := 4) (p := 4) C dX12_staying_97 rfl rfl ?_
          obtain ⟨g_11, h⟩ := Ok.ofgd h
          refine Jm_iald C rfl rfl g_11 dX12_staying_99 rfl ?_
          refine J_iconst (v := 1) C (by decide) dX12_staying_100 rfl ?_
          refine J_iadd C dX12_staying_101 rfl ?_
          refine J_goto (t := 124) C dX12_staying_102 (by decide) ?_
          exact hj_124 μ_69 l4_69 (l4_69 + (1 : Int32)) ((aI μ_69 2053 (Int32.toNatClampNeg l4_69)) + (1 : Int32)) h
    unfold f12_staying_b54 at h
    refine J_iload_n (i := 3) (p := 3) C dX12_staying_54 rfl rfl rfl ?_
    refine J_iload_n (i := 1) (p := 1) C dX12_staying_55 rfl rfl rfl ?_
    refine J_icmp_ge (t := 166) C dX12_staying_56 (by decide) rfl (fun c_12 => ?_) (fun c_12 => ?_)
    · have h := h.pos c_12
      have h := hE_54 μ_54 h.osome
      try dsimp only at h
      refine J_aload_n (i := 0) (p := 0) C dX12_staying_166 rfl rfl rfl ?_
      refine Jm_getS (o2 := 36) (r2 := 2053) C fp_RX12_128 rfl rfl rfl dX12_staying_167 rfl ?_
      refine J_iload_n (i := 2) (p := 2) C dX12_staying_170 rfl rfl rfl ?_
      obtain ⟨g_13, h⟩ := Ok.ofgd h
      refine Jm_iald C rfl rfl g_13 dX12_staying_171 rfl ?_
      rw [← hQQ]
      exact J_iret C hret (Nat.le_of_ble_eq_true rfl) (Nat.le_of_ble_eq_true rfl) ⟨_, h.osome, rfl, rfl, rfl⟩ dX12_staying_172
    · have h := h.neg c_12
      refine J_aload_n (i := 0) (p := 0) C dX12_staying_59 rfl rfl rfl ?_
      refine Jm_getS (o2 := 35) (r2 := 2052) C fp_RX12_125 rfl rfl rfl dX12_staying_60 rfl ?_
      refine J_iconst (v := 0) C (by decide) dX12_staying_63 rfl ?_
      refine J_iconst (v := 0) C (by decide) dX12_staying_64 rfl ?_
      obtain ⟨g_14, h⟩ := Ok.ofgd h
      obtain ⟨μx_9, e_μx_9, h⟩ := Ok.nm h
      refine Jm_iast C id rfl rfl g_14 e_μx_9 dX12_staying_65 rfl ?_
      refine J_iconst (v := 0) C (by decide) dX12_staying_66 rfl ?_
      obtain ⟨x4_10, e_x4_10, h⟩ := Ok.nm h
      refine J_istoreE (i := 4) (lv' := [(4, .int x4_10), (0, .ref (K.2.2 + 2017)), (1, .int l1_54), (2, .int l2_54), (3, .int l3_54)]) C e_x4_10 dX12_staying_67 (Nat.le_of_ble_eq_true rfl) rfl rfl ?_
      refine J.sub [1, 2, 3, 4, 0] rfl ?_
      exact hj_69 μx_9 l3_54 x4_10 h
  have hj_34 : (∀ (μ_34 : Sto) (l1_34 : Int32) (l2_34 : Int32) (l3_34 : Int32), Ok (f12_staying_j34 μ_34 l1_34 l2_34 l3_34) Qf → J X K 5 False QQ 0 0 2055 (jw K σ μ_34 o) 34 [(0, .ref (K.2.2 + 2017)), (1, .int l1_34), (2, .int l2_34), (3, .int l3_34)] []) := by
    intro μ_34 l1_34 l2_34 l3_34 h
    unfold f12_staying_j34 at h
    refine loop_gen (S := Sto × Int32) (P := fun s_34 => J X K 5 False QQ 0 0 2055 (jw K σ s_34.1 o) 34 [(0, .ref (K.2.2 + 2017)), (1, .int l1_34), (2, .int l2_34), (3, .int s_34.2)] []) ?_ FU (μ_34, l3_34) (Ok.ofbnd h)
    intro B_34 hB_34 hE_34 s_34 h
    obtain ⟨μ_34, l3_34⟩ := s_34
    have h : Ok (f12_staying_b34 μ_34 l1_34 l2_34 l3_34) B_34 := h
    change J X K 5 False QQ 0 0 2055 (jw K σ μ_34 o) 34 [(0, .ref (K.2.2 + 2017)), (1, .int l1_34), (2, .int l2_34), (3, .int l3_34)] []
    unfold f12_staying_b34 at h
    refine J_iload_n (i := 3) (p := 3) C dX12_staying_34 rfl rfl rfl ?_
    refine J_iload_n (i := 2) (p := 2) C dX12_staying_35 rfl rfl rfl ?_
    refine J_icmp_gt (t := 52) C dX12_staying_36 (by decide) rfl (fun c_16 => ?_) (fun c_16 => ?_)
    · have h := h.pos c_16
      have h := hE_34 μ_34 h.osome
      try dsimp only at h
      refine J_iconst (v := 0) C (by decide) dX12_staying_52 rfl ?_
      obtain ⟨x3_11, e_x3_11, h⟩ := Ok.nm h
      refine J_istoreE_n (i := 3) (lv' := [(3, .int x3_11), (0, .ref (K.2.2 + 2017)), (1, .int l1_34), (2, .int l2_34)]) C e_x3_11 dX12_staying_53 rfl (Nat.le_of_ble_eq_true rfl) rfl rfl ?_
      refine J.sub [1, 2, 3, 0] rfl ?_
      exact hj_54 μ_34 l1_34 l2_34 x3_11 h
    · have h := h.neg c_16
      refine J_aload_n (i := 0) (p := 0) C dX12_staying_39 rfl rfl rfl ?_
      refine Jm_getS (o2 := 36) (r2 := 2053) C fp_RX12_128 rfl rfl rfl dX12_staying_40 rfl ?_
      refine J_iload_n (i := 3) (p := 3) C dX12_staying_43 rfl rfl rfl ?_
      refine J_iconst (v := 0) C (by decide) dX12_staying_44 rfl ?_
      obtain ⟨g_17, h⟩ := Ok.ofgd h
      obtain ⟨μx_12, e_μx_12, h⟩ := Ok.nm h
      refine Jm_iast C id rfl rfl g_17 e_μx_12 dX12_staying_45 rfl ?_
      obtain ⟨x3_13, e_x3_13, h⟩ := Ok.nm h
      refine J_iincE (i := 3) (p := 3) (lv' := [(3, .int x3_13), (0, .ref (K.2.2 + 2017)), (1, .int l1_34), (2, .int l2_34)]) C e_x3_13 dX12_staying_46 rfl (by decide) (Nat.le_of_ble_eq_true rfl) rfl rfl ?_
      refine J_goto (t := 34) C dX12_staying_49 (by decide) ?_
      refine J.sub [1, 2, 3, 0] rfl ?_
      exact hB_34 (μx_12, x3_13) h.osome
  unfold f12_staying at h
  refine J_aload_n (i := 0) (p := 0) C dX12_staying_0 rfl rfl rfl ?_
  refine Jm_getS (o2 := 1) (r2 := 2018) C fp_RX12_7 rfl rfl rfl dX12_staying_1 rfl ?_
  refine J_aload_n (i := 0) (p := 0) C dX12_staying_4 rfl rfl rfl ?_
  refine Jm_getI C fp_RX12_138 rfl rfl dX12_staying_5 rfl ?_
  refine J_aload_n (i := 0) (p := 0) C dX12_staying_8 rfl rfl rfl ?_
  refine Jm_getS (o2 := 34) (r2 := 2051) C fp_RX12_122 rfl rfl rfl dX12_staying_9 rfl ?_
  refine J_cS (rest := []) (st9 := fun p_18 => [.int p_18.1]) C hR hX cs_RX12_372 (k12_lays hl rfl rfl (Ok.ofbnd h)) rfl rfl (Nat.le_of_ble_eq_true rfl) (Nat.le_of_ble_eq_true rfl) (Nat.le_of_ble_eq_true rfl) ⟨(Nat.le_of_ble_eq_true rfl), (Nat.le_of_ble_eq_true rfl)⟩ dX12_staying_12 rfl (fun E n9 w9 hx => JT_n hx) (fun _ => rfl) (fun p_18 h => ?_)
  have h : Ok _ _ := h
  change J X K 5 False QQ 0 0 2055 (jw K σ p_18.2 o) 15 [(0, .ref (K.2.2 + 2017))] [.int p_18.1]
  obtain ⟨x1_15, e_x1_15, h⟩ := Ok.nm h
  refine J_istoreE_n (i := 1) (lv' := [(1, .int x1_15), (0, .ref (K.2.2 + 2017))]) C e_x1_15 dX12_staying_15 rfl (Nat.le_of_ble_eq_true rfl) rfl rfl ?_
  refine J_aload_n (i := 0) (p := 1) C dX12_staying_16 rfl rfl rfl ?_
  refine Jm_getS (o2 := 9) (r2 := 2026) C fp_RX12_39 rfl rfl rfl dX12_staying_17 rfl ?_
  refine J_aload_n (i := 0) (p := 1) C dX12_staying_20 rfl rfl rfl ?_
  refine Jm_getI C fp_RX12_369 rfl rfl dX12_staying_21 rfl ?_
  refine J_aload_n (i := 0) (p := 1) C dX12_staying_24 rfl rfl rfl ?_
  refine Jm_getS (o2 := 33) (r2 := 2050) C fp_RX12_119 rfl rfl rfl dX12_staying_25 rfl ?_
  refine J_cS (rest := []) (st9 := fun p_19 => [.int p_19.1]) C hR hX cs_RX12_372 (k12_lays hl rfl rfl (Ok.ofbnd h)) rfl rfl (Nat.le_of_ble_eq_true rfl) (Nat.le_of_ble_eq_true rfl) (Nat.le_of_ble_eq_true rfl) ⟨(Nat.le_of_ble_eq_true rfl), (Nat.le_of_ble_eq_true rfl)⟩ dX12_staying_28 rfl (fun E n9 w9 hx => JT_n hx) (fun _ => rfl) (fun p_19 h => ?_)
  have h : Ok _ _ := h
  change J X K 5 False QQ 0 0 2055 (jw K σ p_19.2 o) 31 [(1, .int x1_15), (0, .ref (K.2.2 + 2017))] [.int p_19.1]
  obtain ⟨x2_16, e_x2_16, h⟩ := Ok.nm h
  refine J_istoreE_n (i := 2) (lv' := [(2, .int x2_16), (1, .int x1_15), (0, .ref (K.2.2 + 2017))]) C e_x2_16 dX12_staying_31 rfl (Nat.le_of_ble_eq_true rfl) rfl rfl ?_
  refine J_iconst (v := 0) C (by decide) dX12_staying_32 rfl ?_
  obtain ⟨x3_17, e_x3_17, h⟩ := Ok.nm h
  refine J_istoreE_n (i := 3) (lv' := [(3, .int x3_17), (2, .int x2_16), (1, .int x1_15), (0, .ref (K.2.2 + 2017))]) C e_x3_17 dX12_staying_33 rfl (Nat.le_of_ble_eq_true rfl) rfl rfl ?_
  refine J.sub [3, 2, 1, 0] rfl ?_
  exact hj_34 p_19.2 x1_15 x2_16 x3_17 h
def f12_keptLines_j29 (μ : Sto) (l2_29 : Int32) (s0_29 : Int32) (s1_29 : Int32) : Option ((Int32 × Int32) ⊕ Int32) :=
  stp (s0_29 + s1_29) fun x1_1 =>
  stp (l2_29 + (1 : Int32)) fun x2_2 =>
  some (.inl (x1_1, x2_2))
def f12_keptLines_b4 (μ : Sto) (l1_4 : Int32) (l2_4 : Int32) : Option ((Int32 × Int32) ⊕ Int32) :=
  if (fI μ 2017 16) ≤ l2_4 then
    some (.inr l1_4)
  else
    gd (inb l2_4 3000) <|
    if (aI μ 2026 (Int32.toNatClampNeg l2_4)) = (10 : Int32) then
      f12_keptLines_j29 μ l2_4 l1_4 (1 : Int32)
    else
      f12_keptLines_j29 μ l2_4 l1_4 (0 : Int32)
def f12_keptLines_j4 (μ : Sto) (l1_4 : Int32) (l2_4 : Int32) : Option (Int32) :=
  bnd (loopF (fun s_4 => f12_keptLines_b4 μ s_4.1 s_4.2) FU (l1_4, l2_4)) fun r_4 =>
    some r_4
def f12_keptLines (μ : Sto) : Option (Int32) :=
  stp (1 : Int32) fun x1_3 =>
  stp (0 : Int32) fun x2_4 =>
  f12_keptLines_j4 μ x1_3 x2_4
set_option maxHeartbeats 4000000 in
set_option maxRecDepth 100000 in
theorem k12_keptLines {l : Launch} {K : JK} (hl : l.stackTraces = false) {σ μ : Sto} {o : Int64}   {Qf : Int32 → Prop} (h : Ok (f12_keptLines μ) Qf) : Con l K yX12_keptLines (.code yX12_keptLines cX12_keptLines 3 (some .int) :: TB) 0 0 0 False [.ref (K.2.2 + 2017)] 2055 (jw K σ μ o) (PR Qf (fun p => some (.int p)) (fun p => jw K σ μ o)) PN := by
  refine Con.enter (own := RX12) hl (by decide) rfl (Nat.le_of_ble_eq_true rfl) ?_
  intro X hX hR C hret hnt
  generalize hQQ : jQ X K 0 0 (PR Qf (fun p => some (.int p)) (fun p => jw K σ μ o)) PN False = QQ
  change J X K 3 False QQ 0 0 2055 (jw K σ μ o) 0 [(0, .ref (K.2.2 + 2017))] []
  have hj_4 : (∀ (l1_4 : Int32) (l2_4 : Int32), Ok (f12_keptLines_j4 μ l1_4 l2_4) Qf → J X K 3 False QQ 0 0 2055 (jw K σ μ o) 4 [(0, .ref (K.2.2 + 2017)), (1, .int l1_4), (2, .int l2_4)] []) := by
    intro l1_4 l2_4 h
    unfold f12_keptLines_j4 at h
    refine loop_gen (S := Int32 × Int32) (P := fun s_4 => J X K 3 False QQ 0 0 2055 (jw K σ μ o) 4 [(0, .ref (K.2.2 + 2017)), (1, .int s_4.1), (2, .int s_4.2)] []) ?_ FU (l1_4, l2_4) (Ok.ofbnd h)
    intro B_4 hB_4 hE_4 s_4 h
    obtain ⟨l1_4, l2_4⟩ := s_4
    have h : Ok (f12_keptLines_b4 μ l1_4 l2_4) B_4 := h
    change J X K 3 False QQ 0 0 2055 (jw K σ μ o) 4 [(0, .ref (K.2.2 + 2017)), (1, .int l1_4), (2, .int l2_4)] []
    have hj_29 : (∀ (l2_29 : Int32) (s0_29 : Int32) (s1_29 : Int32), Ok (f12_keptLines_j29 μ l2_29 s0_29 s1_29) B_4 → J X K 3 False QQ 0 0 2055 (jw K σ μ o) 29 [(0, .ref (K.2.2 + 2017)), (2, .int l2_29)] [.int s1_29, .int s0_29]) := by
      intro l2_29 s0_29 s1_29 h
      unfold f12_keptLines_j29 at h
      refine J_iadd C dX12_keptLines_29 rfl ?_
      obtain ⟨x1_1, e_x1_1, h⟩ := Ok.nm h
      refine J_istoreE_n (i := 1) (lv' := [(1, .int x1_1), (0, .ref (K.2.2 + 2017)), (2, .int l2_29)]) C e_x1_1 dX12_keptLines_30 rfl (Nat.le_of_ble_eq_true rfl) rfl rfl ?_
      obtain ⟨x2_2, e_x2_2, h⟩ := Ok.nm h
      refine J_iincE (i := 2) (p := 2) (lv' := [(2, .int x2_2), (1, .int x1_1), (0, .ref (K.2.2 + 2017))]) C e_x2_2 dX12_keptLines_31 rfl (by decide) (Nat.le_of_ble_eq_true rfl) rfl rfl ?_
      refine J_goto (t := 4) C dX12_keptLines_34 (by decide) ?_
      refine J.sub [2, 1, 0] rfl ?_
      exact hB_4 (x1_1, x2_2) h.osome
    unfold f12_keptLines_b4 at h
    refine J_iload_n (i := 2) (p := 2) C dX12_keptLines_4 rfl rfl rfl ?_
    refine J_aload_n (i := 0) (p := 0) C dX12_keptLines_5 rfl rfl rfl ?_
    refine Jm_getI C fp_RX12_369 rfl rfl dX12_keptLines_6 rfl ?_
    refine J_icmp_ge (t := 37) C dX12_keptLines_9 (by decide) rfl (fun c_1 => ?_) (fun c_1 => ?_)
    · have h := h.pos c_1
      have h := hE_4 l1_4 h.osome
      try dsimp only at h
      refine J_iload_n (i := 1) (p := 1) C dX12_keptLines_37 rfl rfl rfl ?_
      rw [← hQQ]
      exact J_iret C hret (Nat.le_of_ble_eq_true rfl) (Nat.le_of_ble_eq_true rfl) ⟨_, h.osome, rfl, rfl, rfl⟩ dX12_keptLines_38
    · have h := h.neg c_1
      refine J_iload_n (i := 1) (p := 1) C dX12_keptLines_12 rfl rfl rfl ?_
      refine J_aload_n (i := 0) (p := 0) C dX12_keptLines_13 rfl rfl rfl ?_
      refine Jm_getS (o2 := 9) (r2 := 2026) C fp_RX12_39 rfl rfl rfl dX12_keptLines_14 rfl ?_
      refine J_iload_n (i := 2) (p := 2) C dX12_keptLines_17 rfl rfl rfl ?_
      obtain ⟨g_2, h⟩ := Ok.ofgd h
      refine Jm_iald C rfl rfl g_2 dX12_keptLines_18 rfl ?_
      refine J_bipush (v := 10) C (by decide) dX12_keptLines_19 rfl ?_
      refine J_icmp_ne (t := 28) C dX12_keptLines_21 (by decide) rfl (fun c_3 => ?_) (fun c_3 => ?_)
      · have h := h.neg c_3
        refine J_iconst (v := 0) C (by decide) dX12_keptLines_28 rfl ?_
        refine J.sub [0, 2] rfl ?_
        exact hj_29 l2_4 l1_4 (0 : Int32) h
      · have h := h.pos (Decidable.not_not.mp c_3)
        refine J_iconst (v := 1) C (by decide) dX12_keptLines_24 rfl ?_
        refine J_goto (t := 29) C dX12_keptLines_25 (by decide) ?_
        refine J.sub [0, 2] rfl ?_
        exact hj_29 l2_4 l1_4 (1 : Int32) h
  unfold f12_keptLines at h
  refine J_iconst (v := 1) C (by decide) dX12_keptLines_0 rfl ?_
  obtain ⟨x1_3, e_x1_3, h⟩ := Ok.nm h
  refine J_istoreE_n (i := 1) (lv' := [(1, .int x1_3), (0, .ref (K.2.2 + 2017))]) C e_x1_3 dX12_keptLines_1 rfl (Nat.le_of_ble_eq_true rfl) rfl rfl ?_
  refine J_iconst (v := 0) C (by decide) dX12_keptLines_2 rfl ?_
  obtain ⟨x2_4, e_x2_4, h⟩ := Ok.nm h
  refine J_istoreE_n (i := 2) (lv' := [(2, .int x2_4), (1, .int x1_3), (0, .ref (K.2.2 + 2017))]) C e_x2_4 dX12_keptLines_3 rfl (Nat.le_of_ble_eq_true rfl) rfl rfl ?_
  refine J.sub [2, 1, 0] rfl ?_
  exact hj_4 x1_3 x2_4 h
def f12_differences (μ : Sto) : Option (Int32 × Sto) :=
  bnd (f12_lines μ) fun p_1 =>
  bnd (f12_keptLines μ) fun p_2 =>
  bnd (f12_staying μ) fun p_3 =>
  bnd (f12_told p_3.2 ((p_1 + p_2) - ((2 : Int32) * p_3.1))) fun p_4 =>
  some (p_4.1, p_4.2)
set_option maxHeartbeats 4000000 in
set_option maxRecDepth 100000 in
theorem k12_differences {l : Launch} {K : JK} (hl : l.stackTraces = false) {σ μ : Sto} {o : Int64}   {Qf : Int32 × Sto → Prop} (h : Ok (f12_differences μ) Qf) : Con l K yX12_differences (.code yX12_differences cX12_differences 1 (some .int) :: TB) 2 0 0 False [.ref (K.2.2 + 2017)] 2055 (jw K σ μ o) (PR Qf (fun p => some (.int p.1)) (fun p => jw K σ p.2 o)) PN := by
  refine Con.enter (own := RX12) hl (by decide) rfl (Nat.le_of_ble_eq_true rfl) ?_
  intro X hX hR C hret hnt
  generalize hQQ : jQ X K 0 0 (PR Qf (fun p => some (.int p.1)) (fun p => jw K σ p.2 o)) PN False = QQ
  change J X K 1 False QQ 0 0 2055 (jw K σ μ o) 0 [(0, .ref (K.2.2 + 2017))] []
  unfold f12_differences at h
  refine J_aload_n (i := 0) (p := 0) C dX12_differences_0 rfl rfl rfl ?_
  refine J_aload_n (i := 0) (p := 0) C dX12_differences_1 rfl rfl rfl ?_
  refine Jm_cV (rest := [.ref (K.2.2 + 2017)]) (st9 := fun p_1 => [.int p_1, .ref (K.2.2 + 2017)]) C hR hX cv_RX12_141 rfl (Nat.le_of_ble_eq_true rfl) (k12_lines hl  (Ok.ofbnd h)) rfl rfl (Nat.le_of_ble_eq_true rfl) (Nat.le_of_ble_eq_true rfl) (Nat.le_of_ble_eq_true rfl) ⟨(Nat.le_of_ble_eq_true rfl), (Nat.le_of_ble_eq_true rfl)⟩ dX12_differences_2 rfl (fun E n9 w9 hx => JT_n hx) (fun _ => rfl) (fun p_1 h => ?_)
  have h : Ok _ _ := h
  change J X K 1 False QQ 0 0 2055 (jw K σ μ o) 5 [(0, .ref (K.2.2 + 2017))] [.int p_1, .ref (K.2.2 + 2017)]
  refine J_aload_n (i := 0) (p := 0) C dX12_differences_5 rfl rfl rfl ?_
  refine Jm_cV (rest := [.int p_1, .ref (K.2.2 + 2017)]) (st9 := fun p_2 => [.int p_2, .int p_1, .ref (K.2.2 + 2017)]) C hR hX cv_RX12_380 rfl (Nat.le_of_ble_eq_true rfl) (k12_keptLines hl  (Ok.ofbnd h)) rfl rfl (Nat.le_of_ble_eq_true rfl) (Nat.le_of_ble_eq_true rfl) (Nat.le_of_ble_eq_true rfl) ⟨(Nat.le_of_ble_eq_true rfl), (Nat.le_of_ble_eq_true rfl)⟩ dX12_differences_6 rfl (fun E n9 w9 hx => JT_n hx) (fun _ => rfl) (fun p_2 h => ?_)
  have h : Ok _ _ := h
  change J X K 1 False QQ 0 0 2055 (jw K σ μ o) 9 [(0, .ref (K.2.2 + 2017))] [.int p_2, .int p_1, .ref (K.2.2 + 2017)]
  refine J_iadd C dX12_differences_9 rfl ?_
  refine J_iconst (v := 2) C (by decide) dX12_differences_10 rfl ?_
  refine J_aload_n (i := 0) (p := 0) C dX12_differences_11 rfl rfl rfl ?_
  refine Jm_cV (rest := [.int (2 : Int32), .int (p_1 + p_2), .ref (K.2.2 + 2017)]) (st9 := fun p_3 => [.int p_3.1, .int (2 : Int32), .int (p_1 + p_2), .ref (K.2.2 + 2017)]) C hR hX cv_RX12_383 rfl (Nat.le_of_ble_eq_true rfl) (k12_staying hl  (Ok.ofbnd h)) rfl rfl (Nat.le_of_ble_eq_true rfl) (Nat.le_of_ble_eq_true rfl) (Nat.le_of_ble_eq_true rfl) ⟨(Nat.le_of_ble_eq_true rfl), (Nat.le_of_ble_eq_true rfl)⟩ dX12_differences_12 rfl (fun E n9 w9 hx => JT_n hx) (fun _ => rfl) (fun p_3 h => ?_)
  have h : Ok _ _ := h
  change J X K 1 False QQ 0 0 2055 (jw K σ p_3.2 o) 15 [(0, .ref (K.2.2 + 2017))] [.int p_3.1, .int (2 : Int32), .int (p_1 + p_2), .ref (K.2.2 + 2017)]
  refine J_imul C dX12_differences_15 rfl ?_
  refine J_isub C dX12_differences_16 rfl ?_
  refine Jm_cV (rest := []) (st9 := fun p_4 => [.int p_4.1]) C hR hX cv_RX12_209 rfl (Nat.le_of_ble_eq_true rfl) (k12_told hl  (Ok.ofbnd h)) rfl rfl (Nat.le_of_ble_eq_true rfl) (Nat.le_of_ble_eq_true rfl) (Nat.le_of_ble_eq_true rfl) ⟨(Nat.le_of_ble_eq_true rfl), (Nat.le_of_ble_eq_true rfl)⟩ dX12_differences_17 rfl (fun E n9 w9 hx => JT_n hx) (fun _ => rfl) (fun p_4 h => ?_)
  have h : Ok _ _ := h
  change J X K 1 False QQ 0 0 2055 (jw K σ p_4.2 o) 20 [(0, .ref (K.2.2 + 2017))] [.int p_4.1]
  rw [← hQQ]
  exact J_iret C hret (Nat.le_of_ble_eq_true rfl) (Nat.le_of_ble_eq_true rfl) ⟨_, h.osome, rfl, rfl, rfl⟩ dX12_differences_20
def f12_sameShare (μ : Sto) : Option (UInt32 × Sto) :=
  stp (uI μ 2017 18 (0 : Int32)) fun μx_1 =>
  bnd (f12_staying μx_1) fun p_1 =>
  bnd (f12_lines p_1.2) fun p_2 =>
  gd (nf32 (FP.fdiv (FP.i2f p_1.1) (FP.i2f p_2))) <|
  some (FP.fdiv (FP.i2f p_1.1) (FP.i2f p_2), p_1.2)
set_option maxHeartbeats 4000000 in
set_option maxRecDepth 100000 in
theorem k12_sameShare {l : Launch} {K : JK} (hl : l.stackTraces = false) {σ μ : Sto} {o : Int64}   {Qf : UInt32 × Sto → Prop} (h : Ok (f12_sameShare μ) Qf) : Con l K yX12_sameShare (.code yX12_sameShare cX12_sameShare 1 (some .float) :: TB) 2 0 0 False [.ref (K.2.2 + 2017)] 2055 (jw K σ μ o) (PR Qf (fun p => some (.float p.1)) (fun p => jw K σ p.2 o)) PN := by
  refine Con.enter (own := RX12) hl (by decide) rfl (Nat.le_of_ble_eq_true rfl) ?_
  intro X hX hR C hret hnt
  generalize hQQ : jQ X K 0 0 (PR Qf (fun p => some (.float p.1)) (fun p => jw K σ p.2 o)) PN False = QQ
  change J X K 1 False QQ 0 0 2055 (jw K σ μ o) 0 [(0, .ref (K.2.2 + 2017))] []
  unfold f12_sameShare at h
  refine J_aload_n (i := 0) (p := 0) C dX12_sameShare_0 rfl rfl rfl ?_
  refine J_iconst (v := 0) C (by decide) dX12_sameShare_1 rfl ?_
  obtain ⟨μx_1, e_μx_1, h⟩ := Ok.nm h
  refine Jm_putI C id fp_RX12_131 fw_11_18 rfl rfl rfl e_μx_1 dX12_sameShare_2 rfl ?_
  refine J_aload_n (i := 0) (p := 0) C dX12_sameShare_5 rfl rfl rfl ?_
  refine Jm_cV (rest := []) (st9 := fun p_1 => [.int p_1.1]) C hR hX cv_RX12_383 rfl (Nat.le_of_ble_eq_true rfl) (k12_staying hl  (Ok.ofbnd h)) rfl rfl (Nat.le_of_ble_eq_true rfl) (Nat.le_of_ble_eq_true rfl) (Nat.le_of_ble_eq_true rfl) ⟨(Nat.le_of_ble_eq_true rfl), (Nat.le_of_ble_eq_true rfl)⟩ dX12_sameShare_6 rfl (fun E n9 w9 hx => JT_n hx) (fun _ => rfl) (fun p_1 h => ?_)
  have h : Ok _ _ := h
  change J X K 1 False QQ 0 0 2055 (jw K σ p_1.2 o) 9 [(0, .ref (K.2.2 + 2017))] [.int p_1.1]
  refine J_i2f C dX12_sameShare_9 rfl ?_
  refine J_aload_n (i := 0) (p := 0) C dX12_sameShare_10 rfl rfl rfl ?_
  refine Jm_cV (rest := [.float (FP.i2f p_1.1)]) (st9 := fun p_2 => [.int p_2, .float (FP.i2f p_1.1)]) C hR hX cv_RX12_141 rfl (Nat.le_of_ble_eq_true rfl) (k12_lines hl  (Ok.ofbnd h)) rfl rfl (Nat.le_of_ble_eq_true rfl) (Nat.le_of_ble_eq_true rfl) (Nat.le_of_ble_eq_true rfl) ⟨(Nat.le_of_ble_eq_true rfl), (Nat.le_of_ble_eq_true rfl)⟩ dX12_sameShare_11 rfl (fun E n9 w9 hx => JT_n hx) (fun _ => rfl) (fun p_2 h => ?_)
  have h : Ok _ _ := h
  change J X K 1 False QQ 0 0 2055 (jw K σ p_1.2 o) 14 [(0, .ref (K.2.2 + 2017))] [.int p_2, .float (FP.i2f p_1.1)]
  refine J_i2f C dX12_sameShare_14 rfl ?_
  obtain ⟨g_3, h⟩ := Ok.ofgd h
  refine J_fdiv C (nf32_spec g_3) dX12_sameShare_15 rfl ?_
  rw [← hQQ]
  exact J_fret C hret (Nat.le_of_ble_eq_true rfl) (Nat.le_of_ble_eq_true rfl) ⟨_, h.osome, rfl, rfl, rfl⟩ dX12_sameShare_16
def f12_isState_j235 (l1 : Int32) (μ : Sto) (l2_235 : Int32) : Option (Int32) :=
  gd (isB l2_235) <|
  some l2_235
def f12_isState_j228 (l1 : Int32) (μ : Sto) (l3_228 : Int32) (s0_228 : Int32) : Option ((Int32 × Int32) ⊕ Int32) :=
  stp s0_228 fun x2_1 =>
  stp (l3_228 + (1 : Int32)) fun x3_2 =>
  some (.inl (x2_1, x3_2))
def f12_isState_b191 (l1 : Int32) (μ : Sto) (l2_191 : Int32) (l3_191 : Int32) : Option ((Int32 × Int32) ⊕ Int32) :=
  if (300 : Int32) ≤ l3_191 then
    some (.inr l2_191)
  else
    if l2_191 = 0 then
      some (.inr l2_191)
    else
      gd (inb (((300 : Int32) * l1) + l3_191) 90601) <|
      gd (inb l3_191 301) <|
      if (aI μ 2042 (Int32.toNatClampNeg (((300 : Int32) * l1) + l3_191))) = (aI μ 2022 (Int32.toNatClampNeg l3_191)) then
        f12_isState_j228 l1 μ l3_191 (1 : Int32)
      else
        f12_isState_j228 l1 μ l3_191 (0 : Int32)
def f12_isState_j191 (l1 : Int32) (μ : Sto) (l2_191 : Int32) (l3_191 : Int32) : Option (Int32) :=
  bnd (loopF (fun s_191 => f12_isState_b191 l1 μ s_191.1 s_191.2) FU (l2_191, l3_191)) fun r_191 =>
    f12_isState_j235 l1 μ r_191
def f12_isState_j189 (l1 : Int32) (μ : Sto) (l2_189 : Int32) : Option (Int32) :=
  stp (0 : Int32) fun x3_3 =>
  f12_isState_j191 l1 μ l2_189 x3_3
def f12_isState_j182 (l1 : Int32) (μ : Sto) (l3_182 : Int32) (s0_182 : Int32) : Option ((Int32 × Int32) ⊕ Int32) :=
  stp s0_182 fun x2_4 =>
  stp (l3_182 + (1 : Int32)) fun x3_5 =>
  some (.inl (x2_4, x3_5))
def f12_isState_j181 (l1 : Int32) (μ : Sto) (l3_181 : Int32) : Option ((Int32 × Int32) ⊕ Int32) :=
  f12_isState_j182 l1 μ l3_181 (0 : Int32)
def f12_isState_b127 (l1 : Int32) (μ : Sto) (l2_127 : Int32) (l3_127 : Int32) : Option ((Int32 × Int32) ⊕ Int32) :=
  if (16 : Int32) ≤ l3_127 then
    some (.inr l2_127)
  else
    if l2_127 = 0 then
      some (.inr l2_127)
    else
      gd (inb (((16 : Int32) * l1) + l3_127) 4816) <|
      gd (inb l3_127 16) <|
      if (aI μ 2040 (Int32.toNatClampNeg (((16 : Int32) * l1) + l3_127))) = (aI μ 2020 (Int32.toNatClampNeg l3_127)) then
        gd (inb (((16 : Int32) * l1) + l3_127) 4816) <|
        gd (inb l3_127 16) <|
        if (aI μ 2041 (Int32.toNatClampNeg (((16 : Int32) * l1) + l3_127))) = (aI μ 2021 (Int32.toNatClampNeg l3_127)) then
          f12_isState_j182 l1 μ l3_127 (1 : Int32)
        else
          f12_isState_j181 l1 μ l3_127
      else
        f12_isState_j181 l1 μ l3_127
def f12_isState_j127 (l1 : Int32) (μ : Sto) (l2_127 : Int32) (l3_127 : Int32) : Option (Int32) :=
  bnd (loopF (fun s_127 => f12_isState_b127 l1 μ s_127.1 s_127.2) FU (l2_127, l3_127)) fun r_127 =>
    f12_isState_j189 l1 μ r_127
def f12_isState_j125 (l1 : Int32) (μ : Sto) (l2_125 : Int32) : Option (Int32) :=
  stp (0 : Int32) fun x3_6 =>
  f12_isState_j127 l1 μ l2_125 x3_6
def f12_isState_j118 (l1 : Int32) (μ : Sto) (l3_118 : Int32) (s0_118 : Int32) : Option ((Int32 × Int32) ⊕ Int32) :=
  stp s0_118 fun x2_7 =>
  stp (l3_118 + (1 : Int32)) fun x3_8 =>
  some (.inl (x2_7, x3_8))
def f12_isState_b81 (l1 : Int32) (μ : Sto) (l2_81 : Int32) (l3_81 : Int32) : Option ((Int32 × Int32) ⊕ Int32) :=
  if (fI μ 2017 6) ≤ l3_81 then
    some (.inr l2_81)
  else
    if l2_81 = 0 then
      some (.inr l2_81)
    else
      gd (inb (((8 : Int32) * l1) + l3_81) 2408) <|
      gd (inb l3_81 8) <|
      if (aI μ 2038 (Int32.toNatClampNeg (((8 : Int32) * l1) + l3_81))) = (aI μ 2019 (Int32.toNatClampNeg l3_81)) then
        f12_isState_j118 l1 μ l3_81 (1 : Int32)
      else
        f12_isState_j118 l1 μ l3_81 (0 : Int32)
def f12_isState_j81 (l1 : Int32) (μ : Sto) (l2_81 : Int32) (l3_81 : Int32) : Option (Int32) :=
  bnd (loopF (fun s_81 => f12_isState_b81 l1 μ s_81.1 s_81.2) FU (l2_81, l3_81)) fun r_81 =>
    f12_isState_j125 l1 μ r_81
def f12_isState_j79 (l1 : Int32) (μ : Sto) (l2_79 : Int32) : Option (Int32) :=
  stp (0 : Int32) fun x3_9 =>
  f12_isState_j81 l1 μ l2_79 x3_9
def f12_isState_j72 (l1 : Int32) (μ : Sto) (l3_72 : Int32) (s0_72 : Int32) : Option ((Int32 × Int32) ⊕ Int32) :=
  stp s0_72 fun x2_10 =>
  stp (l3_72 + (1 : Int32)) fun x3_11 =>
  some (.inl (x2_10, x3_11))
def f12_isState_b34 (l1 : Int32) (μ : Sto) (l2_34 : Int32) (l3_34 : Int32) : Option ((Int32 × Int32) ⊕ Int32) :=
  if (fI μ 2017 5) ≤ l3_34 then
    some (.inr l2_34)
  else
    if l2_34 = 0 then
      some (.inr l2_34)
    else
      gd (inb (((3000 : Int32) * l1) + l3_34) 903000) <|
      gd (inb l3_34 3000) <|
      if (aI μ 2036 (Int32.toNatClampNeg (((3000 : Int32) * l1) + l3_34))) = (aI μ 2018 (Int32.toNatClampNeg l3_34)) then
        f12_isState_j72 l1 μ l3_34 (1 : Int32)
      else
        f12_isState_j72 l1 μ l3_34 (0 : Int32)
def f12_isState_j34 (l1 : Int32) (μ : Sto) (l2_34 : Int32) (l3_34 : Int32) : Option (Int32) :=
  bnd (loopF (fun s_34 => f12_isState_b34 l1 μ s_34.1 s_34.2) FU (l2_34, l3_34)) fun r_34 =>
    f12_isState_j79 l1 μ r_34
def f12_isState_j31 (l1 : Int32) (μ : Sto) (s0_31 : Int32) : Option (Int32) :=
  stp s0_31 fun x2_12 =>
  stp (0 : Int32) fun x3_13 =>
  f12_isState_j34 l1 μ x2_12 x3_13
def f12_isState_j30 (l1 : Int32) (μ : Sto) : Option (Int32) :=
  f12_isState_j31 l1 μ (0 : Int32)
def f12_isState (μ : Sto) (l1 : Int32) : Option (Int32) :=
  gd (inb l1 301) <|
  if (aI μ 2037 (Int32.toNatClampNeg l1)) = (fI μ 2017 5) then
    gd (inb l1 301) <|
    if (aI μ 2039 (Int32.toNatClampNeg l1)) = (fI μ 2017 6) then
      f12_isState_j31 l1 μ (1 : Int32)
    else
      f12_isState_j30 l1 μ
  else
    f12_isState_j30 l1 μ
set_option maxHeartbeats 4000000 in
set_option maxRecDepth 100000 in
theorem k12_isState {l : Launch} {K : JK} (hl : l.stackTraces = false) {σ μ : Sto} {o : Int64} {l1 : Int32}  {Qf : Int32 → Prop} (h : Ok (f12_isState μ l1) Qf) : Con l K yX12_isState (.code yX12_isState cX12_isState 4 (some .boolean) :: TB) 0 0 0 False [.ref (K.2.2 + 2017), .int l1] 2055 (jw K σ μ o) (PR Qf (fun p => some (.int p)) (fun p => jw K σ μ o)) PN := by
  refine Con.enter (own := RX12) hl (by decide) rfl (Nat.le_of_ble_eq_true rfl) ?_
  intro X hX hR C hret hnt
  generalize hQQ : jQ X K 0 0 (PR Qf (fun p => some (.int p)) (fun p => jw K σ μ o)) PN False = QQ
  change J X K 4 False QQ 0 0 2055 (jw K σ μ o) 0 [(0, .ref (K.2.2 + 2017)), (1, .int l1)] []
  have hj_235 : (∀ (l2_235 : Int32), Ok (f12_isState_j235 l1 μ l2_235) Qf → J X K 4 False QQ 0 0 2055 (jw K σ μ o) 235 [(2, .int l2_235)] []) := by
    intro l2_235 h
    unfold f12_isState_j235 at h
    refine J_iload_n (i := 2) (p := 0) C dX12_isState_235 rfl rfl rfl ?_
    obtain ⟨g_1, h⟩ := Ok.ofgd h
    rw [← hQQ]
    exact J_zret C hret (narB g_1).1 (Nat.le_of_ble_eq_true rfl) (Nat.le_of_ble_eq_true rfl) ⟨_, h.osome, rfl, rfl, rfl⟩ dX12_isState_236
  have hj_191 : (∀ (l2_191 : Int32) (l3_191 : Int32), Ok (f12_isState_j191 l1 μ l2_191 l3_191) Qf → J X K 4 False QQ 0 0 2055 (jw K σ μ o) 191 [(0, .ref (K.2.2 + 2017)), (1, .int l1), (2, .int l2_191), (3, .int l3_191)] []) := by
    intro l2_191 l3_191 h
    unfold f12_isState_j191 at h
    refine loop_gen (S := Int32 × Int32) (P := fun s_191 => J X K 4 False QQ 0 0 2055 (jw K σ μ o) 191 [(0, .ref (K.2.2 + 2017)), (1, .int l1), (2, .int s_191.1), (3, .int s_191.2)] []) ?_ FU (l2_191, l3_191) (Ok.ofbnd h)
    intro B_191 hB_191 hE_191 s_191 h
    obtain ⟨l2_191, l3_191⟩ := s_191
    have h : Ok (f12_isState_b191 l1 μ l2_191 l3_191) B_191 := h
    change J X K 4 False QQ 0 0 2055 (jw K σ μ o) 191 [(0, .ref (K.2.2 + 2017)), (1, .int l1), (2, .int l2_191), (3, .int l3_191)] []
    have hj_228 : (∀ (l3_228 : Int32) (s0_228 : Int32), Ok (f12_isState_j228 l1 μ l3_228 s0_228) B_191 → J X K 4 False QQ 0 0 2055 (jw K σ μ o) 228 [(0, .ref (K.2.2 + 2017)), (1, .int l1), (3, .int l3_228)] [.int s0_228]) := by
      intro l3_228 s0_228 h
      unfold f12_isState_j228 at h
      obtain ⟨x2_1, e_x2_1, h⟩ := Ok.nm h
      refine J_istoreE_n (i := 2) (lv' := [(2, .int x2_1), (0, .ref (K.2.2 + 2017)), (1, .int l1), (3, .int l3_228)]) C e_x2_1 dX12_isState_228 rfl (Nat.le_of_ble_eq_true rfl) rfl rfl ?_
      obtain ⟨x3_2, e_x3_2, h⟩ := Ok.nm h
      refine J_iincE (i := 3) (p := 3) (lv' := [(3, .int x3_2), (2, .int x2_1), (0, .ref (K.2.2 + 2017)), (1, .int l1)]) C e_x3_2 dX12_isState_229 rfl (by decide) (Nat.le_of_ble_eq_true rfl) rfl rfl ?_
      refine J_goto (t := 191) C dX12_isState_232 (by decide) ?_
      refine J.sub [2, 3, 1, 0] rfl ?_
      exact hB_191 (x2_1, x3_2) h.osome
    unfold f12_isState_b191 at h
    refine J_iload_n (i := 3) (p := 3) C dX12_isState_191 rfl rfl rfl ?_
    refine J_sipush (v := 300) C (by decide) dX12_isState_192 rfl ?_
    refine J_icmp_ge (t := 235) C dX12_isState_195 (by decide) rfl (fun c_2 => ?_) (fun c_2 => ?_)
    · have h := h.pos c_2
      have h := hE_191 l2_191 h.osome
      try dsimp only at h
      refine J.sub [2] rfl ?_
      exact hj_235 l2_191 h
    · have h := h.neg c_2
      refine J_iload_n (i := 2) (p := 2) C dX12_isState_198 rfl rfl rfl ?_
      refine J_if_eq (t := 235) C dX12_isState_199 (by decide) rfl (fun c_3 => ?_) (fun c_3 => ?_)
      · have h := h.pos c_3
        have h := hE_191 l2_191 h.osome
        try dsimp only at h
        refine J.sub [2] rfl ?_
        exact hj_235 l2_191 h
      · have h := h.neg c_3
        refine J_aload_n (i := 0) (p := 0) C dX12_isState_202 rfl rfl rfl ?_
        refine Jm_getS (o2 := 25) (r2 := 2042) C fp_RX12_95 rfl rfl rfl dX12_isState_203 rfl ?_
        refine J_sipush (v := 300) C (by decide) dX12_isState_206 rfl ?_
        refine J_iload_n (i := 1) (p := 1) C dX12_isState_209 rfl rfl rfl ?_
        refine J_imul C dX12_isState_210 rfl ?_
        refine J_iload_n (i := 3) (p := 3) C dX12_isState_211 rfl rfl rfl ?_
        refine J_iadd C dX12_isState_212 rfl ?_
        obtain ⟨g_4, h⟩ := Ok.ofgd h
        refine Jm_zald C rfl rfl g_4 dX12_isState_213 rfl ?_
        refine J_aload_n (i := 0) (p := 0) C dX12_isState_214 rfl rfl rfl ?_
        refine Jm_getS (o2 := 5) (r2 := 2022) C fp_RX12_23 rfl rfl rfl dX12_isState_215 rfl ?_
        refine J_iload_n (i := 3) (p := 3) C dX12_isState_218 rfl rfl rfl ?_
        obtain ⟨g_5, h⟩ := Ok.ofgd h
        refine Jm_zald C rfl rfl g_5 dX12_isState_219 rfl ?_
        refine J_icmp_ne (t := 227) C dX12_isState_220 (by decide) rfl (fun c_6 => ?_) (fun c_6 => ?_)
        · have h := h.neg c_6
          refine J_iconst (v := 0) C (by decide) dX12_isState_227 rfl ?_
          refine J.sub [0, 1, 3] rfl ?_
          exact hj_228 l3_191 (0 : Int32) h
        · have h := h.pos (Decidable.not_not.mp c_6)
          refine J_iconst (v := 1) C (by decide) dX12_isState_223 rfl ?_
          refine J_goto (t := 228) C dX12_isState_224 (by decide) ?_
          refine J.sub [0, 1, 3] rfl ?_
          exact hj_228 l3_191 (1 : Int32) h
  have hj_189 : (∀ (l2_189 : Int32), Ok (f12_isState_j189 l1 μ l2_189) Qf → J X K 4 False QQ 0 0 2055 (jw K σ μ o) 189 [(0, .ref (K.2.2 + 2017)), (1, .int l1), (2, .int l2_189)] []) := by
    intro l2_189 h
    unfold f12_isState_j189 at h
    refine J_iconst (v := 0) C (by decide) dX12_isState_189 rfl ?_
    obtain ⟨x3_3, e_x3_3, h⟩ := Ok.nm h
    refine J_istoreE_n (i := 3) (lv' := [(3, .int x3_3), (0, .ref (K.2.2 + 2017)), (1, .int l1), (2, .int l2_189)]) C e_x3_3 dX12_isState_190 rfl (Nat.le_of_ble_eq_true rfl) rfl rfl ?_
    refine J.sub [1, 2, 3, 0] rfl ?_
    exact hj_191 l2_189 x3_3 h
  have hj_127 : (∀ (l2_127 : Int32) (l3_127 : Int32), Ok (f12_isState_j127 l1 μ l2_127 l3_127) Qf → J X K 4 False QQ 0 0 2055 (jw K σ μ o) 127 [(0, .ref (K.2.2 + 2017)), (1, .int l1), (2, .int l2_127), (3, .int l3_127)] []) := by
    intro l2_127 l3_127 h
    unfold f12_isState_j127 at h
    refine loop_gen (S := Int32 × Int32) (P := fun s_127 => J X K 4 False QQ 0 0 2055 (jw K σ μ o) 127 [(0, .ref (K.2.2 + 2017)), (1, .int l1), (2, .int s_127.1), (3, .int s_127.2)] []) ?_ FU (l2_127, l3_127) (Ok.ofbnd h)
    intro B_127 hB_127 hE_127 s_127 h
    obtain ⟨l2_127, l3_127⟩ := s_127
    have h : Ok (f12_isState_b127 l1 μ l2_127 l3_127) B_127 := h
    change J X K 4 False QQ 0 0 2055 (jw K σ μ o) 127 [(0, .ref (K.2.2 + 2017)), (1, .int l1), (2, .int l2_127), (3, .int l3_127)] []
    have hj_182 : (∀ (l3_182 : Int32) (s0_182 : Int32), Ok (f12_isState_j182 l1 μ l3_182 s0_182) B_127 → J X K 4 False QQ 0 0 2055 (jw K σ μ o) 182 [(0, .ref (K.2.2 + 2017)), (1, .int l1), (3, .int l3_182)] [.int s0_182]) := by
      intro l3_182 s0_182 h
      unfold f12_isState_j182 at h
      obtain ⟨x2_4, e_x2_4, h⟩ := Ok.nm h
      refine J_istoreE_n (i := 2) (lv' := [(2, .int x2_4), (0, .ref (K.2.2 + 2017)), (1, .int l1), (3, .int l3_182)]) C e_x2_4 dX12_isState_182 rfl (Nat.le_of_ble_eq_true rfl) rfl rfl ?_
      obtain ⟨x3_5, e_x3_5, h⟩ := Ok.nm h
      refine J_iincE (i := 3) (p := 3) (lv' := [(3, .int x3_5), (2, .int x2_4), (0, .ref (K.2.2 + 2017)), (1, .int l1)]) C e_x3_5 dX12_isState_183 rfl (by decide) (Nat.le_of_ble_eq_true rfl) rfl rfl ?_
      refine J_goto (t := 127) C dX12_isState_186 (by decide) ?_
      refine J.sub [2, 3, 1, 0] rfl ?_
      exact hB_127 (x2_4, x3_5) h.osome
    have hj_181 : (∀ (l3_181 : Int32), Ok (f12_isState_j181 l1 μ l3_181) B_127 → J X K 4 False QQ 0 0 2055 (jw K σ μ o) 181 [(0, .ref (K.2.2 + 2017)), (1, .int l1), (3, .int l3_181)] []) := by
      intro l3_181 h
      unfold f12_isState_j181 at h
      refine J_iconst (v := 0) C (by decide) dX12_isState_181 rfl ?_
      exact hj_182 l3_181 (0 : Int32) h
    unfold f12_isState_b127 at h
    refine J_iload_n (i := 3) (p := 3) C dX12_isState_127 rfl rfl rfl ?_
    refine J_bipush (v := 16) C (by decide) dX12_isState_128 rfl ?_
    refine J_icmp_ge (t := 189) C dX12_isState_130 (by decide) rfl (fun c_7 => ?_) (fun c_7 => ?_)
    · have h := h.pos c_7
      have h := hE_127 l2_127 h.osome
      try dsimp only at h
      refine J.sub [0, 1, 2] rfl ?_
      exact hj_189 l2_127 h
    · have h := h.neg c_7
      refine J_iload_n (i := 2) (p := 2) C dX12_isState_133 rfl rfl rfl ?_
      refine J_if_eq (t := 189) C dX12_isState_134 (by decide) rfl (fun c_8 => ?_) (fun c_8 => ?_)
      · have h := h.pos c_8
        have h := hE_127 l2_127 h.osome
        try dsimp only at h
        refine J.sub [0, 1, 2] rfl ?_
        exact hj_189 l2_127 h
      · have h := h.neg c_8
        refine J_aload_n (i := 0) (p := 0) C dX12_isState_137 rfl rfl rfl ?_
        refine Jm_getS (o2 := 23) (r2 := 2040) C fp_RX12_88 rfl rfl rfl dX12_isState_138 rfl ?_
        refine J_bipush (v := 16) C (by decide) dX12_isState_141 rfl ?_
        refine J_iload_n (i := 1) (p := 1) C dX12_isState_143 rfl rfl rfl ?_
        refine J_imul C dX12_isState_144 rfl ?_
        refine J_iload_n (i := 3) (p := 3) C dX12_isState_145 rfl rfl rfl ?_
        refine J_iadd C dX12_isState_146 rfl ?_
        obtain ⟨g_9, h⟩ := Ok.ofgd h
        refine Jm_iald C rfl rfl g_9 dX12_isState_147 rfl ?_
        refine J_aload_n (i := 0) (p := 0) C dX12_isState_148 rfl rfl rfl ?_
        refine Jm_getS (o2 := 3) (r2 := 2020) C fp_RX12_16 rfl rfl rfl dX12_isState_149 rfl ?_
        refine J_iload_n (i := 3) (p := 3) C dX12_isState_152 rfl rfl rfl ?_
        obtain ⟨g_10, h⟩ := Ok.ofgd h
        refine Jm_iald C rfl rfl g_10 dX12_isState_153 rfl ?_
        refine J_icmp_ne (t := 181) C dX12_isState_154 (by decide) rfl (fun c_11 => ?_) (fun c_11 => ?_)
        · have h := h.neg c_11
          refine J.sub [0, 1, 3] rfl ?_
          exact hj_181 l3_127 h
        · have h := h.pos (Decidable.not_not.mp c_11)
          refine J_aload_n (i := 0) (p := 0) C dX12_isState_157 rfl rfl rfl ?_
          refine Jm_getS (o2 := 24) (r2 := 2041) C fp_RX12_91 rfl rfl rfl dX12_isState_158 rfl ?_
          refine J_bipush (v := 16) C (by decide) dX12_isState_161 rfl ?_
          refine J_iload_n (i := 1) (p := 1) C dX12_isState_163 rfl rfl rfl ?_
          refine J_imul C dX12_isState_164 rfl ?_
          refine J_iload_n (i := 3) (p := 3) C dX12_isState_165 rfl rfl rfl ?_
          refine J_iadd C dX12_isState_166 rfl ?_
          obtain ⟨g_12, h⟩ := Ok.ofgd h
          refine Jm_zald C rfl rfl g_12 dX12_isState_167 rfl ?_
          refine J_aload_n (i := 0) (p := 0) C dX12_isState_168 rfl rfl rfl ?_
          refine Jm_getS (o2 := 4) (r2 := 2021) C fp_RX12_19 rfl rfl rfl dX12_isState_169 rfl ?_
          refine J_iload_n (i := 3) (p := 3) C dX12_isState_172 rfl rfl rfl ?_
          obtain ⟨g_13, h⟩ := Ok.ofgd h
          refine Jm_zald C rfl rfl g_13 dX12_isState_173 rfl ?_
          refine J_icmp_ne (t := 181) C dX12_isState_174 (by decide) rfl (fun c_14 => ?_) (fun c_14 => ?_)
          · have h := h.neg c_14
            refine J.sub [0, 1, 3] rfl ?_
            exact hj_181 l3_127 h
          · have h := h.pos (Decidable.not_not.mp c_14)
            refine J_iconst (v := 1) C (by decide) dX12_isState_177 rfl ?_
            refine J_goto (t := 182) C dX12_isState_178 (by decide) ?_
            refine J.sub [0, 1, 3] rfl ?_
            exact hj_182 l3_127 (1 : Int32) h
  have hj_125 : (∀ (l2_125 : Int32), Ok (f12_isState_j125 l1 μ l2_125) Qf → J X K 4 False QQ 0 0 2055 (jw K σ μ o) 125 [(0, .ref (K.2.2 + 2017)), (1, .int l1), (2, .int l2_125)] []) := by
    intro l2_125 h
    unfold f12_isState_j125 at h
    refine J_iconst (v := 0) C (by decide) dX12_isState_125 rfl ?_
    obtain ⟨x3_6, e_x3_6, h⟩ := Ok.nm h
    refine J_istoreE_n (i := 3) (lv' := [(3, .int x3_6), (0, .ref (K.2.2 + 2017)), (1, .int l1), (2, .int l2_125)]) C e_x3_6 dX12_isState_126 rfl (Nat.le_of_ble_eq_true rfl) rfl rfl ?_
    refine J.sub [1, 2, 3, 0] rfl ?_
    exact hj_127 l2_125 x3_6 h
  have hj_81 : (∀ (l2_81 : Int32) (l3_81 : Int32), Ok (f12_isState_j81 l1 μ l2_81 l3_81) Qf → J X K 4 False QQ 0 0 2055 (jw K σ μ o) 81 [(0, .ref (K.2.2 + 2017)), (1, .int l1), (2, .int l2_81), (3, .int l3_81)] []) := by
    intro l2_81 l3_81 h
    unfold f12_isState_j81 at h
    refine loop_gen (S := Int32 × Int32) (P := fun s_81 => J X K 4 False QQ 0 0 2055 (jw K σ μ o) 81 [(0, .ref (K.2.2 + 2017)), (1, .int l1), (2, .int s_81.1), (3, .int s_81.2)] []) ?_ FU (l2_81, l3_81) (Ok.ofbnd h)
    intro B_81 hB_81 hE_81 s_81 h
    obtain ⟨l2_81, l3_81⟩ := s_81
    have h : Ok (f12_isState_b81 l1 μ l2_81 l3_81) B_81 := h
    change J X K 4 False QQ 0 0 2055 (jw K σ μ o) 81 [(0, .ref (K.2.2 + 2017)), (1, .int l1), (2, .int l2_81), (3, .int l3_81)] []
    have hj_118 : (∀ (l3_118 : Int32) (s0_118 : Int32), Ok (f12_isState_j118 l1 μ l3_118 s0_118) B_81 → J X K 4 False QQ 0 0 2055 (jw K σ μ o) 118 [(0, .ref (K.2.2 + 2017)), (1, .int l1), (3, .int l3_118)] [.int s0_118]) := by
      intro l3_118 s0_118 h
      unfold f12_isState_j118 at h
      obtain ⟨x2_7, e_x2_7, h⟩ := Ok.nm h
      refine J_istoreE_n (i := 2) (lv' := [(2, .int x2_7), (0, .ref (K.2.2 + 2017)), (1, .int l1), (3, .int l3_118)]) C e_x2_7 dX12_isState_118 rfl (Nat.le_of_ble_eq_true rfl) rfl rfl ?_
      obtain ⟨x3_8, e_x3_8, h⟩ := Ok.nm h
      refine J_iincE (i := 3) (p := 3) (lv' := [(3, .int x3_8), (2, .int x2_7), (0, .ref (K.2.2 + 2017)), (1, .int l1)]) C e_x3_8 dX12_isState_119 rfl (by decide) (Nat.le_of_ble_eq_true rfl) rfl rfl ?_
      refine J_goto (t := 81) C dX12_isState_122 (by decide) ?_
      refine J.sub [2, 3, 1, 0] rfl ?_
      exact hB_81 (x2_7, x3_8) h.osome
    unfold f12_isState_b81 at h
    refine J_iload_n (i := 3) (p := 3) C dX12_isState_81 rfl rfl rfl ?_
    refine J_aload_n (i := 0) (p := 0) C dX12_isState_82 rfl rfl rfl ?_
    refine Jm_getI C fp_RX12_26 rfl rfl dX12_isState_83 rfl ?_
    refine J_icmp_ge (t := 125) C dX12_isState_86 (by decide) rfl (fun c_15 => ?_) (fun c_15 => ?_)
    · have h := h.pos c_15
      have h := hE_81 l2_81 h.osome
      try dsimp only at h
      refine J.sub [0, 1, 2] rfl ?_
      exact hj_125 l2_81 h
    · have h := h.neg c_15
      refine J_iload_n (i := 2) (p := 2) C dX12_isState_89 rfl rfl rfl ?_
      refine J_if_eq (t := 125) C dX12_isState_90 (by decide) rfl (fun c_16 => ?_) (fun c_16 => ?_)
      · have h := h.pos c_16
        have h := hE_81 l2_81 h.osome
        try dsimp only at h
        refine J.sub [0, 1, 2] rfl ?_
        exact hj_125 l2_81 h
      · have h := h.neg c_16
        refine J_aload_n (i := 0) (p := 0) C dX12_isState_93 rfl rfl rfl ?_
        refine Jm_getS (o2 := 21) (r2 := 2038) C fp_RX12_82 rfl rfl rfl dX12_isState_94 rfl ?_
        refine J_bipush (v := 8) C (by decide) dX12_isState_97 rfl ?_
        refine J_iload_n (i := 1) (p := 1) C dX12_isState_99 rfl rfl rfl ?_
        refine J_imul C dX12_isState_100 rfl ?_
        refine J_iload_n (i := 3) (p := 3) C dX12_isState_101 rfl rfl rfl ?_
        refine J_iadd C dX12_isState_102 rfl ?_
        obtain ⟨g_17, h⟩ := Ok.ofgd h
        refine Jm_iald C rfl rfl g_17 dX12_isState_103 rfl ?_
        refine J_aload_n (i := 0) (p := 0) C dX12_isState_104 rfl rfl rfl ?_
        refine Jm_getS (o2 := 2) (r2 := 2019) C fp_RX12_13 rfl rfl rfl dX12_isState_105 rfl ?_
        refine J_iload_n (i := 3) (p := 3) C dX12_isState_108 rfl rfl rfl ?_
        obtain ⟨g_18, h⟩ := Ok.ofgd h
        refine Jm_iald C rfl rfl g_18 dX12_isState_109 rfl ?_
        refine J_icmp_ne (t := 117) C dX12_isState_110 (by decide) rfl (fun c_19 => ?_) (fun c_19 => ?_)
        · have h := h.neg c_19
          refine J_iconst (v := 0) C (by decide) dX12_isState_117 rfl ?_
          refine J.sub [0, 1, 3] rfl ?_
          exact hj_118 l3_81 (0 : Int32) h
        · have h := h.pos (Decidable.not_not.mp c_19)
          refine J_iconst (v := 1) C (by decide) dX12_isState_113 rfl ?_
          refine J_goto (t := 118) C dX12_isState_114 (by decide) ?_
          refine J.sub [0, 1, 3] rfl ?_
          exact hj_118 l3_81 (1 : Int32) h
  have hj_79 : (∀ (l2_79 : Int32), Ok (f12_isState_j79 l1 μ l2_79) Qf → J X K 4 False QQ 0 0 2055 (jw K σ μ o) 79 [(0, .ref (K.2.2 + 2017)), (1, .int l1), (2, .int l2_79)] []) := by
    intro l2_79 h
    unfold f12_isState_j79 at h
    refine J_iconst (v := 0) C (by decide) dX12_isState_79 rfl ?_
    obtain ⟨x3_9, e_x3_9, h⟩ := Ok.nm h
    refine J_istoreE_n (i := 3) (lv' := [(3, .int x3_9), (0, .ref (K.2.2 + 2017)), (1, .int l1), (2, .int l2_79)]) C e_x3_9 dX12_isState_80 rfl (Nat.le_of_ble_eq_true rfl) rfl rfl ?_
    refine J.sub [1, 2, 3, 0] rfl ?_
    exact hj_81 l2_79 x3_9 h
  have hj_34 : (∀ (l2_34 : Int32) (l3_34 : Int32), Ok (f12_isState_j34 l1 μ l2_34 l3_34) Qf → J X K 4 False QQ 0 0 2055 (jw K σ μ o) 34 [(0, .ref (K.2.2 + 2017)), (1, .int l1), (2, .int l2_34), (3, .int l3_34)] []) := by
    intro l2_34 l3_34 h
    unfold f12_isState_j34 at h
    refine loop_gen (S := Int32 × Int32) (P := fun s_34 => J X K 4 False QQ 0 0 2055 (jw K σ μ o) 34 [(0, .ref (K.2.2 + 2017)), (1, .int l1), (2, .int s_34.1), (3, .int s_34.2)] []) ?_ FU (l2_34, l3_34) (Ok.ofbnd h)
    intro B_34 hB_34 hE_34 s_34 h
    obtain ⟨l2_34, l3_34⟩ := s_34
    have h : Ok (f12_isState_b34 l1 μ l2_34 l3_34) B_34 := h
    change J X K 4 False QQ 0 0 2055 (jw K σ μ o) 34 [(0, .ref (K.2.2 + 2017)), (1, .int l1), (2, .int l2_34), (3, .int l3_34)] []
    have hj_72 : (∀ (l3_72 : Int32) (s0_72 : Int32), Ok (f12_isState_j72 l1 μ l3_72 s0_72) B_34 → J X K 4 False QQ 0 0 2055 (jw K σ μ o) 72 [(0, .ref (K.2.2 + 2017)), (1, .int l1), (3, .int l3_72)] [.int s0_72]) := by
      intro l3_72 s0_72 h
      unfold f12_isState_j72 at h
      obtain ⟨x2_10, e_x2_10, h⟩ := Ok.nm h
      refine J_istoreE_n (i := 2) (lv' := [(2, .int x2_10), (0, .ref (K.2.2 + 2017)), (1, .int l1), (3, .int l3_72)]) C e_x2_10 dX12_isState_72 rfl (Nat.le_of_ble_eq_true rfl) rfl rfl ?_
      obtain ⟨x3_11, e_x3_11, h⟩ := Ok.nm h
      refine J_iincE (i := 3) (p := 3) (lv' := [(3, .int x3_11), (2, .int x2_10), (0, .ref (K.2.2 + 2017)), (1, .int l1)]) C e_x3_11 dX12_isState_73 rfl (by decide) (Nat.le_of_ble_eq_true rfl) rfl rfl ?_
      refine J_goto (t := 34) C dX12_isState_76 (by decide) ?_
      refine J.sub [2, 3, 1, 0] rfl ?_
      exact hB_34 (x2_10, x3_11) h.osome
    unfold f12_isState_b34 at h
    refine J_iload_n (i := 3) (p := 3) C dX12_isState_34 rfl rfl rfl ?_
    refine J_aload_n (i := 0) (p := 0) C dX12_isState_35 rfl rfl rfl ?_
    refine Jm_getI C fp_RX12_138 rfl rfl dX12_isState_36 rfl ?_
    refine J_icmp_ge (t := 79) C dX12_isState_39 (by decide) rfl (fun c_20 => ?_) (fun c_20 => ?_)
    · have h := h.pos c_20
      have h := hE_34 l2_34 h.osome
      try dsimp only at h
      refine J.sub [0, 1, 2] rfl ?_
      exact hj_79 l2_34 h
    · have h := h.neg c_20
      refine J_iload_n (i := 2) (p := 2) C dX12_isState_42 rfl rfl rfl ?_
      refine J_if_eq (t := 79) C dX12_isState_43 (by decide) rfl (fun c_21 => ?_) (fun c_21 => ?_)
      · have h := h.pos c_21
        have h := hE_34 l2_34 h.osome
        try dsimp only at h
        refine J.sub [0, 1, 2] rfl ?_
        exact hj_79 l2_34 h
      · have h := h.neg c_21
        refine J_aload_n (i := 0) (p := 0) C dX12_isState_46 rfl rfl rfl ?_
        refine Jm_getS (o2 := 19) (r2 := 2036) C fp_RX12_76 rfl rfl rfl dX12_isState_47 rfl ?_
        refine J_sipush (v := 3000) C (by decide) dX12_isState_50 rfl ?_
        refine J_iload_n (i := 1) (p := 1) C dX12_isState_53 rfl rfl rfl ?_
        refine J_imul C dX12_isState_54 rfl ?_
        refine J_iload_n (i := 3) (p := 3) C dX12_isState_55 rfl rfl rfl ?_
        refine J_iadd C dX12_isState_56 rfl ?_
        obtain ⟨g_22, h⟩ := Ok.ofgd h
        refine Jm_iald C rfl rfl g_22 dX12_isState_57 rfl ?_
        refine J_aload_n (i := 0) (p := 0) C dX12_isState_58 rfl rfl rfl ?_
        refine Jm_getS (o2 := 1) (r2 := 2018) C fp_RX12_7 rfl rfl rfl dX12_isState_59 rfl ?_
        refine J_iload_n (i := 3) (p := 3) C dX12_isState_62 rfl rfl rfl ?_
        obtain ⟨g_23, h⟩ := Ok.ofgd h
        refine Jm_iald C rfl rfl g_23 dX12_isState_63 rfl ?_
        refine J_icmp_ne (t := 71) C dX12_isState_64 (by decide) rfl (fun c_24 => ?_) (fun c_24 => ?_)
        · have h := h.neg c_24
          refine J_iconst (v := 0) C (by decide) dX12_isState_71 rfl ?_
          refine J.sub [0, 1, 3] rfl ?_
          exact hj_72 l3_34 (0 : Int32) h
        · have h := h.pos (Decidable.not_not.mp c_24)
          refine J_iconst (v := 1) C (by decide) dX12_isState_67 rfl ?_
          refine J_goto (t := 72) C dX12_isState_68 (by decide) ?_
          refine J.sub [0, 1, 3] rfl ?_
          exact hj_72 l3_34 (1 : Int32) h
  have hj_31 : (∀ (s0_31 : Int32), Ok (f12_isState_j31 l1 μ s0_31) Qf → J X K 4 False QQ 0 0 2055 (jw K σ μ o) 31 [(0, .ref (K.2.2 + 2017)), (1, .int l1)] [.int s0_31]) := by
    intro s0_31 h
    unfold f12_isState_j31 at h
    obtain ⟨x2_12, e_x2_12, h⟩ := Ok.nm h
    refine J_istoreE_n (i := 2) (lv' := [(2, .int x2_12), (0, .ref (K.2.2 + 2017)), (1, .int l1)]) C e_x2_12 dX12_isState_31 rfl (Nat.le_of_ble_eq_true rfl) rfl rfl ?_
    refine J_iconst (v := 0) C (by decide) dX12_isState_32 rfl ?_
    obtain ⟨x3_13, e_x3_13, h⟩ := Ok.nm h
    refine J_istoreE_n (i := 3) (lv' := [(3, .int x3_13), (2, .int x2_12), (0, .ref (K.2.2 + 2017)), (1, .int l1)]) C e_x3_13 dX12_isState_33 rfl (Nat.le_of_ble_eq_true rfl) rfl rfl ?_
    refine J.sub [2, 3, 1, 0] rfl ?_
    exact hj_34 x2_12 x3_13 h
  have hj_30 : (Ok (f12_isState_j30 l1 μ) Qf → J X K 4 False QQ 0 0 2055 (jw K σ μ o) 30 [(0, .ref (K.2.2 + 2017)), (1, .int l1)] []) := by
    intro h
    unfold f12_isState_j30 at h
    refine J_iconst (v := 0) C (by decide) dX12_isState_30 rfl ?_
    exact hj_31 (0 : Int32) h
  unfold f12_isState at h
  refine J_aload_n (i := 0) (p := 0) C dX12_isState_0 rfl rfl rfl ?_
  refine Jm_getS (o2 := 20) (r2 := 2037) C fp_RX12_79 rfl rfl rfl dX12_isState_1 rfl ?_
  refine J_iload_n (i := 1) (p := 1) C dX12_isState_4 rfl rfl rfl ?_
  obtain ⟨g_25, h⟩ := Ok.ofgd h
  refine Jm_iald C rfl rfl g_25 dX12_isState_5 rfl ?_
  refine J_aload_n (i := 0) (p := 0) C dX12_isState_6 rfl rfl rfl ?_
  refine Jm_getI C fp_RX12_138 rfl rfl dX12_isState_7 rfl ?_
  refine J_icmp_ne (t := 30) C dX12_isState_10 (by decide) rfl (fun c_26 => ?_) (fun c_26 => ?_)
  · have h := h.neg c_26
    exact hj_30  h
  · have h := h.pos (Decidable.not_not.mp c_26)
    refine J_aload_n (i := 0) (p := 0) C dX12_isState_13 rfl rfl rfl ?_
    refine Jm_getS (o2 := 22) (r2 := 2039) C fp_RX12_85 rfl rfl rfl dX12_isState_14 rfl ?_
    refine J_iload_n (i := 1) (p := 1) C dX12_isState_17 rfl rfl rfl ?_
    obtain ⟨g_27, h⟩ := Ok.ofgd h
    refine Jm_iald C rfl rfl g_27 dX12_isState_18 rfl ?_
    refine J_aload_n (i := 0) (p := 0) C dX12_isState_19 rfl rfl rfl ?_
    refine Jm_getI C fp_RX12_26 rfl rfl dX12_isState_20 rfl ?_
    refine J_icmp_ne (t := 30) C dX12_isState_23 (by decide) rfl (fun c_28 => ?_) (fun c_28 => ?_)
    · have h := h.neg c_28
      exact hj_30  h
    · have h := h.pos (Decidable.not_not.mp c_28)
      refine J_iconst (v := 1) C (by decide) dX12_isState_26 rfl ?_
      refine J_goto (t := 31) C dX12_isState_27 (by decide) ?_
      exact hj_31 (1 : Int32) h
def f12_errors_j131 (μ_131 : Sto) (s1_131 : Int32) (s2_131 : Int32) : Option (Int32 × Sto) :=
  bnd (f12_told μ_131 (s1_131 + s2_131)) fun p_1 =>
  some (p_1.1, p_1.2)
def f12_errors_b95 (μ_95 : Sto) (l1_95 : Int32) (l3_95 : Int32) (l4_95 : Int32) : Option ((Sto × Int32) ⊕ Sto) :=
  if l3_95 ≤ l4_95 then
    some (.inr μ_95)
  else
    bnd (f12_redo μ_95 (1 : Int32)) fun p_5 =>
    stp p_5.1 fun x5_1 =>
    stp (l4_95 + (1 : Int32)) fun x4_2 =>
    some (.inl (p_5.2, x4_2))
def f12_errors_j95 (μ_95 : Sto) (l1_95 : Int32) (l3_95 : Int32) (l4_95 : Int32) : Option (Int32 × Sto) :=
  bnd (loopF (fun s_95 => f12_errors_b95 s_95.1 l1_95 l3_95 s_95.2) FU (μ_95, l4_95)) fun r_95 =>
    bnd (f12_isState r_95 (300 : Int32)) fun p_6 =>
    if p_6 = 0 then
      f12_errors_j131 r_95 l1_95 (1 : Int32)
    else
      f12_errors_j131 r_95 l1_95 (0 : Int32)
def f12_errors_b73 (μ_73 : Sto) (l1_73 : Int32) (l3_73 : Int32) (l4_73 : Int32) : Option ((Sto × Int32) ⊕ Sto) :=
  if l3_73 ≤ l4_73 then
    some (.inr μ_73)
  else
    bnd (f12_undo μ_73 (1 : Int32)) fun p_9 =>
    stp p_9.1 fun x5_4 =>
    stp (l4_73 + (1 : Int32)) fun x4_5 =>
    some (.inl (p_9.2, x4_5))
def f12_errors_j73 (μ_73 : Sto) (l1_73 : Int32) (l3_73 : Int32) (l4_73 : Int32) : Option (Int32 × Sto) :=
  bnd (loopF (fun s_73 => f12_errors_b73 s_73.1 l1_73 l3_73 s_73.2) FU (μ_73, l4_73)) fun r_73 =>
    stp (0 : Int32) fun x4_6 =>
    f12_errors_j95 r_73 l1_73 l3_73 x4_6
def f12_errors_j57 (μ_20 : Sto) (l2_20 : Int32) (l3_57 : Int32) (s0_57 : Int32) (s1_57 : Int32) : Option ((Int32 × Int32) ⊕ Int32) :=
  stp (s0_57 + s1_57) fun x1_7 =>
  stp (l3_57 + (1 : Int32)) fun x3_8 =>
  some (.inl (x1_7, x3_8))
def f12_errors_j52 (μ_20 : Sto) (l2_20 : Int32) (l3_52 : Int32) (s0_52 : Int32) : Option ((Int32 × Int32) ⊕ Int32) :=
  f12_errors_j57 μ_20 l2_20 l3_52 s0_52 (0 : Int32)
def f12_errors_b20 (μ_20 : Sto) (l1_20 : Int32) (l2_20 : Int32) (l3_20 : Int32) : Option ((Int32 × Int32) ⊕ Int32) :=
  if l2_20 ≤ l3_20 then
    some (.inr l1_20)
  else
    bnd (f12_beginOf μ_20 l3_20) fun p_12 =>
    stp p_12 fun x4_11 =>
    if x4_11 = 0 then
      f12_errors_j52 μ_20 l2_20 l3_20 l1_20
    else
      gd (inb (x4_11 - (1 : Int32)) 3000) <|
      if (aI μ_20 2018 (Int32.toNatClampNeg (x4_11 - (1 : Int32)))) = (10 : Int32) then
        f12_errors_j52 μ_20 l2_20 l3_20 l1_20
      else
        f12_errors_j57 μ_20 l2_20 l3_20 l1_20 (1 : Int32)
def f12_errors_j20 (μ_20 : Sto) (l1_20 : Int32) (l2_20 : Int32) (l3_20 : Int32) : Option (Int32 × Sto) :=
  bnd (loopF (fun s_20 => f12_errors_b20 μ_20 s_20.1 l2_20 s_20.2) FU (l1_20, l3_20)) fun r_20 =>
    bnd (f12_depth μ_20) fun p_16 =>
    stp p_16 fun x3_12 =>
    stp (0 : Int32) fun x4_13 =>
    f12_errors_j73 μ_20 r_20 x3_12 x4_13
def f12_errors (μ : Sto) : Option (Int32 × Sto) :=
  bnd (f12_closes μ) fun p_17 =>
  bnd (f12_keeps p_17 (300 : Int32)) fun p_18 =>
  stp (0 : Int32) fun x1_14 =>
  bnd (f12_lines p_18) fun p_19 =>
  stp p_19 fun x2_15 =>
  stp (0 : Int32) fun x3_16 =>
  f12_errors_j20 p_18 x1_14 x2_15 x3_16
set_option maxHeartbeats 4000000 in
set_option maxRecDepth 100000 in
theorem k12_errors {l : Launch} {K : JK} (hl : l.stackTraces = false) {σ μ : Sto} {o : Int64}   {Qf : Int32 × Sto → Prop} (h : Ok (f12_errors μ) Qf) : Con l K yX12_errors (.code yX12_errors cX12_errors 6 (some .int) :: TB) 2 0 0 False [.ref (K.2.2 + 2017)] 2055 (jw K σ μ o) (PR Qf (fun p => some (.int p.1)) (fun p => jw K σ p.2 o)) PN := by
  refine Con.enter (own := RX12) hl (by decide) rfl (Nat.le_of_ble_eq_true rfl) ?_
  intro X hX hR C hret hnt
  generalize hQQ : jQ X K 0 0 (PR Qf (fun p => some (.int p.1)) (fun p => jw K σ p.2 o)) PN False = QQ
  change J X K 6 False QQ 0 0 2055 (jw K σ μ o) 0 [(0, .ref (K.2.2 + 2017))] []
  have hj_131 : (∀ (μ_131 : Sto) (s1_131 : Int32) (s2_131 : Int32), Ok (f12_errors_j131 μ_131 s1_131 s2_131) Qf → J X K 6 False QQ 0 0 2055 (jw K σ μ_131 o) 131 [] [.int s2_131, .int s1_131, .ref (K.2.2 + 2017)]) := by
    intro μ_131 s1_131 s2_131 h
    unfold f12_errors_j131 at h
    refine J_iadd C dX12_errors_131 rfl ?_
    refine Jm_cV (rest := []) (st9 := fun p_1 => [.int p_1.1]) C hR hX cv_RX12_209 rfl (Nat.le_of_ble_eq_true rfl) (k12_told hl  (Ok.ofbnd h)) rfl rfl (Nat.le_of_ble_eq_true rfl) (Nat.le_of_ble_eq_true rfl) (Nat.le_of_ble_eq_true rfl) ⟨(Nat.le_of_ble_eq_true rfl), (Nat.le_of_ble_eq_true rfl)⟩ dX12_errors_132 rfl (fun E n9 w9 hx => JT_n hx) (fun _ => rfl) (fun p_1 h => ?_)
    have h : Ok _ _ := h
    change J X K 6 False QQ 0 0 2055 (jw K σ p_1.2 o) 135 [] [.int p_1.1]
    rw [← hQQ]
    exact J_iret C hret (Nat.le_of_ble_eq_true rfl) (Nat.le_of_ble_eq_true rfl) ⟨_, h.osome, rfl, rfl, rfl⟩ dX12_errors_135
  have hj_95 : (∀ (μ_95 : Sto) (l1_95 : Int32) (l3_95 : Int32) (l4_95 : Int32), Ok (f12_errors_j95 μ_95 l1_95 l3_95 l4_95) Qf → J X K 6 False QQ 0 0 2055 (jw K σ μ_95 o) 95 [(0, .ref (K.2.2 + 2017)), (1, .int l1_95), (3, .int l3_95), (4, .int l4_95)] []) := by
    intro μ_95 l1_95 l3_95 l4_95 h
    unfold f12_errors_j95 at h
    refine loop_gen (S := Sto × Int32) (P := fun s_95 => J X K 6 False QQ 0 0 2055 (jw K σ s_95.1 o) 95 [(0, .ref (K.2.2 + 2017)), (1, .int l1_95), (3, .int l3_95), (4, .int s_95.2)] []) ?_ FU (μ_95, l4_95) (Ok.ofbnd h)
    intro B_95 hB_95 hE_95 s_95 h
    obtain ⟨μ_95, l4_95⟩ := s_95
    have h : Ok (f12_errors_b95 μ_95 l1_95 l3_95 l4_95) B_95 := h
    change J X K 6 False QQ 0 0 2055 (jw K σ μ_95 o) 95 [(0, .ref (K.2.2 + 2017)), (1, .int l1_95), (3, .int l3_95), (4, .int l4_95)] []
    unfold f12_errors_b95 at h
    refine J_iload (i := 4) (p := 3) C dX12_errors_95 rfl rfl ?_
    refine J_iload_n (i := 3) (p := 2) C dX12_errors_97 rfl rfl rfl ?_
    refine J_icmp_ge (t := 114) C dX12_errors_98 (by decide) rfl (fun c_2 => ?_) (fun c_2 => ?_)
    · have h := h.pos c_2
      have h := hE_95 μ_95 h.osome
      try dsimp only at h
      refine J_aload_n (i := 0) (p := 0) C dX12_errors_114 rfl rfl rfl ?_
      refine J_iload_n (i := 1) (p := 1) C dX12_errors_115 rfl rfl rfl ?_
      refine J_aload_n (i := 0) (p := 0) C dX12_errors_116 rfl rfl rfl ?_
      refine J_sipush (v := 300) C (by decide) dX12_errors_117 rfl ?_
      refine Jm_cV (rest := [.int l1_95, .ref (K.2.2 + 2017)]) (st9 := fun p_3 => [.int p_3, .int l1_95, .ref (K.2.2 + 2017)]) C hR hX cv_RX12_392 rfl (Nat.le_of_ble_eq_true rfl) (k12_isState hl  (Ok.ofbnd h)) rfl rfl (Nat.le_of_ble_eq_true rfl) (Nat.le_of_ble_eq_true rfl) (Nat.le_of_ble_eq_true rfl) ⟨(Nat.le_of_ble_eq_true rfl), (Nat.le_of_ble_eq_true rfl)⟩ dX12_errors_120 rfl (fun E n9 w9 hx => JT_n hx) (fun _ => rfl) (fun p_3 h => ?_)
      have h : Ok _ _ := h
      change J X K 6 False QQ 0 0 2055 (jw K σ μ_95 o) 123 [(0, .ref (K.2.2 + 2017)), (1, .int l1_95), (3, .int l3_95), (4, .int l4_95)] [.int p_3, .int l1_95, .ref (K.2.2 + 2017)]
      refine J_if_eq (t := 130) C dX12_errors_123 (by decide) rfl (fun c_4 => ?_) (fun c_4 => ?_)
      · have h := h.pos c_4
        refine J_iconst (v := 1) C (by decide) dX12_errors_130 rfl ?_
        refine J.sub [] rfl ?_
        exact hj_131 μ_95 l1_95 (1 : Int32) h
      · have h := h.neg c_4
        refine J_iconst (v := 0) C (by decide) dX12_errors_126 rfl ?_
        refine J_goto (t := 131) C dX12_errors_127 (by decide) ?_
        refine J.sub [] rfl ?_
        exact hj_131 μ_95 l1_95 (0 : Int32) h
    · have h := h.neg c_2
      refine J_aload_n (i := 0) (p := 0) C dX12_errors_101 rfl rfl rfl ?_
      refine J_iconst (v := 1) C (by decide) dX12_errors_102 rfl ?_
      refine Jm_cV (rest := []) (st9 := fun p_5 => [.int p_5.1]) C hR hX cv_RX12_389 rfl (Nat.le_of_ble_eq_true rfl) (k12_redo hl  (Ok.ofbnd h)) rfl rfl (Nat.le_of_ble_eq_true rfl) (Nat.le_of_ble_eq_true rfl) (Nat.le_of_ble_eq_true rfl) ⟨(Nat.le_of_ble_eq_true rfl), (Nat.le_of_ble_eq_true rfl)⟩ dX12_errors_103 rfl (fun E n9 w9 hx => JT_n hx) (fun _ => rfl) (fun p_5 h => ?_)
      have h : Ok _ _ := h
      change J X K 6 False QQ 0 0 2055 (jw K σ p_5.2 o) 106 [(0, .ref (K.2.2 + 2017)), (1, .int l1_95), (3, .int l3_95), (4, .int l4_95)] [.int p_5.1]
      obtain ⟨x5_1, e_x5_1, h⟩ := Ok.nm h
      refine J_istoreE (i := 5) (lv' := [(5, .int x5_1), (0, .ref (K.2.2 + 2017)), (1, .int l1_95), (3, .int l3_95), (4, .int l4_95)]) C e_x5_1 dX12_errors_106 (Nat.le_of_ble_eq_true rfl) rfl rfl ?_
      obtain ⟨x4_2, e_x4_2, h⟩ := Ok.nm h
      refine J_iincE (i := 4) (p := 4) (lv' := [(4, .int x4_2), (5, .int x5_1), (0, .ref (K.2.2 + 2017)), (1, .int l1_95), (3, .int l3_95)]) C e_x4_2 dX12_errors_108 rfl (by decide) (Nat.le_of_ble_eq_true rfl) rfl rfl ?_
      refine J_goto (t := 95) C dX12_errors_111 (by decide) ?_
      refine J.sub [2, 3, 4, 0] rfl ?_
      exact hB_95 (p_5.2, x4_2) h.osome
  have hj_73 : (∀ (μ_73 : Sto) (l1_73 : Int32) (l3_73 : Int32) (l4_73 : Int32), Ok (f12_errors_j73 μ_73 l1_73 l3_73 l4_73) Qf → J X K 6 False QQ 0 0 2055 (jw K σ μ_73 o) 73 [(0, .ref (K.2.2 + 2017)), (1, .int l1_73), (3, .int l3_73), (4, .int l4_73)] []) := by
    intro μ_73 l1_73 l3_73 l4_73 h
    unfold f12_errors_j73 at h
    refine loop_gen (S := Sto × Int32) (P := fun s_73 => J X K 6 False QQ 0 0 2055 (jw K σ s_73.1 o) 73 [(0, .ref (K.2.2 + 2017)), (1, .int l1_73), (3, .int l3_73), (4, .int s_73.2)] []) ?_ FU (μ_73, l4_73) (Ok.ofbnd h)
    intro B_73 hB_73 hE_73 s_73 h
    obtain ⟨μ_73, l4_73⟩ := s_73
    have h : Ok (f12_errors_b73 μ_73 l1_73 l3_73 l4_73) B_73 := h
    change J X K 6 False QQ 0 0 2055 (jw K σ μ_73 o) 73 [(0, .ref (K.2.2 + 2017)), (1, .int l1_73), (3, .int l3_73), (4, .int l4_73)] []
    unfold f12_errors_b73 at h
    refine J_iload (i := 4) (p := 3) C dX12_errors_73 rfl rfl ?_
    refine J_iload_n (i := 3) (p := 2) C dX12_errors_75 rfl rfl rfl ?_
    refine J_icmp_ge (t := 92) C dX12_errors_76 (by decide) rfl (fun c_8 => ?_) (fun c_8 => ?_)
    · have h := h.pos c_8
      have h := hE_73 μ_73 h.osome
      try dsimp only at h
      refine J_iconst (v := 0) C (by decide) dX12_errors_92 rfl ?_
      obtain ⟨x4_3, e_x4_3, h⟩ := Ok.nm h
      refine J_istoreE (i := 4) (lv' := [(4, .int x4_3), (0, .ref (K.2.2 + 2017)), (1, .int l1_73), (3, .int l3_73)]) C e_x4_3 dX12_errors_93 (Nat.le_of_ble_eq_true rfl) rfl rfl ?_
      refine J.sub [1, 2, 3, 0] rfl ?_
      exact hj_95 μ_73 l1_73 l3_73 x4_3 h
    · have h := h.neg c_8
      refine J_aload_n (i := 0) (p := 0) C dX12_errors_79 rfl rfl rfl ?_
      refine J_iconst (v := 1) C (by decide) dX12_errors_80 rfl ?_
      refine Jm_cV (rest := []) (st9 := fun p_9 => [.int p_9.1]) C hR hX cv_RX12_386 rfl (Nat.le_of_ble_eq_true rfl) (k12_undo hl  (Ok.ofbnd h)) rfl rfl (Nat.le_of_ble_eq_true rfl) (Nat.le_of_ble_eq_true rfl) (Nat.le_of_ble_eq_true rfl) ⟨(Nat.le_of_ble_eq_true rfl), (Nat.le_of_ble_eq_true rfl)⟩ dX12_errors_81 rfl (fun E n9 w9 hx => JT_n hx) (fun _ => rfl) (fun p_9 h => ?_)
      have h : Ok _ _ := h
      change J X K 6 False QQ 0 0 2055 (jw K σ p_9.2 o) 84 [(0, .ref (K.2.2 + 2017)), (1, .int l1_73), (3, .int l3_73), (4, .int l4_73)] [.int p_9.1]
      obtain ⟨x5_4, e_x5_4, h⟩ := Ok.nm h
      refine J_istoreE (i := 5) (lv' := [(5, .int x5_4), (0, .ref (K.2.2 + 2017)), (1, .int l1_73), (3, .int l3_73), (4, .int l4_73)]) C e_x5_4 dX12_errors_84 (Nat.le_of_ble_eq_true rfl) rfl rfl ?_
      obtain ⟨x4_5, e_x4_5, h⟩ := Ok.nm h
      refine J_iincE (i := 4) (p := 4) (lv' := [(4, .int x4_5), (5, .int x5_4), (0, .ref (K.2.2 + 2017)), (1, .int l1_73), (3, .int l3_73)]) C e_x4_5 dX12_errors_86 rfl (by decide) (Nat.le_of_ble_eq_true rfl) rfl rfl ?_
      refine J_goto (t := 73) C dX12_errors_89 (by decide) ?_
      refine J.sub [2, 3, 4, 0] rfl ?_
      exact hB_73 (p_9.2, x4_5) h.osome
  have hj_20 : (∀ (μ_20 : Sto) (l1_20 : Int32) (l2_20 : Int32) (l3_20 : Int32), Ok (f12_errors_j20 μ_20 l1_20 l2_20 l3_20) Qf → J X K 6 False QQ 0 0 2055 (jw K σ μ_20 o) 20 [(0, .ref (K.2.2 + 2017)), (1, .int l1_20), (2, .int l2_20), (3, .int l3_20)] []) := by
    intro μ_20 l1_20 l2_20 l3_20 h
    unfold f12_errors_j20 at h
    refine loop_gen (S := Int32 × Int32) (P := fun s_20 => J X K 6 False QQ 0 0 2055 (jw K σ μ_20 o) 20 [(0, .ref (K.2.2 + 2017)), (1, .int s_20.1), (2, .int l2_20), (3, .int s_20.2)] []) ?_ FU (l1_20, l3_20) (Ok.ofbnd h)
    intro B_20 hB_20 hE_20 s_20 h
    obtain ⟨l1_20, l3_20⟩ := s_20
    have h : Ok (f12_errors_b20 μ_20 l1_20 l2_20 l3_20) B_20 := h
    change J X K 6 False QQ 0 0 2055 (jw K σ μ_20 o) 20 [(0, .ref (K.2.2 + 2017)), (1, .int l1_20), (2, .int l2_20), (3, .int l3_20)] []
    have hj_57 : (∀ (l3_57 : Int32) (s0_57 : Int32) (s1_57 : Int32), Ok (f12_errors_j57 μ_20 l2_20 l3_57 s0_57 s1_57) B_20 → J X K 6 False QQ 0 0 2055 (jw K σ μ_20 o) 57 [(0, .ref (K.2.2 + 2017)), (2, .int l2_20), (3, .int l3_57)] [.int s1_57, .int s0_57]) := by
      intro l3_57 s0_57 s1_57 h
      unfold f12_errors_j57 at h
      refine J_iadd C dX12_errors_57 rfl ?_
      obtain ⟨x1_7, e_x1_7, h⟩ := Ok.nm h
      refine J_istoreE_n (i := 1) (lv' := [(1, .int x1_7), (0, .ref (K.2.2 + 2017)), (2, .int l2_20), (3, .int l3_57)]) C e_x1_7 dX12_errors_58 rfl (Nat.le_of_ble_eq_true rfl) rfl rfl ?_
      obtain ⟨x3_8, e_x3_8, h⟩ := Ok.nm h
      refine J_iincE (i := 3) (p := 3) (lv' := [(3, .int x3_8), (1, .int x1_7), (0, .ref (K.2.2 + 2017)), (2, .int l2_20)]) C e_x3_8 dX12_errors_59 rfl (by decide) (Nat.le_of_ble_eq_true rfl) rfl rfl ?_
      refine J_goto (t := 20) C dX12_errors_62 (by decide) ?_
      refine J.sub [2, 1, 3, 0] rfl ?_
      exact hB_20 (x1_7, x3_8) h.osome
    have hj_52 : (∀ (l3_52 : Int32) (s0_52 : Int32), Ok (f12_errors_j52 μ_20 l2_20 l3_52 s0_52) B_20 → J X K 6 False QQ 0 0 2055 (jw K σ μ_20 o) 52 [(0, .ref (K.2.2 + 2017)), (2, .int l2_20), (3, .int l3_52)] [.int s0_52]) := by
      intro l3_52 s0_52 h
      unfold f12_errors_j52 at h
      refine J_iconst (v := 0) C (by decide) dX12_errors_52 rfl ?_
      refine J_goto (t := 57) C dX12_errors_53 (by decide) ?_
      exact hj_57 l3_52 s0_52 (0 : Int32) h
    unfold f12_errors_b20 at h
    refine J_iload_n (i := 3) (p := 3) C dX12_errors_20 rfl rfl rfl ?_
    refine J_iload_n (i := 2) (p := 2) C dX12_errors_21 rfl rfl rfl ?_
    refine J_icmp_ge (t := 65) C dX12_errors_22 (by decide) rfl (fun c_10 => ?_) (fun c_10 => ?_)
    · have h := h.pos c_10
      have h := hE_20 l1_20 h.osome
      try dsimp only at h
      refine J_aload_n (i := 0) (p := 0) C dX12_errors_65 rfl rfl rfl ?_
      refine Jm_cV (rest := []) (st9 := fun p_11 => [.int p_11]) C hR hX cv_RX12_313 rfl (Nat.le_of_ble_eq_true rfl) (k12_depth hl  (Ok.ofbnd h)) rfl rfl (Nat.le_of_ble_eq_true rfl) (Nat.le_of_ble_eq_true rfl) (Nat.le_of_ble_eq_true rfl) ⟨(Nat.le_of_ble_eq_true rfl), (Nat.le_of_ble_eq_true rfl)⟩ dX12_errors_66 rfl (fun E n9 w9 hx => JT_n hx) (fun _ => rfl) (fun p_11 h => ?_)
      have h : Ok _ _ := h
      change J X K 6 False QQ 0 0 2055 (jw K σ μ_20 o) 69 [(0, .ref (K.2.2 + 2017)), (1, .int l1_20), (2, .int l2_20), (3, .int l3_20)] [.int p_11]
      obtain ⟨x3_9, e_x3_9, h⟩ := Ok.nm h
      refine J_istoreE_n (i := 3) (lv' := [(3, .int x3_9), (0, .ref (K.2.2 + 2017)), (1, .int l1_20), (2, .int l2_20)]) C e_x3_9 dX12_errors_69 rfl (Nat.le_of_ble_eq_true rfl) rfl rfl ?_
      refine J_iconst (v := 0) C (by decide) dX12_errors_70 rfl ?_
      obtain ⟨x4_10, e_x4_10, h⟩ := Ok.nm h
      refine J_istoreE (i := 4) (lv' := [(4, .int x4_10), (3, .int x3_9), (0, .ref (K.2.2 + 2017)), (1, .int l1_20), (2, .int l2_20)]) C e_x4_10 dX12_errors_71 (Nat.le_of_ble_eq_true rfl) rfl rfl ?_
      refine J.sub [2, 3, 1, 0] rfl ?_
      exact hj_73 μ_20 l1_20 x3_9 x4_10 h
    · have h := h.neg c_10
      refine J_aload_n (i := 0) (p := 0) C dX12_errors_25 rfl rfl rfl ?_
      refine J_iload_n (i := 3) (p := 3) C dX12_errors_26 rfl rfl rfl ?_
      refine Jm_cV (rest := []) (st9 := fun p_12 => [.int p_12]) C hR hX cv_RX12_145 rfl (Nat.le_of_ble_eq_true rfl) (k12_beginOf hl  (Ok.ofbnd h)) rfl rfl (Nat.le_of_ble_eq_true rfl) (Nat.le_of_ble_eq_true rfl) (Nat.le_of_ble_eq_true rfl) ⟨(Nat.le_of_ble_eq_true rfl), (Nat.le_of_ble_eq_true rfl)⟩ dX12_errors_27 rfl (fun E n9 w9 hx => JT_n hx) (fun _ => rfl) (fun p_12 h => ?_)
      have h : Ok _ _ := h
      change J X K 6 False QQ 0 0 2055 (jw K σ μ_20 o) 30 [(0, .ref (K.2.2 + 2017)), (1, .int l1_20), (2, .int l2_20), (3, .int l3_20)] [.int p_12]
      obtain ⟨x4_11, e_x4_11, h⟩ := Ok.nm h
      refine J_istoreE (i := 4) (lv' := [(4, .int x4_11), (0, .ref (K.2.2 + 2017)), (1, .int l1_20), (2, .int l2_20), (3, .int l3_20)]) C e_x4_11 dX12_errors_30 (Nat.le_of_ble_eq_true rfl) rfl rfl ?_
      refine J_iload_n (i := 1) (p := 2) C dX12_errors_32 rfl rfl rfl ?_
      refine J_iload (i := 4) (p := 0) C dX12_errors_33 rfl rfl ?_
      refine J_if_eq (t := 52) C dX12_errors_35 (by decide) rfl (fun c_13 => ?_) (fun c_13 => ?_)
      · have h := h.pos c_13
        refine J.sub [1, 3, 4] rfl ?_
        exact hj_52 l3_20 l1_20 h
      · have h := h.neg c_13
        refine J_aload_n (i := 0) (p := 1) C dX12_errors_38 rfl rfl rfl ?_
        refine Jm_getS (o2 := 1) (r2 := 2018) C fp_RX12_7 rfl rfl rfl dX12_errors_39 rfl ?_
        refine J_iload (i := 4) (p := 0) C dX12_errors_42 rfl rfl ?_
        refine J_iconst (v := 1) C (by decide) dX12_errors_44 rfl ?_
        refine J_isub C dX12_errors_45 rfl ?_
        obtain ⟨g_14, h⟩ := Ok.ofgd h
        refine Jm_iald C rfl rfl g_14 dX12_errors_46 rfl ?_
        refine J_bipush (v := 10) C (by decide) dX12_errors_47 rfl ?_
        refine J_icmp_ne (t := 56) C dX12_errors_49 (by decide) rfl (fun c_15 => ?_) (fun c_15 => ?_)
        · have h := h.neg c_15
          refine J_iconst (v := 1) C (by decide) dX12_errors_56 rfl ?_
          refine J.sub [1, 3, 4] rfl ?_
          exact hj_57 l3_20 l1_20 (1 : Int32) h
        · have h := h.pos (Decidable.not_not.mp c_15)
          refine J.sub [1, 3, 4] rfl ?_
          exact hj_52 l3_20 l1_20 h
  unfold f12_errors at h
  refine J_aload_n (i := 0) (p := 0) C dX12_errors_0 rfl rfl rfl ?_
  refine Jm_cV (rest := []) (st9 := fun p_17 => []) C hR hX cv_RX12_297 rfl (Nat.le_of_ble_eq_true rfl) (k12_closes hl  (Ok.ofbnd h)) rfl rfl (Nat.le_of_ble_eq_true rfl) (Nat.le_of_ble_eq_true rfl) (Nat.le_of_ble_eq_true rfl) ⟨(Nat.le_of_ble_eq_true rfl), (Nat.le_of_ble_eq_true rfl)⟩ dX12_errors_1 rfl (fun E n9 w9 hx => JT_n hx) (fun _ => rfl) (fun p_17 h => ?_)
  have h : Ok _ _ := h
  change J X K 6 False QQ 0 0 2055 (jw K σ p_17 o) 4 [(0, .ref (K.2.2 + 2017))] []
  refine J_aload_n (i := 0) (p := 0) C dX12_errors_4 rfl rfl rfl ?_
  refine J_sipush (v := 300) C (by decide) dX12_errors_5 rfl ?_
  refine Jm_cV (rest := []) (st9 := fun p_18 => []) C hR hX cv_RX12_191 rfl (Nat.le_of_ble_eq_true rfl) (k12_keeps hl  (Ok.ofbnd h)) rfl rfl (Nat.le_of_ble_eq_true rfl) (Nat.le_of_ble_eq_true rfl) (Nat.le_of_ble_eq_true rfl) ⟨(Nat.le_of_ble_eq_true rfl), (Nat.le_of_ble_eq_true rfl)⟩ dX12_errors_8 rfl (fun E n9 w9 hx => JT_n hx) (fun _ => rfl) (fun p_18 h => ?_)
  have h : Ok _ _ := h
  change J X K 6 False QQ 0 0 2055 (jw K σ p_18 o) 11 [(0, .ref (K.2.2 + 2017))] []
  refine J_iconst (v := 0) C (by decide) dX12_errors_11 rfl ?_
  obtain ⟨x1_14, e_x1_14, h⟩ := Ok.nm h
  refine J_istoreE_n (i := 1) (lv' := [(1, .int x1_14), (0, .ref (K.2.2 + 2017))]) C e_x1_14 dX12_errors_12 rfl (Nat.le_of_ble_eq_true rfl) rfl rfl ?_
  refine J_aload_n (i := 0) (p := 1) C dX12_errors_13 rfl rfl rfl ?_
  refine Jm_cV (rest := []) (st9 := fun p_19 => [.int p_19]) C hR hX cv_RX12_141 rfl (Nat.le_of_ble_eq_true rfl) (k12_lines hl  (Ok.ofbnd h)) rfl rfl (Nat.le_of_ble_eq_true rfl) (Nat.le_of_ble_eq_true rfl) (Nat.le_of_ble_eq_true rfl) ⟨(Nat.le_of_ble_eq_true rfl), (Nat.le_of_ble_eq_true rfl)⟩ dX12_errors_14 rfl (fun E n9 w9 hx => JT_n hx) (fun _ => rfl) (fun p_19 h => ?_)
  have h : Ok _ _ := h
  change J X K 6 False QQ 0 0 2055 (jw K σ p_18 o) 17 [(1, .int x1_14), (0, .ref (K.2.2 + 2017))] [.int p_19]
  obtain ⟨x2_15, e_x2_15, h⟩ := Ok.nm h
  refine J_istoreE_n (i := 2) (lv' := [(2, .int x2_15), (1, .int x1_14), (0, .ref (K.2.2 + 2017))]) C e_x2_15 dX12_errors_17 rfl (Nat.le_of_ble_eq_true rfl) rfl rfl ?_
  refine J_iconst (v := 0) C (by decide) dX12_errors_18 rfl ?_
  obtain ⟨x3_16, e_x3_16, h⟩ := Ok.nm h
  refine J_istoreE_n (i := 3) (lv' := [(3, .int x3_16), (2, .int x2_15), (1, .int x1_14), (0, .ref (K.2.2 + 2017))]) C e_x3_16 dX12_errors_19 rfl (Nat.le_of_ble_eq_true rfl) rfl rfl ?_
  refine J.sub [3, 2, 1, 0] rfl ?_
  exact hj_20 p_18 x1_14 x2_15 x3_16 h
