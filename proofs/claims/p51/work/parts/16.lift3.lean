def f11_indentLine_j61 (l1 : Int32) (l2 : Int32) (σ_61 : Sto) : Option (Sto) :=
  some σ_61
def f11_indentLine_j36 (l1 : Int32) (l2 : Int32) (σ_36 : Sto) (l3_36 : Int32) : Option (Sto) :=
  if 0 ≤ l2 then
    f11_indentLine_j61 l1 l2 σ_36
  else
    bnd (f8_blanksFrom σ_36 1 l3_36 (-l2)) fun p_2 =>
    bnd (f1_addPart σ_36 l3_36 (l3_36 + p_2) (0 : Int32)) fun p_3 =>
    f11_indentLine_j61 l1 l2 p_3
def f11_indentLine (σ : Sto) (l1 : Int32) (l2 : Int32) : Option (Sto) :=
  gd (okr (fR σ 1 2) 12) <|
  gd (inb l1 (ln ((fR σ 1 2) - 1))) <|
  stp (aI σ ((fR σ 1 2) - 1) (Int32.toNatClampNeg l1)) fun x3_1 =>
  if l2 ≤ 0 then
    f11_indentLine_j36 l1 l2 σ x3_1
  else
    bnd (f8_endOf σ 1 l1) fun p_7 =>
    if p_7 ≤ x3_1 then
      f11_indentLine_j36 l1 l2 σ x3_1
    else
      bnd (f1_addPart σ x3_1 x3_1 l2) fun p_9 =>
      f11_indentLine_j36 l1 l2 p_9 x3_1
set_option maxHeartbeats 4000000 in
set_option maxRecDepth 100000 in
theorem k11_indentLine {l : Launch} {K : JK} (hl : l.stackTraces = false) {σ : Sto} {l1 : Int32} {l2 : Int32}  {Qf : Sto → Prop} (h : Ok (f11_indentLine σ l1 l2) Qf) : Con l K yX11_indentLine (.code yX11_indentLine cX11_indentLine 4 none :: TB) 2 0 0 False [.ref (K.2.2 + 0), .int l1, .int l2] 2017 (jw K σ) (PR Qf (fun p => none) (fun p => jw K p)) PN := by
  refine Con.enter (own := RX11) hl (by decide) rfl (Nat.le_of_ble_eq_true rfl) ?_
  intro X hX hR C hret hnt
  generalize hQQ : jQ X K 0 0 (PR Qf (fun p => none) (fun p => jw K p)) PN False = QQ
  change J X K 4 False QQ 0 0 2017 (jw K σ) 0 [(0, .ref (K.2.2 + 0)), (1, .int l1), (2, .int l2)] []
  have hj_61 : (∀ (σ_61 : Sto), Ok (f11_indentLine_j61 l1 l2 σ_61) Qf → J X K 4 False QQ 0 0 2017 (jw K σ_61) 61 [] []) := by
    intro σ_61 h
    unfold f11_indentLine_j61 at h
    rw [← hQQ]
    exact J_vret C hret (Nat.le_of_ble_eq_true rfl) (Nat.le_of_ble_eq_true rfl) ⟨_, h.osome, rfl, rfl, rfl⟩ dX11_indentLine_61
  have hj_36 : (∀ (σ_36 : Sto) (l3_36 : Int32), Ok (f11_indentLine_j36 l1 l2 σ_36 l3_36) Qf → J X K 4 False QQ 0 0 2017 (jw K σ_36) 36 [(0, .ref (K.2.2 + 0)), (2, .int l2), (3, .int l3_36)] []) := by
    intro σ_36 l3_36 h
    unfold f11_indentLine_j36 at h
    refine J_iload_n (i := 2) (p := 1) C dX11_indentLine_36 rfl rfl rfl ?_
    refine J_if_ge (t := 61) C dX11_indentLine_37 (by decide) rfl (fun c_1 => ?_) (fun c_1 => ?_)
    · have h := h.pos c_1
      refine J.sub [] rfl ?_
      exact hj_61 σ_36 h
    · have h := h.neg c_1
      refine J_aload_n (i := 0) (p := 0) C dX11_indentLine_40 rfl rfl rfl ?_
      refine Jc_getS (o2 := 13) (r2 := 13) C fp_RX11_35 rfl rfl rfl dX11_indentLine_41 rfl ?_
      refine J_iload_n (i := 3) (p := 2) C dX11_indentLine_44 rfl rfl rfl ?_
      refine J_iload_n (i := 3) (p := 2) C dX11_indentLine_45 rfl rfl rfl ?_
      refine J_aload_n (i := 0) (p := 0) C dX11_indentLine_46 rfl rfl rfl ?_
      refine Jc_getS (o2 := 1) (r2 := 1) C fp_RX11_10 rfl rfl rfl dX11_indentLine_47 rfl ?_
      refine J_iload_n (i := 3) (p := 2) C dX11_indentLine_50 rfl rfl rfl ?_
      refine J_iload_n (i := 2) (p := 1) C dX11_indentLine_51 rfl rfl rfl ?_
      refine J_ineg C dX11_indentLine_52 rfl ?_
      refine Jc_cV (rest := [.int l3_36, .int l3_36, .ref (K.2.2 + 13)]) (st9 := fun p_2 => [.int p_2, .int l3_36, .int l3_36, .ref (K.2.2 + 13)]) C hR hX cv_RX11_197 rfl (Nat.le_of_ble_eq_true rfl) (k8_blanksFrom hl rfl (Ok.ofbnd h)) rfl rfl (Nat.le_of_ble_eq_true rfl) (Nat.le_of_ble_eq_true rfl) (Nat.le_of_ble_eq_true rfl) ⟨(Nat.le_of_ble_eq_true rfl), (Nat.le_of_ble_eq_true rfl)⟩ dX11_indentLine_53 rfl (fun E n9 w9 hx => JT_n hx) (fun _ => rfl) (fun p_2 h => ?_)
      have h : Ok _ _ := h
      change J X K 4 False QQ 0 0 2017 (jw K σ_36) 56 [(0, .ref (K.2.2 + 0)), (2, .int l2), (3, .int l3_36)] [.int p_2, .int l3_36, .int l3_36, .ref (K.2.2 + 13)]
      refine J_iadd C dX11_indentLine_56 rfl ?_
      refine J_iconst (v := 0) C (by decide) dX11_indentLine_57 rfl ?_
      refine Jc_cV (rest := []) (st9 := fun p_3 => []) C hR hX cv_RX11_156 rfl (Nat.le_of_ble_eq_true rfl) (k1_addPart hl  (Ok.ofbnd h)) rfl rfl (Nat.le_of_ble_eq_true rfl) (Nat.le_of_ble_eq_true rfl) (Nat.le_of_ble_eq_true rfl) ⟨(Nat.le_of_ble_eq_true rfl), (Nat.le_of_ble_eq_true rfl)⟩ dX11_indentLine_58 rfl (fun E n9 w9 hx => JT_n hx) (fun _ => rfl) (fun p_3 h => ?_)
      have h : Ok _ _ := h
      change J X K 4 False QQ 0 0 2017 (jw K p_3) 61 [(0, .ref (K.2.2 + 0)), (2, .int l2), (3, .int l3_36)] []
      refine J.sub [] rfl ?_
      exact hj_61 p_3 h
  unfold f11_indentLine at h
  refine J_aload_n (i := 0) (p := 0) C dX11_indentLine_0 rfl rfl rfl ?_
  refine Jc_getS (o2 := 1) (r2 := 1) C fp_RX11_10 rfl rfl rfl dX11_indentLine_1 rfl ?_
  refine Jc_getD C fp_RX11_188 rfl rfl dX11_indentLine_4 rfl ?_
  refine J_iload_n (i := 1) (p := 1) C dX11_indentLine_7 rfl rfl rfl ?_
  obtain ⟨g_4, h⟩ := Ok.ofgd h
  rw [jv_pos (r := fR σ 1 2) (okr_spec g_4).1]
  obtain ⟨g_5, h⟩ := Ok.ofgd h
  refine Jc_iald C (okr_spec g_4).2 rfl g_5 dX11_indentLine_8 rfl ?_
  obtain ⟨x3_1, e_x3_1, h⟩ := Ok.nm h
  refine J_istoreE_n (i := 3) (lv' := [(3, .int x3_1), (0, .ref (K.2.2 + 0)), (1, .int l1), (2, .int l2)]) C e_x3_1 dX11_indentLine_9 rfl (Nat.le_of_ble_eq_true rfl) rfl rfl ?_
  refine J_iload_n (i := 2) (p := 3) C dX11_indentLine_10 rfl rfl rfl ?_
  refine J_if_le (t := 36) C dX11_indentLine_11 (by decide) rfl (fun c_6 => ?_) (fun c_6 => ?_)
  · have h := h.pos c_6
    refine J.sub [1, 3, 0] rfl ?_
    exact hj_36 σ x3_1 h
  · have h := h.neg c_6
    refine J_aload_n (i := 0) (p := 1) C dX11_indentLine_14 rfl rfl rfl ?_
    refine Jc_getS (o2 := 1) (r2 := 1) C fp_RX11_10 rfl rfl rfl dX11_indentLine_15 rfl ?_
    refine J_iload_n (i := 1) (p := 2) C dX11_indentLine_18 rfl rfl rfl ?_
    refine Jc_cV (rest := []) (st9 := fun p_7 => [.int p_7]) C hR hX cv_RX11_184 rfl (Nat.le_of_ble_eq_true rfl) (k8_endOf hl rfl (Ok.ofbnd h)) rfl rfl (Nat.le_of_ble_eq_true rfl) (Nat.le_of_ble_eq_true rfl) (Nat.le_of_ble_eq_true rfl) ⟨(Nat.le_of_ble_eq_true rfl), (Nat.le_of_ble_eq_true rfl)⟩ dX11_indentLine_19 rfl (fun E n9 w9 hx => JT_n hx) (fun _ => rfl) (fun p_7 h => ?_)
    have h : Ok _ _ := h
    change J X K 4 False QQ 0 0 2017 (jw K σ) 22 [(3, .int x3_1), (0, .ref (K.2.2 + 0)), (1, .int l1), (2, .int l2)] [.int p_7]
    refine J_iload_n (i := 3) (p := 0) C dX11_indentLine_22 rfl rfl rfl ?_
    refine J_icmp_le (t := 36) C dX11_indentLine_23 (by decide) rfl (fun c_8 => ?_) (fun c_8 => ?_)
    · have h := h.pos c_8
      refine J.sub [1, 3, 0] rfl ?_
      exact hj_36 σ x3_1 h
    · have h := h.neg c_8
      refine J_aload_n (i := 0) (p := 1) C dX11_indentLine_26 rfl rfl rfl ?_
      refine Jc_getS (o2 := 13) (r2 := 13) C fp_RX11_35 rfl rfl rfl dX11_indentLine_27 rfl ?_
      refine J_iload_n (i := 3) (p := 0) C dX11_indentLine_30 rfl rfl rfl ?_
      refine J_iload_n (i := 3) (p := 0) C dX11_indentLine_31 rfl rfl rfl ?_
      refine J_iload_n (i := 2) (p := 3) C dX11_indentLine_32 rfl rfl rfl ?_
      refine Jc_cV (rest := []) (st9 := fun p_9 => []) C hR hX cv_RX11_156 rfl (Nat.le_of_ble_eq_true rfl) (k1_addPart hl  (Ok.ofbnd h)) rfl rfl (Nat.le_of_ble_eq_true rfl) (Nat.le_of_ble_eq_true rfl) (Nat.le_of_ble_eq_true rfl) ⟨(Nat.le_of_ble_eq_true rfl), (Nat.le_of_ble_eq_true rfl)⟩ dX11_indentLine_33 rfl (fun E n9 w9 hx => JT_n hx) (fun _ => rfl) (fun p_9 h => ?_)
      have h : Ok _ _ := h
      change J X K 4 False QQ 0 0 2017 (jw K p_9) 36 [(3, .int x3_1), (0, .ref (K.2.2 + 0)), (1, .int l1), (2, .int l2)] []
      refine J.sub [1, 3, 0] rfl ?_
      exact hj_36 p_9 x3_1 h
def f11_indent_b58 (l1 : Int32) (l2 : Int32) (l3 : Int32) (σ_58 : Sto) (l4_58 : Int32) : Option ((Sto × Int32) ⊕ Sto) :=
  if l2 < l4_58 then
    some (.inr σ_58)
  else
    bnd (f11_indentLine σ_58 l4_58 l3) fun p_4 =>
    stp (l4_58 + (1 : Int32)) fun x4_2 =>
    some (.inl (p_4, x4_2))
def f11_indent_j58 (l1 : Int32) (l2 : Int32) (l3 : Int32) (σ_58 : Sto) (l4_58 : Int32) : Option ((Int32 × Sto) ⊕ (Nat × Sto)) :=
  bnd (loopF (fun s_58 => f11_indent_b58 l1 l2 l3 s_58.1 s_58.2) FU (σ_58, l4_58)) fun r_58 =>
    stp (fI r_58 13 4) fun x4_3 =>
    bnd (f11_perform r_58) fun p_5 =>
    if p_5.1 = 0 then
      some (.inr (3, p_5.2))
    else
      some (.inl (x4_3, p_5.2))
def f11_indent_j31 (l1 : Int32) (l2 : Int32) (l3 : Int32) (σ_31 : Sto) : Option ((Int32 × Sto) ⊕ (Nat × Sto)) :=
  some (.inr (2, σ_31))
def f11_indent (σ : Sto) (l1 : Int32) (l2 : Int32) (l3 : Int32) : Option ((Int32 × Sto) ⊕ (Nat × Sto)) :=
  bndX (f11_requireLine σ l1) fun p_7 =>
  bndX (f11_requireLine p_7 l2) fun p_8 =>
  if l2 < l1 then
    f11_indent_j31 l1 l2 l3 p_8
  else
    if l3 = 0 then
      f11_indent_j31 l1 l2 l3 p_8
    else
      if l3 < (-8 : Int32) then
        f11_indent_j31 l1 l2 l3 p_8
      else
        if l3 ≤ (8 : Int32) then
          bnd (f1_beginWith p_8 (32 : Int32) (imax l3 (0 : Int32))) fun p_13 =>
          stp l1 fun x4_4 =>
          f11_indent_j58 l1 l2 l3 p_13 x4_4
        else
          f11_indent_j31 l1 l2 l3 p_8
set_option maxHeartbeats 4000000 in
set_option maxRecDepth 100000 in
theorem k11_indent {l : Launch} {K : JK} (hl : l.stackTraces = false) {σ : Sto} {l1 : Int32} {l2 : Int32} {l3 : Int32}  {Qf : (Int32 × Sto) ⊕ (Nat × Sto) → Prop} (h : Ok (f11_indent σ l1 l2 l3) Qf) : Con l K yX11_indent (.code yX11_indent cX11_indent 5 (some .int) :: TB) 7 3 18 False [.ref (K.2.2 + 0), .int l1, .int l2, .int l3] 2017 (jw K σ) (PR (fun p => Qf (.inl p)) (fun p => some (.int p.1)) (fun p => jw K p.2)) (PX Qf (fun s => jw K s)) := by
  refine Con.enter (own := RX11) hl (by decide) rfl (Nat.le_of_ble_eq_true rfl) ?_
  intro X hX hR C hret hnt
  generalize hQQ : jQ X K 3 18 (PR (fun p => Qf (.inl p)) (fun p => some (.int p.1)) (fun p => jw K p.2)) (PX Qf (fun s => jw K s)) False = QQ
  change J X K 5 False QQ 0 0 2017 (jw K σ) 0 [(0, .ref (K.2.2 + 0)), (1, .int l1), (2, .int l2), (3, .int l3)] []
  have hj_58 : (∀ (σ_58 : Sto) (l4_58 : Int32), Ok (f11_indent_j58 l1 l2 l3 σ_58 l4_58) Qf → J X K 5 False QQ 2 12 2017 (jw K σ_58) 58 [(0, .ref (K.2.2 + 0)), (2, .int l2), (3, .int l3), (4, .int l4_58)] []) := by
    intro σ_58 l4_58 h
    unfold f11_indent_j58 at h
    refine loop_gen (S := Sto × Int32) (P := fun s_58 => J X K 5 False QQ 2 12 2017 (jw K s_58.1) 58 [(0, .ref (K.2.2 + 0)), (2, .int l2), (3, .int l3), (4, .int s_58.2)] []) ?_ FU (σ_58, l4_58) (Ok.ofbnd h)
    intro B_58 hB_58 hE_58 s_58 h
    obtain ⟨σ_58, l4_58⟩ := s_58
    have h : Ok (f11_indent_b58 l1 l2 l3 σ_58 l4_58) B_58 := h
    change J X K 5 False QQ 2 12 2017 (jw K σ_58) 58 [(0, .ref (K.2.2 + 0)), (2, .int l2), (3, .int l3), (4, .int l4_58)] []
    unfold f11_indent_b58 at h
    refine J_iload (i := 4) (p := 3) C dX11_indent_58 rfl rfl ?_
    refine J_iload_n (i := 2) (p := 1) C dX11_indent_60 rfl rfl rfl ?_
    refine J_icmp_gt (t := 77) C dX11_indent_61 (by decide) rfl (fun c_1 => ?_) (fun c_1 => ?_)
    · have h := h.pos c_1
      have h := hE_58 σ_58 h.osome
      try dsimp only at h
      refine J_aload_n (i := 0) (p := 0) C dX11_indent_77 rfl rfl rfl ?_
      refine Jc_getS (o2 := 13) (r2 := 13) C fp_RX11_35 rfl rfl rfl dX11_indent_78 rfl ?_
      refine Jc_getI C fp_RX11_179 rfl rfl dX11_indent_81 rfl ?_
      obtain ⟨x4_1, e_x4_1, h⟩ := Ok.nm h
      refine J_istoreE (i := 4) (lv' := [(4, .int x4_1), (0, .ref (K.2.2 + 0)), (2, .int l2), (3, .int l3)]) C e_x4_1 dX11_indent_84 (Nat.le_of_ble_eq_true rfl) rfl rfl ?_
      refine J_aload_n (i := 0) (p := 1) C dX11_indent_86 rfl rfl rfl ?_
      refine Jc_cV (rest := []) (st9 := fun p_2 => [.int p_2.1]) C hR hX cv_RX11_134 rfl (Nat.le_of_ble_eq_true rfl) (k11_perform hl  (Ok.ofbnd h)) rfl rfl (Nat.le_of_ble_eq_true rfl) (Nat.le_of_ble_eq_true rfl) (Nat.le_of_ble_eq_true rfl) ⟨(Nat.le_of_ble_eq_true rfl), (Nat.le_of_ble_eq_true rfl)⟩ dX11_indent_87 rfl (fun E n9 w9 hx => JT_n hx) (fun _ => rfl) (fun p_2 h => ?_)
      have h : Ok _ _ := h
      change J X K 5 False QQ 2 12 2017 (jw K p_2.2) 90 [(4, .int x4_1), (0, .ref (K.2.2 + 0)), (2, .int l2), (3, .int l3)] [.int p_2.1]
      refine J_if_ne (t := 103) C dX11_indent_90 (by decide) rfl (fun c_3 => ?_) (fun c_3 => ?_)
      · have h := h.neg c_3
        refine J_iload (i := 4) (p := 0) C dX11_indent_103 rfl rfl ?_
        rw [← hQQ]
        exact J_iret C hret (Nat.le_of_ble_eq_true rfl) (Nat.le_of_ble_eq_true rfl) ⟨_, h.osome, rfl, rfl, rfl⟩ dX11_indent_105
      · have h := h.pos (Decidable.not_not.mp c_3)
        rw [← hQQ]
        exact J_throw (is := 138) (text := "refused") C hnt th_92 (by decide +kernel) dX11_indent_93 dX11_indent_96 dX11_indent_97 dX11_indent_99 dX11_indent_102 (by rw [hR]; exact (Nat.le_of_ble_eq_true rfl)) (by rw [hR]; exact (Nat.le_of_ble_eq_true rfl)) (by rw [hR]; exact (Nat.le_of_ble_eq_true rfl)) (by rw [hR]; exact (Nat.le_of_ble_eq_true rfl)) (Nat.le_of_ble_eq_true rfl) (Nat.le_of_ble_eq_true rfl) ⟨3, p_2.2, h.osome, rfl, rfl, rfl⟩
    · have h := h.neg c_1
      refine J_aload_n (i := 0) (p := 0) C dX11_indent_64 rfl rfl rfl ?_
      refine J_iload (i := 4) (p := 3) C dX11_indent_65 rfl rfl ?_
      refine J_iload_n (i := 3) (p := 2) C dX11_indent_67 rfl rfl rfl ?_
      refine Jc_cV (rest := []) (st9 := fun p_4 => []) C hR hX cv_RX11_176 rfl (Nat.le_of_ble_eq_true rfl) (k11_indentLine hl  (Ok.ofbnd h)) rfl rfl (Nat.le_of_ble_eq_true rfl) (Nat.le_of_ble_eq_true rfl) (Nat.le_of_ble_eq_true rfl) ⟨(Nat.le_of_ble_eq_true rfl), (Nat.le_of_ble_eq_true rfl)⟩ dX11_indent_68 rfl (fun E n9 w9 hx => JT_n hx) (fun _ => rfl) (fun p_4 h => ?_)
      have h : Ok _ _ := h
      change J X K 5 False QQ 2 12 2017 (jw K p_4) 71 [(0, .ref (K.2.2 + 0)), (2, .int l2), (3, .int l3), (4, .int l4_58)] []
      obtain ⟨x4_2, e_x4_2, h⟩ := Ok.nm h
      refine J_iincE (i := 4) (p := 3) (lv' := [(4, .int x4_2), (0, .ref (K.2.2 + 0)), (2, .int l2), (3, .int l3)]) C e_x4_2 dX11_indent_71 rfl (by decide) (Nat.le_of_ble_eq_true rfl) rfl rfl ?_
      refine J_goto (t := 58) C dX11_indent_74 (by decide) ?_
      refine J.sub [1, 2, 3, 0] rfl ?_
      exact hB_58 (p_4, x4_2) h.osome
  have hj_31 : (∀ (σ_31 : Sto), Ok (f11_indent_j31 l1 l2 l3 σ_31) Qf → J X K 5 False QQ 2 12 2017 (jw K σ_31) 31 [] []) := by
    intro σ_31 h
    unfold f11_indent_j31 at h
    rw [← hQQ]
    exact J_throw (is := 165) (text := "no such range or number") C hnt th_82 (by decide +kernel) dX11_indent_31 dX11_indent_34 dX11_indent_35 dX11_indent_37 dX11_indent_40 (by rw [hR]; exact (Nat.le_of_ble_eq_true rfl)) (by rw [hR]; exact (Nat.le_of_ble_eq_true rfl)) (by rw [hR]; exact (Nat.le_of_ble_eq_true rfl)) (by rw [hR]; exact (Nat.le_of_ble_eq_true rfl)) (Nat.le_of_ble_eq_true rfl) (Nat.le_of_ble_eq_true rfl) ⟨2, σ_31, h.osome, rfl, rfl, rfl⟩
  unfold f11_indent at h
  refine J_aload_n (i := 0) (p := 0) C dX11_indent_0 rfl rfl rfl ?_
  refine J_iload_n (i := 1) (p := 1) C dX11_indent_1 rfl rfl rfl ?_
  refine Jc_cV (rest := []) (st9 := fun p_7 => []) C hR hX cv_RX11_112 rfl (Nat.le_of_ble_eq_true rfl) (k11_requireLine hl  (Ok.ofbndX h)) rfl rfl (Nat.le_of_ble_eq_true rfl) (Nat.le_of_ble_eq_true rfl) (Nat.le_of_ble_eq_true rfl) ⟨(Nat.le_of_ble_eq_true rfl), (Nat.le_of_ble_eq_true rfl)⟩ dX11_indent_2 rfl (fun E n9 w9 hx => by rw [← hQQ]; exact JT_x C hnt (Nat.le_of_ble_eq_true rfl) (Nat.le_of_ble_eq_true rfl) (fun c h => h) E n9 w9 hx) (fun _ => rfl) (fun p_7 h => ?_)
  have h : Ok _ _ := h
  change J X K 5 False QQ 1 6 2017 (jw K p_7) 5 [(0, .ref (K.2.2 + 0)), (1, .int l1), (2, .int l2), (3, .int l3)] []
  refine J_aload_n (i := 0) (p := 0) C dX11_indent_5 rfl rfl rfl ?_
  refine J_iload_n (i := 2) (p := 2) C dX11_indent_6 rfl rfl rfl ?_
  refine Jc_cV (rest := []) (st9 := fun p_8 => []) C hR hX cv_RX11_112 rfl (Nat.le_of_ble_eq_true rfl) (k11_requireLine hl  (Ok.ofbndX h)) rfl rfl (Nat.le_of_ble_eq_true rfl) (Nat.le_of_ble_eq_true rfl) (Nat.le_of_ble_eq_true rfl) ⟨(Nat.le_of_ble_eq_true rfl), (Nat.le_of_ble_eq_true rfl)⟩ dX11_indent_7 rfl (fun E n9 w9 hx => by rw [← hQQ]; exact JT_x C hnt (Nat.le_of_ble_eq_true rfl) (Nat.le_of_ble_eq_true rfl) (fun c h => h) E n9 w9 hx) (fun _ => rfl) (fun p_8 h => ?_)
  have h : Ok _ _ := h
  change J X K 5 False QQ 2 12 2017 (jw K p_8) 10 [(0, .ref (K.2.2 + 0)), (1, .int l1), (2, .int l2), (3, .int l3)] []
  refine J_iload_n (i := 1) (p := 1) C dX11_indent_10 rfl rfl rfl ?_
  refine J_iload_n (i := 2) (p := 2) C dX11_indent_11 rfl rfl rfl ?_
  refine J_icmp_gt (t := 31) C dX11_indent_12 (by decide) rfl (fun c_9 => ?_) (fun c_9 => ?_)
  · have h := h.pos c_9
    refine J.sub [] rfl ?_
    exact hj_31 p_8 h
  · have h := h.neg c_9
    refine J_iload_n (i := 3) (p := 3) C dX11_indent_15 rfl rfl rfl ?_
    refine J_if_eq (t := 31) C dX11_indent_16 (by decide) rfl (fun c_10 => ?_) (fun c_10 => ?_)
    · have h := h.pos c_10
      refine J.sub [] rfl ?_
      exact hj_31 p_8 h
    · have h := h.neg c_10
      refine J_iload_n (i := 3) (p := 3) C dX11_indent_19 rfl rfl rfl ?_
      refine J_bipush (v := -8) C (by decide) dX11_indent_20 rfl ?_
      refine J_icmp_lt (t := 31) C dX11_indent_22 (by decide) rfl (fun c_11 => ?_) (fun c_11 => ?_)
      · have h := h.pos c_11
        refine J.sub [] rfl ?_
        exact hj_31 p_8 h
      · have h := h.neg c_11
        refine J_iload_n (i := 3) (p := 3) C dX11_indent_25 rfl rfl rfl ?_
        refine J_bipush (v := 8) C (by decide) dX11_indent_26 rfl ?_
        refine J_icmp_le (t := 41) C dX11_indent_28 (by decide) rfl (fun c_12 => ?_) (fun c_12 => ?_)
        · have h := h.pos c_12
          refine J_aload_n (i := 0) (p := 0) C dX11_indent_41 rfl rfl rfl ?_
          refine Jc_getS (o2 := 13) (r2 := 13) C fp_RX11_35 rfl rfl rfl dX11_indent_42 rfl ?_
          refine J_bipush (v := 32) C (by decide) dX11_indent_45 rfl ?_
          refine J_iload_n (i := 3) (p := 3) C dX11_indent_47 rfl rfl rfl ?_
          refine J_iconst (v := 0) C (by decide) dX11_indent_48 rfl ?_
          refine J_mmax C hR mm_RX11_167 (Nat.le_of_ble_eq_true rfl) (Nat.le_of_ble_eq_true rfl) (Nat.le_of_ble_eq_true rfl) (Nat.le_of_ble_eq_true rfl) dX11_indent_49 rfl ?_
          refine Jc_cV (rest := []) (st9 := fun p_13 => []) C hR hX cv_RX11_173 rfl (Nat.le_of_ble_eq_true rfl) (k1_beginWith hl  (Ok.ofbnd h)) rfl rfl (Nat.le_of_ble_eq_true rfl) (Nat.le_of_ble_eq_true rfl) (Nat.le_of_ble_eq_true rfl) ⟨(Nat.le_of_ble_eq_true rfl), (Nat.le_of_ble_eq_true rfl)⟩ dX11_indent_52 rfl (fun E n9 w9 hx => JT_n hx) (fun _ => rfl) (fun p_13 h => ?_)
          have h : Ok _ _ := h
          change J X K 5 False QQ 2 12 2017 (jw K p_13) 55 [(0, .ref (K.2.2 + 0)), (1, .int l1), (2, .int l2), (3, .int l3)] []
          refine J_iload_n (i := 1) (p := 1) C dX11_indent_55 rfl rfl rfl ?_
          obtain ⟨x4_4, e_x4_4, h⟩ := Ok.nm h
          refine J_istoreE (i := 4) (lv' := [(4, .int x4_4), (0, .ref (K.2.2 + 0)), (1, .int l1), (2, .int l2), (3, .int l3)]) C e_x4_4 dX11_indent_56 (Nat.le_of_ble_eq_true rfl) rfl rfl ?_
          refine J.sub [1, 3, 4, 0] rfl ?_
          exact hj_58 p_13 x4_4 h
        · have h := h.neg c_12
          refine J.sub [] rfl ?_
          exact hj_31 p_8 h
def f11_breakFor_b51 (l1 : Int32) (l2 : Int32) (l3 : Int32) (σ : Sto) (l4_51 : Int32) : Option (Int32 ⊕ (Unit ⊕ Int32)) :=
  if l2 ≤ l4_51 then
    some (.inr (Sum.inl ()))
  else
    gd (okr (fR σ 1 0) 13) <|
    gd (inb l4_51 (ln ((fR σ 1 0) - 1))) <|
    if (aI σ ((fR σ 1 0) - 1) (Int32.toNatClampNeg l4_51)) = (32 : Int32) then
      some (.inr (Sum.inr l4_51))
    else
      stp (l4_51 + (1 : Int32)) fun x4_1 =>
      some (.inl x4_1)
def f11_breakFor_j51 (l1 : Int32) (l2 : Int32) (l3 : Int32) (σ : Sto) (l4_51 : Int32) : Option (Int32) :=
  bnd (loopF (fun s_51 => f11_breakFor_b51 l1 l2 l3 σ s_51) FU l4_51) fun r_51 =>
    match r_51 with
    | .inl r_51x =>
      some (-1 : Int32)
    | .inr r_51y =>
      some r_51y
def f11_breakFor_b14 (l1 : Int32) (l2 : Int32) (l3 : Int32) (σ : Sto) (l4_14 : Int32) : Option (Int32 ⊕ (Unit ⊕ Int32)) :=
  if l4_14 ≤ l1 then
    some (.inr (Sum.inl ()))
  else
    gd (okr (fR σ 1 0) 13) <|
    gd (inb l4_14 (ln ((fR σ 1 0) - 1))) <|
    if (aI σ ((fR σ 1 0) - 1) (Int32.toNatClampNeg l4_14)) = (32 : Int32) then
      some (.inr (Sum.inr l4_14))
    else
      stp (l4_14 + (-1 : Int32)) fun x4_3 =>
      some (.inl x4_3)
def f11_breakFor_j14 (l1 : Int32) (l2 : Int32) (l3 : Int32) (σ : Sto) (l4_14 : Int32) : Option (Int32) :=
  bnd (loopF (fun s_14 => f11_breakFor_b14 l1 l2 l3 σ s_14) FU l4_14) fun r_14 =>
    match r_14 with
    | .inl r_14x =>
      stp ((l1 + l3) + (1 : Int32)) fun x4_4 =>
      f11_breakFor_j51 l1 l2 l3 σ x4_4
    | .inr r_14y =>
      some r_14y
def f11_breakFor (σ : Sto) (l1 : Int32) (l2 : Int32) (l3 : Int32) : Option (Int32) :=
  if l3 < (l2 - l1) then
    stp (l1 + l3) fun x4_5 =>
    f11_breakFor_j14 l1 l2 l3 σ x4_5
  else
    some (-1 : Int32)
set_option maxHeartbeats 4000000 in
set_option maxRecDepth 100000 in
theorem k11_breakFor {l : Launch} {K : JK} (hl : l.stackTraces = false) {σ : Sto} {l1 : Int32} {l2 : Int32} {l3 : Int32}  {Qf : Int32 → Prop} (h : Ok (f11_breakFor σ l1 l2 l3) Qf) : Con l K yX11_breakFor (.code yX11_breakFor cX11_breakFor 5 (some .int) :: TB) 0 0 0 False [.ref (K.2.2 + 0), .int l1, .int l2, .int l3] 2017 (jw K σ) (PR Qf (fun p => some (.int p)) (fun p => jw K σ)) PN := by
  refine Con.enter (own := RX11) hl (by decide) rfl (Nat.le_of_ble_eq_true rfl) ?_
  intro X hX hR C hret hnt
  generalize hQQ : jQ X K 0 0 (PR Qf (fun p => some (.int p)) (fun p => jw K σ)) PN False = QQ
  change J X K 5 False QQ 0 0 2017 (jw K σ) 0 [(0, .ref (K.2.2 + 0)), (1, .int l1), (2, .int l2), (3, .int l3)] []
  have hj_51 : (∀ (l4_51 : Int32), Ok (f11_breakFor_j51 l1 l2 l3 σ l4_51) Qf → J X K 5 False QQ 0 0 2017 (jw K σ) 51 [(0, .ref (K.2.2 + 0)), (2, .int l2), (4, .int l4_51)] []) := by
    intro l4_51 h
    unfold f11_breakFor_j51 at h
    refine loop_gen (S := Int32) (P := fun s_51 => J X K 5 False QQ 0 0 2017 (jw K σ) 51 [(0, .ref (K.2.2 + 0)), (2, .int l2), (4, .int s_51)] []) ?_ FU l4_51 (Ok.ofbnd h)
    intro B_51 hB_51 hE_51 s_51 h
    generalize s_51 = l4_51 at h ⊢
    have h : Ok (f11_breakFor_b51 l1 l2 l3 σ l4_51) B_51 := h
    change J X K 5 False QQ 0 0 2017 (jw K σ) 51 [(0, .ref (K.2.2 + 0)), (2, .int l2), (4, .int l4_51)] []
    unfold f11_breakFor_b51 at h
    refine J_iload (i := 4) (p := 2) C dX11_breakFor_51 rfl rfl ?_
    refine J_iload_n (i := 2) (p := 1) C dX11_breakFor_53 rfl rfl rfl ?_
    refine J_icmp_ge (t := 81) C dX11_breakFor_54 (by decide) rfl (fun c_1 => ?_) (fun c_1 => ?_)
    · have h := h.pos c_1
      have h := hE_51 (Sum.inl ()) h.osome
      try dsimp only at h
      refine J_iconst (v := -1) C (by decide) dX11_breakFor_81 rfl ?_
      rw [← hQQ]
      exact J_iret C hret (Nat.le_of_ble_eq_true rfl) (Nat.le_of_ble_eq_true rfl) ⟨_, h.osome, rfl, rfl, rfl⟩ dX11_breakFor_82
    · have h := h.neg c_1
      refine J_aload_n (i := 0) (p := 0) C dX11_breakFor_57 rfl rfl rfl ?_
      refine Jc_getS (o2 := 1) (r2 := 1) C fp_RX11_10 rfl rfl rfl dX11_breakFor_58 rfl ?_
      refine Jc_getD C fp_RX11_104 rfl rfl dX11_breakFor_61 rfl ?_
      refine J_iload (i := 4) (p := 2) C dX11_breakFor_64 rfl rfl ?_
      obtain ⟨g_2, h⟩ := Ok.ofgd h
      rw [jv_pos (r := fR σ 1 0) (okr_spec g_2).1]
      obtain ⟨g_3, h⟩ := Ok.ofgd h
      refine Jc_bald C (okr_spec g_2).2 rfl g_3 dX11_breakFor_66 rfl ?_
      refine J_bipush (v := 32) C (by decide) dX11_breakFor_67 rfl ?_
      refine J_icmp_ne (t := 75) C dX11_breakFor_69 (by decide) rfl (fun c_4 => ?_) (fun c_4 => ?_)
      · have h := h.neg c_4
        obtain ⟨x4_1, e_x4_1, h⟩ := Ok.nm h
        refine J_iincE (i := 4) (p := 2) (lv' := [(4, .int x4_1), (0, .ref (K.2.2 + 0)), (2, .int l2)]) C e_x4_1 dX11_breakFor_75 rfl (by decide) (Nat.le_of_ble_eq_true rfl) rfl rfl ?_
        refine J_goto (t := 51) C dX11_breakFor_78 (by decide) ?_
        refine J.sub [1, 2, 0] rfl ?_
        exact hB_51 x4_1 h.osome
      · have h := h.pos (Decidable.not_not.mp c_4)
        have h := hE_51 (Sum.inr l4_51) h.osome
        try dsimp only at h
        refine J_iload (i := 4) (p := 2) C dX11_breakFor_72 rfl rfl ?_
        rw [← hQQ]
        exact J_iret C hret (Nat.le_of_ble_eq_true rfl) (Nat.le_of_ble_eq_true rfl) ⟨_, h.osome, rfl, rfl, rfl⟩ dX11_breakFor_74
  have hj_14 : (∀ (l4_14 : Int32), Ok (f11_breakFor_j14 l1 l2 l3 σ l4_14) Qf → J X K 5 False QQ 0 0 2017 (jw K σ) 14 [(0, .ref (K.2.2 + 0)), (1, .int l1), (2, .int l2), (3, .int l3), (4, .int l4_14)] []) := by
    intro l4_14 h
    unfold f11_breakFor_j14 at h
    refine loop_gen (S := Int32) (P := fun s_14 => J X K 5 False QQ 0 0 2017 (jw K σ) 14 [(0, .ref (K.2.2 + 0)), (1, .int l1), (2, .int l2), (3, .int l3), (4, .int s_14)] []) ?_ FU l4_14 (Ok.ofbnd h)
    intro B_14 hB_14 hE_14 s_14 h
    generalize s_14 = l4_14 at h ⊢
    have h : Ok (f11_breakFor_b14 l1 l2 l3 σ l4_14) B_14 := h
    change J X K 5 False QQ 0 0 2017 (jw K σ) 14 [(0, .ref (K.2.2 + 0)), (1, .int l1), (2, .int l2), (3, .int l3), (4, .int l4_14)] []
    unfold f11_breakFor_b14 at h
    refine J_iload (i := 4) (p := 4) C dX11_breakFor_14 rfl rfl ?_
    refine J_iload_n (i := 1) (p := 1) C dX11_breakFor_16 rfl rfl rfl ?_
    refine J_icmp_le (t := 44) C dX11_breakFor_17 (by decide) rfl (fun c_5 => ?_) (fun c_5 => ?_)
    · have h := h.pos c_5
      have h := hE_14 (Sum.inl ()) h.osome
      try dsimp only at h
      refine J_iload_n (i := 1) (p := 1) C dX11_breakFor_44 rfl rfl rfl ?_
      refine J_iload_n (i := 3) (p := 3) C dX11_breakFor_45 rfl rfl rfl ?_
      refine J_iadd C dX11_breakFor_46 rfl ?_
      refine J_iconst (v := 1) C (by decide) dX11_breakFor_47 rfl ?_
      refine J_iadd C dX11_breakFor_48 rfl ?_
      obtain ⟨x4_2, e_x4_2, h⟩ := Ok.nm h
      refine J_istoreE (i := 4) (lv' := [(4, .int x4_2), (0, .ref (K.2.2 + 0)), (1, .int l1), (2, .int l2), (3, .int l3)]) C e_x4_2 dX11_breakFor_49 (Nat.le_of_ble_eq_true rfl) rfl rfl ?_
      refine J.sub [1, 3, 0] rfl ?_
      exact hj_51 x4_2 h
    · have h := h.neg c_5
      refine J_aload_n (i := 0) (p := 0) C dX11_breakFor_20 rfl rfl rfl ?_
      refine Jc_getS (o2 := 1) (r2 := 1) C fp_RX11_10 rfl rfl rfl dX11_breakFor_21 rfl ?_
      refine Jc_getD C fp_RX11_104 rfl rfl dX11_breakFor_24 rfl ?_
      refine J_iload (i := 4) (p := 4) C dX11_breakFor_27 rfl rfl ?_
      obtain ⟨g_6, h⟩ := Ok.ofgd h
      rw [jv_pos (r := fR σ 1 0) (okr_spec g_6).1]
      obtain ⟨g_7, h⟩ := Ok.ofgd h
      refine Jc_bald C (okr_spec g_6).2 rfl g_7 dX11_breakFor_29 rfl ?_
      refine J_bipush (v := 32) C (by decide) dX11_breakFor_30 rfl ?_
      refine J_icmp_ne (t := 38) C dX11_breakFor_32 (by decide) rfl (fun c_8 => ?_) (fun c_8 => ?_)
      · have h := h.neg c_8
        obtain ⟨x4_3, e_x4_3, h⟩ := Ok.nm h
        refine J_iincE (i := 4) (p := 4) (lv' := [(4, .int x4_3), (0, .ref (K.2.2 + 0)), (1, .int l1), (2, .int l2), (3, .int l3)]) C e_x4_3 dX11_breakFor_38 rfl (by decide) (Nat.le_of_ble_eq_true rfl) rfl rfl ?_
        refine J_goto (t := 14) C dX11_breakFor_41 (by decide) ?_
        refine J.sub [1, 2, 3, 4, 0] rfl ?_
        exact hB_14 x4_3 h.osome
      · have h := h.pos (Decidable.not_not.mp c_8)
        have h := hE_14 (Sum.inr l4_14) h.osome
        try dsimp only at h
        refine J_iload (i := 4) (p := 4) C dX11_breakFor_35 rfl rfl ?_
        rw [← hQQ]
        exact J_iret C hret (Nat.le_of_ble_eq_true rfl) (Nat.le_of_ble_eq_true rfl) ⟨_, h.osome, rfl, rfl, rfl⟩ dX11_breakFor_37
  unfold f11_breakFor at h
  refine J_iload_n (i := 2) (p := 2) C dX11_breakFor_0 rfl rfl rfl ?_
  refine J_iload_n (i := 1) (p := 1) C dX11_breakFor_1 rfl rfl rfl ?_
  refine J_isub C dX11_breakFor_2 rfl ?_
  refine J_iload_n (i := 3) (p := 3) C dX11_breakFor_3 rfl rfl rfl ?_
  refine J_icmp_gt (t := 9) C dX11_breakFor_4 (by decide) rfl (fun c_9 => ?_) (fun c_9 => ?_)
  · have h := h.pos c_9
    refine J_iload_n (i := 1) (p := 1) C dX11_breakFor_9 rfl rfl rfl ?_
    refine J_iload_n (i := 3) (p := 3) C dX11_breakFor_10 rfl rfl rfl ?_
    refine J_iadd C dX11_breakFor_11 rfl ?_
    obtain ⟨x4_5, e_x4_5, h⟩ := Ok.nm h
    refine J_istoreE (i := 4) (lv' := [(4, .int x4_5), (0, .ref (K.2.2 + 0)), (1, .int l1), (2, .int l2), (3, .int l3)]) C e_x4_5 dX11_breakFor_12 (Nat.le_of_ble_eq_true rfl) rfl rfl ?_
    refine J.sub [1, 2, 3, 4, 0] rfl ?_
    exact hj_14 x4_5 h
  · have h := h.neg c_9
    refine J_iconst (v := -1) C (by decide) dX11_breakFor_7 rfl ?_
    rw [← hQQ]
    exact J_iret C hret (Nat.le_of_ble_eq_true rfl) (Nat.le_of_ble_eq_true rfl) ⟨_, h.osome, rfl, rfl, rfl⟩ dX11_breakFor_8
def f11_wrap_j111 (l1 : Int32) (l2 : Int32) (σ_111 : Sto) : Option ((Int32 × Sto) ⊕ (Nat × Sto)) :=
  stp (fI σ_111 13 4) fun x5_1 =>
  bnd (f11_perform σ_111) fun p_1 =>
  if p_1.1 = 0 then
    some (.inr (3, p_1.2))
  else
    some (.inl (x5_1, p_1.2))
def f11_wrap_b65 (l1 : Int32) (l2 : Int32) (σ_65 : Sto) (l3_65 : Int32) (l4_65 : Int32) (l5_65 : Int32) : Option ((Sto × Int32 × Int32) ⊕ Sto) :=
  if (3000 : Int32) ≤ l5_65 then
    some (.inr σ_65)
  else
    if l4_65 = (-1 : Int32) then
      some (.inr σ_65)
    else
      bnd (f1_addPart σ_65 l4_65 (l4_65 + (1 : Int32)) (1 : Int32)) fun p_5 =>
      bnd (f11_breakFor p_5 (l4_65 + (1 : Int32)) l3_65 l2) fun p_6 =>
      stp p_6 fun x4_2 =>
      stp (l5_65 + (1 : Int32)) fun x5_3 =>
      some (.inl (p_5, x4_2, x5_3))
def f11_wrap_j65 (l1 : Int32) (l2 : Int32) (σ_65 : Sto) (l3_65 : Int32) (l4_65 : Int32) (l5_65 : Int32) : Option ((Int32 × Sto) ⊕ (Nat × Sto)) :=
  bnd (loopF (fun s_65 => f11_wrap_b65 l1 l2 s_65.1 l3_65 s_65.2.1 s_65.2.2) FU (σ_65, l4_65, l5_65)) fun r_65 =>
    f11_wrap_j111 l1 l2 r_65
def f11_wrap_j16 (l1 : Int32) (l2 : Int32) (σ_16 : Sto) : Option ((Int32 × Sto) ⊕ (Nat × Sto)) :=
  some (.inr (2, σ_16))
def f11_wrap (σ : Sto) (l1 : Int32) (l2 : Int32) : Option ((Int32 × Sto) ⊕ (Nat × Sto)) :=
  bndX (f11_requireLine σ l1) fun p_7 =>
  if l2 < (1 : Int32) then
    f11_wrap_j16 l1 l2 p_7
  else
    if l2 ≤ (100 : Int32) then
      bnd (f1_beginWith p_7 (10 : Int32) (1 : Int32)) fun p_10 =>
      bnd (f8_endOf p_10 1 l1) fun p_11 =>
      stp p_11 fun x3_4 =>
      gd (okr (fR p_10 1 2) 12) <|
      gd (inb l1 (ln ((fR p_10 1 2) - 1))) <|
      bnd (f11_breakFor p_10 (aI p_10 ((fR p_10 1 2) - 1) (Int32.toNatClampNeg l1)) x3_4 l2) fun p_14 =>
      stp p_14 fun x4_5 =>
      stp (0 : Int32) fun x5_6 =>
      f11_wrap_j65 l1 l2 p_10 x3_4 x4_5 x5_6
    else
      f11_wrap_j16 l1 l2 p_7
set_option maxHeartbeats 4000000 in
set_option maxRecDepth 100000 in
theorem k11_wrap {l : Launch} {K : JK} (hl : l.stackTraces = false) {σ : Sto} {l1 : Int32} {l2 : Int32}  {Qf : (Int32 × Sto) ⊕ (Nat × Sto) → Prop} (h : Ok (f11_wrap σ l1 l2) Qf) : Con l K yX11_wrap (.code yX11_wrap cX11_wrap 6 (some .int) :: TB) 7 2 12 False [.ref (K.2.2 + 0), .int l1, .int l2] 2017 (jw K σ) (PR (fun p => Qf (.inl p)) (fun p => some (.int p.1)) (fun p => jw K p.2)) (PX Qf (fun s => jw K s)) := by
  refine Con.enter (own := RX11) hl (by decide) rfl (Nat.le_of_ble_eq_true rfl) ?_
  intro X hX hR C hret hnt
  generalize hQQ : jQ X K 2 12 (PR (fun p => Qf (.inl p)) (fun p => some (.int p.1)) (fun p => jw K p.2)) (PX Qf (fun s => jw K s)) False = QQ
  change J X K 6 False QQ 0 0 2017 (jw K σ) 0 [(0, .ref (K.2.2 + 0)), (1, .int l1), (2, .int l2)] []
  have hj_111 : (∀ (σ_111 : Sto), Ok (f11_wrap_j111 l1 l2 σ_111) Qf → J X K 6 False QQ 1 6 2017 (jw K σ_111) 111 [(0, .ref (K.2.2 + 0))] []) := by
    intro σ_111 h
    unfold f11_wrap_j111 at h
    refine J_aload_n (i := 0) (p := 0) C dX11_wrap_111 rfl rfl rfl ?_
    refine Jc_getS (o2 := 13) (r2 := 13) C fp_RX11_35 rfl rfl rfl dX11_wrap_112 rfl ?_
    refine Jc_getI C fp_RX11_179 rfl rfl dX11_wrap_115 rfl ?_
    obtain ⟨x5_1, e_x5_1, h⟩ := Ok.nm h
    refine J_istoreE (i := 5) (lv' := [(5, .int x5_1), (0, .ref (K.2.2 + 0))]) C e_x5_1 dX11_wrap_118 (Nat.le_of_ble_eq_true rfl) rfl rfl ?_
    refine J_aload_n (i := 0) (p := 1) C dX11_wrap_120 rfl rfl rfl ?_
    refine Jc_cV (rest := []) (st9 := fun p_1 => [.int p_1.1]) C hR hX cv_RX11_134 rfl (Nat.le_of_ble_eq_true rfl) (k11_perform hl  (Ok.ofbnd h)) rfl rfl (Nat.le_of_ble_eq_true rfl) (Nat.le_of_ble_eq_true rfl) (Nat.le_of_ble_eq_true rfl) ⟨(Nat.le_of_ble_eq_true rfl), (Nat.le_of_ble_eq_true rfl)⟩ dX11_wrap_121 rfl (fun E n9 w9 hx => JT_n hx) (fun _ => rfl) (fun p_1 h => ?_)
    have h : Ok _ _ := h
    change J X K 6 False QQ 1 6 2017 (jw K p_1.2) 124 [(5, .int x5_1), (0, .ref (K.2.2 + 0))] [.int p_1.1]
    refine J_if_ne (t := 137) C dX11_wrap_124 (by decide) rfl (fun c_2 => ?_) (fun c_2 => ?_)
    · have h := h.neg c_2
      refine J_iload (i := 5) (p := 0) C dX11_wrap_137 rfl rfl ?_
      rw [← hQQ]
      exact J_iret C hret (Nat.le_of_ble_eq_true rfl) (Nat.le_of_ble_eq_true rfl) ⟨_, h.osome, rfl, rfl, rfl⟩ dX11_wrap_139
    · have h := h.pos (Decidable.not_not.mp c_2)
      rw [← hQQ]
      exact J_throw (is := 138) (text := "refused") C hnt th_92 (by decide +kernel) dX11_wrap_127 dX11_wrap_130 dX11_wrap_131 dX11_wrap_133 dX11_wrap_136 (by rw [hR]; exact (Nat.le_of_ble_eq_true rfl)) (by rw [hR]; exact (Nat.le_of_ble_eq_true rfl)) (by rw [hR]; exact (Nat.le_of_ble_eq_true rfl)) (by rw [hR]; exact (Nat.le_of_ble_eq_true rfl)) (Nat.le_of_ble_eq_true rfl) (Nat.le_of_ble_eq_true rfl) ⟨3, p_1.2, h.osome, rfl, rfl, rfl⟩
  have hj_65 : (∀ (σ_65 : Sto) (l3_65 : Int32) (l4_65 : Int32) (l5_65 : Int32), Ok (f11_wrap_j65 l1 l2 σ_65 l3_65 l4_65 l5_65) Qf → J X K 6 False QQ 1 6 2017 (jw K σ_65) 65 [(0, .ref (K.2.2 + 0)), (2, .int l2), (3, .int l3_65), (4, .int l4_65), (5, .int l5_65)] []) := by
    intro σ_65 l3_65 l4_65 l5_65 h
    unfold f11_wrap_j65 at h
    refine loop_gen (S := Sto × Int32 × Int32) (P := fun s_65 => J X K 6 False QQ 1 6 2017 (jw K s_65.1) 65 [(0, .ref (K.2.2 + 0)), (2, .int l2), (3, .int l3_65), (4, .int s_65.2.1), (5, .int s_65.2.2)] []) ?_ FU (σ_65, l4_65, l5_65) (Ok.ofbnd h)
    intro B_65 hB_65 hE_65 s_65 h
    obtain ⟨σ_65, l4_65, l5_65⟩ := s_65
    have h : Ok (f11_wrap_b65 l1 l2 σ_65 l3_65 l4_65 l5_65) B_65 := h
    change J X K 6 False QQ 1 6 2017 (jw K σ_65) 65 [(0, .ref (K.2.2 + 0)), (2, .int l2), (3, .int l3_65), (4, .int l4_65), (5, .int l5_65)] []
    unfold f11_wrap_b65 at h
    refine J_iload (i := 5) (p := 4) C dX11_wrap_65 rfl rfl ?_
    refine J_sipush (v := 3000) C (by decide) dX11_wrap_67 rfl ?_
    refine J_icmp_ge (t := 111) C dX11_wrap_70 (by decide) rfl (fun c_3 => ?_) (fun c_3 => ?_)
    · have h := h.pos c_3
      have h := hE_65 σ_65 h.osome
      try dsimp only at h
      refine J.sub [0] rfl ?_
      exact hj_111 σ_65 h
    · have h := h.neg c_3
      refine J_iload (i := 4) (p := 3) C dX11_wrap_73 rfl rfl ?_
      refine J_iconst (v := -1) C (by decide) dX11_wrap_75 rfl ?_
      refine J_icmp_eq (t := 111) C dX11_wrap_76 (by decide) rfl (fun c_4 => ?_) (fun c_4 => ?_)
      · have h := h.pos c_4
        have h := hE_65 σ_65 h.osome
        try dsimp only at h
        refine J.sub [0] rfl ?_
        exact hj_111 σ_65 h
      · have h := h.neg c_4
        refine J_aload_n (i := 0) (p := 0) C dX11_wrap_79 rfl rfl rfl ?_
        refine Jc_getS (o2 := 13) (r2 := 13) C fp_RX11_35 rfl rfl rfl dX11_wrap_80 rfl ?_
        refine J_iload (i := 4) (p := 3) C dX11_wrap_83 rfl rfl ?_
        refine J_iload (i := 4) (p := 3) C dX11_wrap_85 rfl rfl ?_
        refine J_iconst (v := 1) C (by decide) dX11_wrap_87 rfl ?_
        refine J_iadd C dX11_wrap_88 rfl ?_
        refine J_iconst (v := 1) C (by decide) dX11_wrap_89 rfl ?_
        refine Jc_cV (rest := []) (st9 := fun p_5 => []) C hR hX cv_RX11_156 rfl (Nat.le_of_ble_eq_true rfl) (k1_addPart hl  (Ok.ofbnd h)) rfl rfl (Nat.le_of_ble_eq_true rfl) (Nat.le_of_ble_eq_true rfl) (Nat.le_of_ble_eq_true rfl) ⟨(Nat.le_of_ble_eq_true rfl), (Nat.le_of_ble_eq_true rfl)⟩ dX11_wrap_90 rfl (fun E n9 w9 hx => JT_n hx) (fun _ => rfl) (fun p_5 h => ?_)
        have h : Ok _ _ := h
        change J X K 6 False QQ 1 6 2017 (jw K p_5) 93 [(0, .ref (K.2.2 + 0)), (2, .int l2), (3, .int l3_65), (4, .int l4_65), (5, .int l5_65)] []
        refine J_aload_n (i := 0) (p := 0) C dX11_wrap_93 rfl rfl rfl ?_
        refine J_iload (i := 4) (p := 3) C dX11_wrap_94 rfl rfl ?_
        refine J_iconst (v := 1) C (by decide) dX11_wrap_96 rfl ?_
        refine J_iadd C dX11_wrap_97 rfl ?_
        refine J_iload_n (i := 3) (p := 2) C dX11_wrap_98 rfl rfl rfl ?_
        refine J_iload_n (i := 2) (p := 1) C dX11_wrap_99 rfl rfl rfl ?_
        refine Jc_cV (rest := []) (st9 := fun p_6 => [.int p_6]) C hR hX cv_RX11_191 rfl (Nat.le_of_ble_eq_true rfl) (k11_breakFor hl  (Ok.ofbnd h)) rfl rfl (Nat.le_of_ble_eq_true rfl) (Nat.le_of_ble_eq_true rfl) (Nat.le_of_ble_eq_true rfl) ⟨(Nat.le_of_ble_eq_true rfl), (Nat.le_of_ble_eq_true rfl)⟩ dX11_wrap_100 rfl (fun E n9 w9 hx => JT_n hx) (fun _ => rfl) (fun p_6 h => ?_)
        have h : Ok _ _ := h
        change J X K 6 False QQ 1 6 2017 (jw K p_5) 103 [(0, .ref (K.2.2 + 0)), (2, .int l2), (3, .int l3_65), (4, .int l4_65), (5, .int l5_65)] [.int p_6]
        obtain ⟨x4_2, e_x4_2, h⟩ := Ok.nm h
        refine J_istoreE (i := 4) (lv' := [(4, .int x4_2), (0, .ref (K.2.2 + 0)), (2, .int l2), (3, .int l3_65), (5, .int l5_65)]) C e_x4_2 dX11_wrap_103 (Nat.le_of_ble_eq_true rfl) rfl rfl ?_
        obtain ⟨x5_3, e_x5_3, h⟩ := Ok.nm h
        refine J_iincE (i := 5) (p := 4) (lv' := [(5, .int x5_3), (4, .int x4_2), (0, .ref (K.2.2 + 0)), (2, .int l2), (3, .int l3_65)]) C e_x5_3 dX11_wrap_105 rfl (by decide) (Nat.le_of_ble_eq_true rfl) rfl rfl ?_
        refine J_goto (t := 65) C dX11_wrap_108 (by decide) ?_
        refine J.sub [2, 3, 4, 1, 0] rfl ?_
        exact hB_65 (p_5, x4_2, x5_3) h.osome
  have hj_16 : (∀ (σ_16 : Sto), Ok (f11_wrap_j16 l1 l2 σ_16) Qf → J X K 6 False QQ 1 6 2017 (jw K σ_16) 16 [] []) := by
    intro σ_16 h
    unfold f11_wrap_j16 at h
    rw [← hQQ]
    exact J_throw (is := 182) (text := "width is out of range") C hnt th_82 (by decide +kernel) dX11_wrap_16 dX11_wrap_19 dX11_wrap_20 dX11_wrap_22 dX11_wrap_25 (by rw [hR]; exact (Nat.le_of_ble_eq_true rfl)) (by rw [hR]; exact (Nat.le_of_ble_eq_true rfl)) (by rw [hR]; exact (Nat.le_of_ble_eq_true rfl)) (by rw [hR]; exact (Nat.le_of_ble_eq_true rfl)) (Nat.le_of_ble_eq_true rfl) (Nat.le_of_ble_eq_true rfl) ⟨2, σ_16, h.osome, rfl, rfl, rfl⟩
  unfold f11_wrap at h
  refine J_aload_n (i := 0) (p := 0) C dX11_wrap_0 rfl rfl rfl ?_
  refine J_iload_n (i := 1) (p := 1) C dX11_wrap_1 rfl rfl rfl ?_
  refine Jc_cV (rest := []) (st9 := fun p_7 => []) C hR hX cv_RX11_112 rfl (Nat.le_of_ble_eq_true rfl) (k11_requireLine hl  (Ok.ofbndX h)) rfl rfl (Nat.le_of_ble_eq_true rfl) (Nat.le_of_ble_eq_true rfl) (Nat.le_of_ble_eq_true rfl) ⟨(Nat.le_of_ble_eq_true rfl), (Nat.le_of_ble_eq_true rfl)⟩ dX11_wrap_2 rfl (fun E n9 w9 hx => by rw [← hQQ]; exact JT_x C hnt (Nat.le_of_ble_eq_true rfl) (Nat.le_of_ble_eq_true rfl) (fun c h => h) E n9 w9 hx) (fun _ => rfl) (fun p_7 h => ?_)
  have h : Ok _ _ := h
  change J X K 6 False QQ 1 6 2017 (jw K p_7) 5 [(0, .ref (K.2.2 + 0)), (1, .int l1), (2, .int l2)] []
  refine J_iload_n (i := 2) (p := 2) C dX11_wrap_5 rfl rfl rfl ?_
  refine J_iconst (v := 1) C (by decide) dX11_wrap_6 rfl ?_
  refine J_icmp_lt (t := 16) C dX11_wrap_7 (by decide) rfl (fun c_8 => ?_) (fun c_8 => ?_)
  · have h := h.pos c_8
    refine J.sub [] rfl ?_
    exact hj_16 p_7 h
  · have h := h.neg c_8
    refine J_iload_n (i := 2) (p := 2) C dX11_wrap_10 rfl rfl rfl ?_
    refine J_bipush (v := 100) C (by decide) dX11_wrap_11 rfl ?_
    refine J_icmp_le (t := 26) C dX11_wrap_13 (by decide) rfl (fun c_9 => ?_) (fun c_9 => ?_)
    · have h := h.pos c_9
      refine J_aload_n (i := 0) (p := 0) C dX11_wrap_26 rfl rfl rfl ?_
      refine Jc_getS (o2 := 13) (r2 := 13) C fp_RX11_35 rfl rfl rfl dX11_wrap_27 rfl ?_
      refine J_bipush (v := 10) C (by decide) dX11_wrap_30 rfl ?_
      refine J_iconst (v := 1) C (by decide) dX11_wrap_32 rfl ?_
      refine Jc_cV (rest := []) (st9 := fun p_10 => []) C hR hX cv_RX11_173 rfl (Nat.le_of_ble_eq_true rfl) (k1_beginWith hl  (Ok.ofbnd h)) rfl rfl (Nat.le_of_ble_eq_true rfl) (Nat.le_of_ble_eq_true rfl) (Nat.le_of_ble_eq_true rfl) ⟨(Nat.le_of_ble_eq_true rfl), (Nat.le_of_ble_eq_true rfl)⟩ dX11_wrap_33 rfl (fun E n9 w9 hx => JT_n hx) (fun _ => rfl) (fun p_10 h => ?_)
      have h : Ok _ _ := h
      change J X K 6 False QQ 1 6 2017 (jw K p_10) 36 [(0, .ref (K.2.2 + 0)), (1, .int l1), (2, .int l2)] []
      refine J_aload_n (i := 0) (p := 0) C dX11_wrap_36 rfl rfl rfl ?_
      refine Jc_getS (o2 := 1) (r2 := 1) C fp_RX11_10 rfl rfl rfl dX11_wrap_37 rfl ?_
      refine J_iload_n (i := 1) (p := 1) C dX11_wrap_40 rfl rfl rfl ?_
      refine Jc_cV (rest := []) (st9 := fun p_11 => [.int p_11]) C hR hX cv_RX11_184 rfl (Nat.le_of_ble_eq_true rfl) (k8_endOf hl rfl (Ok.ofbnd h)) rfl rfl (Nat.le_of_ble_eq_true rfl) (Nat.le_of_ble_eq_true rfl) (Nat.le_of_ble_eq_true rfl) ⟨(Nat.le_of_ble_eq_true rfl), (Nat.le_of_ble_eq_true rfl)⟩ dX11_wrap_41 rfl (fun E n9 w9 hx => JT_n hx) (fun _ => rfl) (fun p_11 h => ?_)
      have h : Ok _ _ := h
      change J X K 6 False QQ 1 6 2017 (jw K p_10) 44 [(0, .ref (K.2.2 + 0)), (1, .int l1), (2, .int l2)] [.int p_11]
      obtain ⟨x3_4, e_x3_4, h⟩ := Ok.nm h
      refine J_istoreE_n (i := 3) (lv' := [(3, .int x3_4), (0, .ref (K.2.2 + 0)), (1, .int l1), (2, .int l2)]) C e_x3_4 dX11_wrap_44 rfl (Nat.le_of_ble_eq_true rfl) rfl rfl ?_
      refine J_aload_n (i := 0) (p := 1) C dX11_wrap_45 rfl rfl rfl ?_
      refine J_aload_n (i := 0) (p := 1) C dX11_wrap_46 rfl rfl rfl ?_
      refine Jc_getS (o2 := 1) (r2 := 1) C fp_RX11_10 rfl rfl rfl dX11_wrap_47 rfl ?_
      refine Jc_getD C fp_RX11_188 rfl rfl dX11_wrap_50 rfl ?_
      refine J_iload_n (i := 1) (p := 2) C dX11_wrap_53 rfl rfl rfl ?_
      obtain ⟨g_12, h⟩ := Ok.ofgd h
      rw [jv_pos (r := fR p_10 1 2) (okr_spec g_12).1]
      obtain ⟨g_13, h⟩ := Ok.ofgd h
      refine Jc_iald C (okr_spec g_12).2 rfl g_13 dX11_wrap_54 rfl ?_
      refine J_iload_n (i := 3) (p := 0) C dX11_wrap_55 rfl rfl rfl ?_
      refine J_iload_n (i := 2) (p := 3) C dX11_wrap_56 rfl rfl rfl ?_
      refine Jc_cV (rest := []) (st9 := fun p_14 => [.int p_14]) C hR hX cv_RX11_191 rfl (Nat.le_of_ble_eq_true rfl) (k11_breakFor hl  (Ok.ofbnd h)) rfl rfl (Nat.le_of_ble_eq_true rfl) (Nat.le_of_ble_eq_true rfl) (Nat.le_of_ble_eq_true rfl) ⟨(Nat.le_of_ble_eq_true rfl), (Nat.le_of_ble_eq_true rfl)⟩ dX11_wrap_57 rfl (fun E n9 w9 hx => JT_n hx) (fun _ => rfl) (fun p_14 h => ?_)
      have h : Ok _ _ := h
      change J X K 6 False QQ 1 6 2017 (jw K p_10) 60 [(3, .int x3_4), (0, .ref (K.2.2 + 0)), (1, .int l1), (2, .int l2)] [.int p_14]
      obtain ⟨x4_5, e_x4_5, h⟩ := Ok.nm h
      refine J_istoreE (i := 4) (lv' := [(4, .int x4_5), (3, .int x3_4), (0, .ref (K.2.2 + 0)), (1, .int l1), (2, .int l2)]) C e_x4_5 dX11_wrap_60 (Nat.le_of_ble_eq_true rfl) rfl rfl ?_
      refine J_iconst (v := 0) C (by decide) dX11_wrap_62 rfl ?_
      obtain ⟨x5_6, e_x5_6, h⟩ := Ok.nm h
      refine J_istoreE (i := 5) (lv' := [(5, .int x5_6), (4, .int x4_5), (3, .int x3_4), (0, .ref (K.2.2 + 0)), (1, .int l1), (2, .int l2)]) C e_x5_6 dX11_wrap_63 (Nat.le_of_ble_eq_true rfl) rfl rfl ?_
      refine J.sub [3, 5, 2, 1, 0] rfl ?_
      exact hj_65 p_10 x3_4 x4_5 x5_6 h
    · have h := h.neg c_9
      refine J.sub [] rfl ?_
      exact hj_16 p_7 h
def f11_joinLines_b39 (l1 : Int32) (l2 : Int32) (σ_39 : Sto) (l3_39 : Int32) : Option ((Sto × Int32) ⊕ Sto) :=
  if l2 < l3_39 then
    some (.inr σ_39)
  else
    gd (okr (fR σ_39 1 2) 12) <|
    gd (inb l3_39 (ln ((fR σ_39 1 2) - 1))) <|
    stp (aI σ_39 ((fR σ_39 1 2) - 1) (Int32.toNatClampNeg l3_39)) fun x4_1 =>
    bnd (f8_blanksFrom σ_39 1 x4_1 (3000 : Int32)) fun p_6 =>
    bnd (f1_addPart σ_39 (x4_1 - (1 : Int32)) (x4_1 + p_6) (1 : Int32)) fun p_7 =>
    stp (l3_39 + (1 : Int32)) fun x3_2 =>
    some (.inl (p_7, x3_2))
def f11_joinLines_j39 (l1 : Int32) (l2 : Int32) (σ_39 : Sto) (l3_39 : Int32) : Option ((Int32 × Sto) ⊕ (Nat × Sto)) :=
  bnd (loopF (fun s_39 => f11_joinLines_b39 l1 l2 s_39.1 s_39.2) FU (σ_39, l3_39)) fun r_39 =>
    bnd (f11_perform r_39) fun p_8 =>
    if p_8.1 = 0 then
      some (.inr (3, p_8.2))
    else
      some (.inl (fI p_8.2 1 4, p_8.2))
def f11_joinLines (σ : Sto) (l1 : Int32) (l2 : Int32) : Option ((Int32 × Sto) ⊕ (Nat × Sto)) :=
  bndX (f11_requireLine σ l1) fun p_10 =>
  bndX (f11_requireLine p_10 l2) fun p_11 =>
  if l1 ≤ l2 then
    bnd (f1_beginWith p_11 (32 : Int32) (1 : Int32)) fun p_13 =>
    stp (l1 + (1 : Int32)) fun x3_3 =>
    f11_joinLines_j39 l1 l2 p_13 x3_3
  else
    some (.inr (2, p_11))
set_option maxHeartbeats 4000000 in
set_option maxRecDepth 100000 in
theorem k11_joinLines {l : Launch} {K : JK} (hl : l.stackTraces = false) {σ : Sto} {l1 : Int32} {l2 : Int32}  {Qf : (Int32 × Sto) ⊕ (Nat × Sto) → Prop} (h : Ok (f11_joinLines σ l1 l2) Qf) : Con l K yX11_joinLines (.code yX11_joinLines cX11_joinLines 5 (some .int) :: TB) 7 3 18 False [.ref (K.2.2 + 0), .int l1, .int l2] 2017 (jw K σ) (PR (fun p => Qf (.inl p)) (fun p => some (.int p.1)) (fun p => jw K p.2)) (PX Qf (fun s => jw K s)) := by
  refine Con.enter (own := RX11) hl (by decide) rfl (Nat.le_of_ble_eq_true rfl) ?_
  intro X hX hR C hret hnt
  generalize hQQ : jQ X K 3 18 (PR (fun p => Qf (.inl p)) (fun p => some (.int p.1)) (fun p => jw K p.2)) (PX Qf (fun s => jw K s)) False = QQ
  change J X K 5 False QQ 0 0 2017 (jw K σ) 0 [(0, .ref (K.2.2 + 0)), (1, .int l1), (2, .int l2)] []
  have hj_39 : (∀ (σ_39 : Sto) (l3_39 : Int32), Ok (f11_joinLines_j39 l1 l2 σ_39 l3_39) Qf → J X K 5 False QQ 2 12 2017 (jw K σ_39) 39 [(0, .ref (K.2.2 + 0)), (2, .int l2), (3, .int l3_39)] []) := by
    intro σ_39 l3_39 h
    unfold f11_joinLines_j39 at h
    refine loop_gen (S := Sto × Int32) (P := fun s_39 => J X K 5 False QQ 2 12 2017 (jw K s_39.1) 39 [(0, .ref (K.2.2 + 0)), (2, .int l2), (3, .int s_39.2)] []) ?_ FU (σ_39, l3_39) (Ok.ofbnd h)
    intro B_39 hB_39 hE_39 s_39 h
    obtain ⟨σ_39, l3_39⟩ := s_39
    have h : Ok (f11_joinLines_b39 l1 l2 σ_39 l3_39) B_39 := h
    change J X K 5 False QQ 2 12 2017 (jw K σ_39) 39 [(0, .ref (K.2.2 + 0)), (2, .int l2), (3, .int l3_39)] []
    unfold f11_joinLines_b39 at h
    refine J_iload_n (i := 3) (p := 2) C dX11_joinLines_39 rfl rfl rfl ?_
    refine J_iload_n (i := 2) (p := 1) C dX11_joinLines_40 rfl rfl rfl ?_
    refine J_icmp_gt (t := 88) C dX11_joinLines_41 (by decide) rfl (fun c_1 => ?_) (fun c_1 => ?_)
    · have h := h.pos c_1
      have h := hE_39 σ_39 h.osome
      try dsimp only at h
      refine J_aload_n (i := 0) (p := 0) C dX11_joinLines_88 rfl rfl rfl ?_
      refine Jc_cV (rest := []) (st9 := fun p_2 => [.int p_2.1]) C hR hX cv_RX11_134 rfl (Nat.le_of_ble_eq_true rfl) (k11_perform hl  (Ok.ofbnd h)) rfl rfl (Nat.le_of_ble_eq_true rfl) (Nat.le_of_ble_eq_true rfl) (Nat.le_of_ble_eq_true rfl) ⟨(Nat.le_of_ble_eq_true rfl), (Nat.le_of_ble_eq_true rfl)⟩ dX11_joinLines_89 rfl (fun E n9 w9 hx => JT_n hx) (fun _ => rfl) (fun p_2 h => ?_)
      have h : Ok _ _ := h
      change J X K 5 False QQ 2 12 2017 (jw K p_2.2) 92 [(0, .ref (K.2.2 + 0)), (2, .int l2), (3, .int l3_39)] [.int p_2.1]
      refine J_if_ne (t := 105) C dX11_joinLines_92 (by decide) rfl (fun c_3 => ?_) (fun c_3 => ?_)
      · have h := h.neg c_3
        refine J_aload_n (i := 0) (p := 0) C dX11_joinLines_105 rfl rfl rfl ?_
        refine Jc_getS (o2 := 1) (r2 := 1) C fp_RX11_10 rfl rfl rfl dX11_joinLines_106 rfl ?_
        refine Jc_getI C fp_RX11_116 rfl rfl dX11_joinLines_109 rfl ?_
        rw [← hQQ]
        exact J_iret C hret (Nat.le_of_ble_eq_true rfl) (Nat.le_of_ble_eq_true rfl) ⟨_, h.osome, rfl, rfl, rfl⟩ dX11_joinLines_112
      · have h := h.pos (Decidable.not_not.mp c_3)
        rw [← hQQ]
        exact J_throw (is := 138) (text := "refused") C hnt th_92 (by decide +kernel) dX11_joinLines_95 dX11_joinLines_98 dX11_joinLines_99 dX11_joinLines_101 dX11_joinLines_104 (by rw [hR]; exact (Nat.le_of_ble_eq_true rfl)) (by rw [hR]; exact (Nat.le_of_ble_eq_true rfl)) (by rw [hR]; exact (Nat.le_of_ble_eq_true rfl)) (by rw [hR]; exact (Nat.le_of_ble_eq_true rfl)) (Nat.le_of_ble_eq_true rfl) (Nat.le_of_ble_eq_true rfl) ⟨3, p_2.2, h.osome, rfl, rfl, rfl⟩
    · have h := h.neg c_1
      refine J_aload_n (i := 0) (p := 0) C dX11_joinLines_44 rfl rfl rfl ?_
      refine Jc_getS (o2 := 1) (r2 := 1) C fp_RX11_10 rfl rfl rfl dX11_joinLines_45 rfl ?_
      refine Jc_getD C fp_RX11_188 rfl rfl dX11_joinLines_48 rfl ?_
      refine J_iload_n (i := 3) (p := 2) C dX11_joinLines_51 rfl rfl rfl ?_
      obtain ⟨g_4, h⟩ := Ok.ofgd h
      rw [jv_pos (r := fR σ_39 1 2) (okr_spec g_4).1]
      obtain ⟨g_5, h⟩ := Ok.ofgd h
      refine Jc_iald C (okr_spec g_4).2 rfl g_5 dX11_joinLines_52 rfl ?_
      obtain ⟨x4_1, e_x4_1, h⟩ := Ok.nm h
      refine J_istoreE (i := 4) (lv' := [(4, .int x4_1), (0, .ref (K.2.2 + 0)), (2, .int l2), (3, .int l3_39)]) C e_x4_1 dX11_joinLines_53 (Nat.le_of_ble_eq_true rfl) rfl rfl ?_
      refine J_aload_n (i := 0) (p := 1) C dX11_joinLines_55 rfl rfl rfl ?_
      refine Jc_getS (o2 := 13) (r2 := 13) C fp_RX11_35 rfl rfl rfl dX11_joinLines_56 rfl ?_
      refine J_iload (i := 4) (p := 0) C dX11_joinLines_59 rfl rfl ?_
      refine J_iconst (v := 1) C (by decide) dX11_joinLines_61 rfl ?_
      refine J_isub C dX11_joinLines_62 rfl ?_
      refine J_iload (i := 4) (p := 0) C dX11_joinLines_63 rfl rfl ?_
      refine J_aload_n (i := 0) (p := 1) C dX11_joinLines_65 rfl rfl rfl ?_
      refine Jc_getS (o2 := 1) (r2 := 1) C fp_RX11_10 rfl rfl rfl dX11_joinLines_66 rfl ?_
      refine J_iload (i := 4) (p := 0) C dX11_joinLines_69 rfl rfl ?_
      refine J_sipush (v := 3000) C (by decide) dX11_joinLines_71 rfl ?_
      refine Jc_cV (rest := [.int x4_1, .int (x4_1 - (1 : Int32)), .ref (K.2.2 + 13)]) (st9 := fun p_6 => [.int p_6, .int x4_1, .int (x4_1 - (1 : Int32)), .ref (K.2.2 + 13)]) C hR hX cv_RX11_197 rfl (Nat.le_of_ble_eq_true rfl) (k8_blanksFrom hl rfl (Ok.ofbnd h)) rfl rfl (Nat.le_of_ble_eq_true rfl) (Nat.le_of_ble_eq_true rfl) (Nat.le_of_ble_eq_true rfl) ⟨(Nat.le_of_ble_eq_true rfl), (Nat.le_of_ble_eq_true rfl)⟩ dX11_joinLines_74 rfl (fun E n9 w9 hx => JT_n hx) (fun _ => rfl) (fun p_6 h => ?_)
      have h : Ok _ _ := h
      change J X K 5 False QQ 2 12 2017 (jw K σ_39) 77 [(4, .int x4_1), (0, .ref (K.2.2 + 0)), (2, .int l2), (3, .int l3_39)] [.int p_6, .int x4_1, .int (x4_1 - (1 : Int32)), .ref (K.2.2 + 13)]
      refine J_iadd C dX11_joinLines_77 rfl ?_
      refine J_iconst (v := 1) C (by decide) dX11_joinLines_78 rfl ?_
      refine Jc_cV (rest := []) (st9 := fun p_7 => []) C hR hX cv_RX11_156 rfl (Nat.le_of_ble_eq_true rfl) (k1_addPart hl  (Ok.ofbnd h)) rfl rfl (Nat.le_of_ble_eq_true rfl) (Nat.le_of_ble_eq_true rfl) (Nat.le_of_ble_eq_true rfl) ⟨(Nat.le_of_ble_eq_true rfl), (Nat.le_of_ble_eq_true rfl)⟩ dX11_joinLines_79 rfl (fun E n9 w9 hx => JT_n hx) (fun _ => rfl) (fun p_7 h => ?_)
      have h : Ok _ _ := h
      change J X K 5 False QQ 2 12 2017 (jw K p_7) 82 [(4, .int x4_1), (0, .ref (K.2.2 + 0)), (2, .int l2), (3, .int l3_39)] []
      obtain ⟨x3_2, e_x3_2, h⟩ := Ok.nm h
      refine J_iincE (i := 3) (p := 3) (lv' := [(3, .int x3_2), (4, .int x4_1), (0, .ref (K.2.2 + 0)), (2, .int l2)]) C e_x3_2 dX11_joinLines_82 rfl (by decide) (Nat.le_of_ble_eq_true rfl) rfl rfl ?_
      refine J_goto (t := 39) C dX11_joinLines_85 (by decide) ?_
      refine J.sub [2, 3, 0] rfl ?_
      exact hB_39 (p_7, x3_2) h.osome
  unfold f11_joinLines at h
  refine J_aload_n (i := 0) (p := 0) C dX11_joinLines_0 rfl rfl rfl ?_
  refine J_iload_n (i := 1) (p := 1) C dX11_joinLines_1 rfl rfl rfl ?_
  refine Jc_cV (rest := []) (st9 := fun p_10 => []) C hR hX cv_RX11_112 rfl (Nat.le_of_ble_eq_true rfl) (k11_requireLine hl  (Ok.ofbndX h)) rfl rfl (Nat.le_of_ble_eq_true rfl) (Nat.le_of_ble_eq_true rfl) (Nat.le_of_ble_eq_true rfl) ⟨(Nat.le_of_ble_eq_true rfl), (Nat.le_of_ble_eq_true rfl)⟩ dX11_joinLines_2 rfl (fun E n9 w9 hx => by rw [← hQQ]; exact JT_x C hnt (Nat.le_of_ble_eq_true rfl) (Nat.le_of_ble_eq_true rfl) (fun c h => h) E n9 w9 hx) (fun _ => rfl) (fun p_10 h => ?_)
  have h : Ok _ _ := h
  change J X K 5 False QQ 1 6 2017 (jw K p_10) 5 [(0, .ref (K.2.2 + 0)), (1, .int l1), (2, .int l2)] []
  refine J_aload_n (i := 0) (p := 0) C dX11_joinLines_5 rfl rfl rfl ?_
  refine J_iload_n (i := 2) (p := 2) C dX11_joinLines_6 rfl rfl rfl ?_
  refine Jc_cV (rest := []) (st9 := fun p_11 => []) C hR hX cv_RX11_112 rfl (Nat.le_of_ble_eq_true rfl) (k11_requireLine hl  (Ok.ofbndX h)) rfl rfl (Nat.le_of_ble_eq_true rfl) (Nat.le_of_ble_eq_true rfl) (Nat.le_of_ble_eq_true rfl) ⟨(Nat.le_of_ble_eq_true rfl), (Nat.le_of_ble_eq_true rfl)⟩ dX11_joinLines_7 rfl (fun E n9 w9 hx => by rw [← hQQ]; exact JT_x C hnt (Nat.le_of_ble_eq_true rfl) (Nat.le_of_ble_eq_true rfl) (fun c h => h) E n9 w9 hx) (fun _ => rfl) (fun p_11 h => ?_)
  have h : Ok _ _ := h
  change J X K 5 False QQ 2 12 2017 (jw K p_11) 10 [(0, .ref (K.2.2 + 0)), (1, .int l1), (2, .int l2)] []
  refine J_iload_n (i := 1) (p := 1) C dX11_joinLines_10 rfl rfl rfl ?_
  refine J_iload_n (i := 2) (p := 2) C dX11_joinLines_11 rfl rfl rfl ?_
  refine J_icmp_le (t := 25) C dX11_joinLines_12 (by decide) rfl (fun c_12 => ?_) (fun c_12 => ?_)
  · have h := h.pos c_12
    refine J_aload_n (i := 0) (p := 0) C dX11_joinLines_25 rfl rfl rfl ?_
    refine Jc_getS (o2 := 13) (r2 := 13) C fp_RX11_35 rfl rfl rfl dX11_joinLines_26 rfl ?_
    refine J_bipush (v := 32) C (by decide) dX11_joinLines_29 rfl ?_
    refine J_iconst (v := 1) C (by decide) dX11_joinLines_31 rfl ?_
    refine Jc_cV (rest := []) (st9 := fun p_13 => []) C hR hX cv_RX11_173 rfl (Nat.le_of_ble_eq_true rfl) (k1_beginWith hl  (Ok.ofbnd h)) rfl rfl (Nat.le_of_ble_eq_true rfl) (Nat.le_of_ble_eq_true rfl) (Nat.le_of_ble_eq_true rfl) ⟨(Nat.le_of_ble_eq_true rfl), (Nat.le_of_ble_eq_true rfl)⟩ dX11_joinLines_32 rfl (fun E n9 w9 hx => JT_n hx) (fun _ => rfl) (fun p_13 h => ?_)
    have h : Ok _ _ := h
    change J X K 5 False QQ 2 12 2017 (jw K p_13) 35 [(0, .ref (K.2.2 + 0)), (1, .int l1), (2, .int l2)] []
    refine J_iload_n (i := 1) (p := 1) C dX11_joinLines_35 rfl rfl rfl ?_
    refine J_iconst (v := 1) C (by decide) dX11_joinLines_36 rfl ?_
    refine J_iadd C dX11_joinLines_37 rfl ?_
    obtain ⟨x3_3, e_x3_3, h⟩ := Ok.nm h
    refine J_istoreE_n (i := 3) (lv' := [(3, .int x3_3), (0, .ref (K.2.2 + 0)), (1, .int l1), (2, .int l2)]) C e_x3_3 dX11_joinLines_38 rfl (Nat.le_of_ble_eq_true rfl) rfl rfl ?_
    refine J.sub [1, 3, 0] rfl ?_
    exact hj_39 p_13 x3_3 h
  · have h := h.neg c_12
    rw [← hQQ]
    exact J_throw (is := 195) (text := "from is greater than to") C hnt th_82 (by decide +kernel) dX11_joinLines_15 dX11_joinLines_18 dX11_joinLines_19 dX11_joinLines_21 dX11_joinLines_24 (by rw [hR]; exact (Nat.le_of_ble_eq_true rfl)) (by rw [hR]; exact (Nat.le_of_ble_eq_true rfl)) (by rw [hR]; exact (Nat.le_of_ble_eq_true rfl)) (by rw [hR]; exact (Nat.le_of_ble_eq_true rfl)) (Nat.le_of_ble_eq_true rfl) (Nat.le_of_ble_eq_true rfl) ⟨2, p_11, h.osome, rfl, rfl, rfl⟩
def f7_isSet_j15 (σ : Sto) (s0_15 : Int32) : Option (Int32) :=
  gd (isB s0_15) <|
  some s0_15
def f7_isSet (σ : Sto) : Option (Int32) :=
  if (fI σ 1990 1) ≤ 0 then
    f7_isSet_j15 σ (0 : Int32)
  else
    f7_isSet_j15 σ (1 : Int32)
set_option maxHeartbeats 4000000 in
set_option maxRecDepth 100000 in
theorem k7_isSet {l : Launch} {K : JK} (hl : l.stackTraces = false) {σ : Sto}   {Qf : Int32 → Prop} (h : Ok (f7_isSet σ) Qf) : Con l K yX7_isSet (.code yX7_isSet cX7_isSet 1 (some .boolean) :: TB) 0 0 0 False [.ref (K.2.2 + 1989)] 2017 (jw K σ) (PR Qf (fun p => some (.int p)) (fun p => jw K σ)) PN := by
  refine Con.enter (own := RX7) hl (by decide) rfl (Nat.le_of_ble_eq_true rfl) ?_
  intro X hX hR C hret hnt
  generalize hQQ : jQ X K 0 0 (PR Qf (fun p => some (.int p)) (fun p => jw K σ)) PN False = QQ
  change J X K 1 False QQ 0 0 2017 (jw K σ) 0 [(0, .ref (K.2.2 + 1989))] []
  have hj_15 : (∀ (s0_15 : Int32), Ok (f7_isSet_j15 σ s0_15) Qf → J X K 1 False QQ 0 0 2017 (jw K σ) 15 [] [.int s0_15]) := by
    intro s0_15 h
    unfold f7_isSet_j15 at h
    obtain ⟨g_1, h⟩ := Ok.ofgd h
    rw [← hQQ]
    exact J_zret C hret (narB g_1).1 (Nat.le_of_ble_eq_true rfl) (Nat.le_of_ble_eq_true rfl) ⟨_, h.osome, rfl, rfl, rfl⟩ dX7_isSet_15
  unfold f7_isSet at h
  refine J_aload_n (i := 0) (p := 0) C dX7_isSet_0 rfl rfl rfl ?_
  refine Jc_getS (o2 := 1) (r2 := 1990) C fp_RX7_14 rfl rfl rfl dX7_isSet_1 rfl ?_
  refine Jc_getI C fp_RX7_24 rfl rfl dX7_isSet_4 rfl ?_
  refine J_if_le (t := 14) C dX7_isSet_7 (by decide) rfl (fun c_2 => ?_) (fun c_2 => ?_)
  · have h := h.pos c_2
    refine J_iconst (v := 0) C (by decide) dX7_isSet_14 rfl ?_
    refine J.sub [] rfl ?_
    exact hj_15 (0 : Int32) h
  · have h := h.neg c_2
    refine J_iconst (v := 1) C (by decide) dX7_isSet_10 rfl ?_
    refine J_goto (t := 15) C dX7_isSet_11 (by decide) ?_
    refine J.sub [] rfl ?_
    exact hj_15 (1 : Int32) h
def f11_isOfWord_j47 (l0 : Int32) (s0_47 : Int32) : Option (Int32) :=
  gd (isB s0_47) <|
  some s0_47
def f11_isOfWord_j42 (l0 : Int32) : Option (Int32) :=
  f11_isOfWord_j47 l0 (1 : Int32)
def f11_isOfWord_j36 (l0 : Int32) : Option (Int32) :=
  if l0 = (95 : Int32) then
    f11_isOfWord_j42 l0
  else
    f11_isOfWord_j47 l0 (0 : Int32)
def f11_isOfWord_j24 (l0 : Int32) : Option (Int32) :=
  if l0 < (48 : Int32) then
    f11_isOfWord_j36 l0
  else
    if l0 ≤ (57 : Int32) then
      f11_isOfWord_j42 l0
    else
      f11_isOfWord_j36 l0
def f11_isOfWord_j12 (l0 : Int32) : Option (Int32) :=
  if l0 < (65 : Int32) then
    f11_isOfWord_j24 l0
  else
    if l0 ≤ (90 : Int32) then
      f11_isOfWord_j42 l0
    else
      f11_isOfWord_j24 l0
def f11_isOfWord (l0 : Int32) : Option (Int32) :=
  if l0 < (97 : Int32) then
    f11_isOfWord_j12 l0
  else
    if l0 ≤ (122 : Int32) then
      f11_isOfWord_j42 l0
    else
      f11_isOfWord_j12 l0
set_option maxHeartbeats 4000000 in
set_option maxRecDepth 100000 in
theorem k11_isOfWord {l : Launch} {K : JK} (hl : l.stackTraces = false) {σ : Sto} {l0 : Int32}  {Qf : Int32 → Prop} (h : Ok (f11_isOfWord l0) Qf) : Con l K yX11_isOfWord (.code yX11_isOfWord cX11_isOfWord 1 (some .boolean) :: TB) 0 0 0 False [.int l0] 2017 (jw K σ) (PR Qf (fun p => some (.int p)) (fun p => jw K σ)) PN := by
  refine Con.enter (own := RX11) hl (by decide) rfl (Nat.le_of_ble_eq_true rfl) ?_
  intro X hX hR C hret hnt
  generalize hQQ : jQ X K 0 0 (PR Qf (fun p => some (.int p)) (fun p => jw K σ)) PN False = QQ
  change J X K 1 False QQ 0 0 2017 (jw K σ) 0 [(0, .int l0)] []
  have hj_47 : (∀ (s0_47 : Int32), Ok (f11_isOfWord_j47 l0 s0_47) Qf → J X K 1 False QQ 0 0 2017 (jw K σ) 47 [] [.int s0_47]) := by
    intro s0_47 h
    unfold f11_isOfWord_j47 at h
    obtain ⟨g_1, h⟩ := Ok.ofgd h
    rw [← hQQ]
    exact J_zret C hret (narB g_1).1 (Nat.le_of_ble_eq_true rfl) (Nat.le_of_ble_eq_true rfl) ⟨_, h.osome, rfl, rfl, rfl⟩ dX11_isOfWord_47
  have hj_42 : (Ok (f11_isOfWord_j42 l0) Qf → J X K 1 False QQ 0 0 2017 (jw K σ) 42 [] []) := by
    intro h
    unfold f11_isOfWord_j42 at h
    refine J_iconst (v := 1) C (by decide) dX11_isOfWord_42 rfl ?_
    refine J_goto (t := 47) C dX11_isOfWord_43 (by decide) ?_
    exact hj_47 (1 : Int32) h
  have hj_36 : (Ok (f11_isOfWord_j36 l0) Qf → J X K 1 False QQ 0 0 2017 (jw K σ) 36 [(0, .int l0)] []) := by
    intro h
    unfold f11_isOfWord_j36 at h
    refine J_iload_n (i := 0) (p := 0) C dX11_isOfWord_36 rfl rfl rfl ?_
    refine J_bipush (v := 95) C (by decide) dX11_isOfWord_37 rfl ?_
    refine J_icmp_ne (t := 46) C dX11_isOfWord_39 (by decide) rfl (fun c_2 => ?_) (fun c_2 => ?_)
    · have h := h.neg c_2
      refine J_iconst (v := 0) C (by decide) dX11_isOfWord_46 rfl ?_
      refine J.sub [] rfl ?_
      exact hj_47 (0 : Int32) h
    · have h := h.pos (Decidable.not_not.mp c_2)
      refine J.sub [] rfl ?_
      exact hj_42  h
  have hj_24 : (Ok (f11_isOfWord_j24 l0) Qf → J X K 1 False QQ 0 0 2017 (jw K σ) 24 [(0, .int l0)] []) := by
    intro h
    unfold f11_isOfWord_j24 at h
    refine J_iload_n (i := 0) (p := 0) C dX11_isOfWord_24 rfl rfl rfl ?_
    refine J_bipush (v := 48) C (by decide) dX11_isOfWord_25 rfl ?_
    refine J_icmp_lt (t := 36) C dX11_isOfWord_27 (by decide) rfl (fun c_3 => ?_) (fun c_3 => ?_)
    · have h := h.pos c_3
      exact hj_36  h
    · have h := h.neg c_3
      refine J_iload_n (i := 0) (p := 0) C dX11_isOfWord_30 rfl rfl rfl ?_
      refine J_bipush (v := 57) C (by decide) dX11_isOfWord_31 rfl ?_
      refine J_icmp_le (t := 42) C dX11_isOfWord_33 (by decide) rfl (fun c_4 => ?_) (fun c_4 => ?_)
      · have h := h.pos c_4
        refine J.sub [] rfl ?_
        exact hj_42  h
      · have h := h.neg c_4
        exact hj_36  h
  have hj_12 : (Ok (f11_isOfWord_j12 l0) Qf → J X K 1 False QQ 0 0 2017 (jw K σ) 12 [(0, .int l0)] []) := by
    intro h
    unfold f11_isOfWord_j12 at h
    refine J_iload_n (i := 0) (p := 0) C dX11_isOfWord_12 rfl rfl rfl ?_
    refine J_bipush (v := 65) C (by decide) dX11_isOfWord_13 rfl ?_
    refine J_icmp_lt (t := 24) C dX11_isOfWord_15 (by decide) rfl (fun c_5 => ?_) (fun c_5 => ?_)
    · have h := h.pos c_5
      exact hj_24  h
    · have h := h.neg c_5
      refine J_iload_n (i := 0) (p := 0) C dX11_isOfWord_18 rfl rfl rfl ?_
      refine J_bipush (v := 90) C (by decide) dX11_isOfWord_19 rfl ?_
      refine J_icmp_le (t := 42) C dX11_isOfWord_21 (by decide) rfl (fun c_6 => ?_) (fun c_6 => ?_)
      · have h := h.pos c_6
        refine J.sub [] rfl ?_
        exact hj_42  h
      · have h := h.neg c_6
        exact hj_24  h
  unfold f11_isOfWord at h
  refine J_iload_n (i := 0) (p := 0) C dX11_isOfWord_0 rfl rfl rfl ?_
  refine J_bipush (v := 97) C (by decide) dX11_isOfWord_1 rfl ?_
  refine J_icmp_lt (t := 12) C dX11_isOfWord_3 (by decide) rfl (fun c_7 => ?_) (fun c_7 => ?_)
  · have h := h.pos c_7
    exact hj_12  h
  · have h := h.neg c_7
    refine J_iload_n (i := 0) (p := 0) C dX11_isOfWord_6 rfl rfl rfl ?_
    refine J_bipush (v := 122) C (by decide) dX11_isOfWord_7 rfl ?_
    refine J_icmp_le (t := 42) C dX11_isOfWord_9 (by decide) rfl (fun c_8 => ?_) (fun c_8 => ?_)
    · have h := h.pos c_8
      refine J.sub [] rfl ?_
      exact hj_42  h
    · have h := h.neg c_8
      exact hj_12  h
def f7_isFind_j115 (a1 : Nat) (l2 : Int32) (σ : Sto) (s0_115 : Int32) : Option (Int32) :=
  gd (isB s0_115) <|
  some s0_115
def f7_isFind_j114 (a1 : Nat) (l2 : Int32) (σ : Sto) : Option (Int32) :=
  f7_isFind_j115 a1 l2 σ (0 : Int32)
def f7_isFind_j110 (a1 : Nat) (l2 : Int32) (σ : Sto) : Option (Int32) :=
  f7_isFind_j115 a1 l2 σ (1 : Int32)
def f7_isFind_j83 (a1 : Nat) (l2 : Int32) (σ : Sto) (l3_83 : Int32) (s0_83 : Int32) : Option (Int32) :=
  stp s0_83 fun x4_1 =>
  if x4_1 = 0 then
    if (fI σ a1 1) ≤ l3_83 then
      f7_isFind_j110 a1 l2 σ
    else
      gd (okr (fR σ a1 0) 13) <|
      gd (inb l3_83 (ln ((fR σ a1 0) - 1))) <|
      bnd (f11_isOfWord (aI σ ((fR σ a1 0) - 1) (Int32.toNatClampNeg l3_83))) fun p_6 =>
      if p_6 = 0 then
        f7_isFind_j110 a1 l2 σ
      else
        f7_isFind_j114 a1 l2 σ
  else
    f7_isFind_j114 a1 l2 σ
def f7_isFind_j82 (a1 : Nat) (l2 : Int32) (σ : Sto) (l3_82 : Int32) : Option (Int32) :=
  f7_isFind_j83 a1 l2 σ l3_82 (0 : Int32)
def f7_isFind_b2 (a1 : Nat) (l2 : Int32) (σ : Sto) (l3_2 : Int32) : Option (Int32 ⊕ (Unit ⊕ Unit)) :=
  if (fI σ 1990 1) ≤ l3_2 then
    some (.inr (Sum.inl ()))
  else
    gd (okr (fR σ a1 0) 13) <|
    gd (inb (l2 + l3_2) (ln ((fR σ a1 0) - 1))) <|
    gd (inb l3_2 40) <|
    if (aI σ ((fR σ a1 0) - 1) (Int32.toNatClampNeg (l2 + l3_2))) = (aI σ 1991 (Int32.toNatClampNeg l3_2)) then
      stp (l3_2 + (1 : Int32)) fun x3_3 =>
      some (.inl x3_3)
    else
      some (.inr (Sum.inr ()))
def f7_isFind_j2 (a1 : Nat) (l2 : Int32) (σ : Sto) (l3_2 : Int32) : Option (Int32) :=
  bnd (loopF (fun s_2 => f7_isFind_b2 a1 l2 σ s_2) FU l3_2) fun r_2 =>
    match r_2 with
    | .inl r_2x =>
      if (fI σ 1989 1) = 0 then
        some (1 : Int32)
      else
        stp (l2 + (fI σ 1990 1)) fun x3_4 =>
        if l2 ≤ 0 then
          f7_isFind_j82 a1 l2 σ x3_4
        else
          gd (okr (fR σ a1 0) 13) <|
          gd (inb (l2 - (1 : Int32)) (ln ((fR σ a1 0) - 1))) <|
          bnd (f11_isOfWord (aI σ ((fR σ a1 0) - 1) (Int32.toNatClampNeg (l2 - (1 : Int32))))) fun p_23 =>
          if p_23 = 0 then
            f7_isFind_j82 a1 l2 σ x3_4
          else
            f7_isFind_j83 a1 l2 σ x3_4 (1 : Int32)
    | .inr r_2y =>
      some (0 : Int32)
def f7_isFind (σ : Sto) (a1 : Nat) (l2 : Int32) : Option (Int32) :=
  stp (0 : Int32) fun x3_5 =>
  f7_isFind_j2 a1 l2 σ x3_5
set_option maxHeartbeats 4000000 in
set_option maxRecDepth 100000 in
theorem k7_isFind {l : Launch} {K : JK} (hl : l.stackTraces = false) {σ : Sto} {a1 : Nat} {l2 : Int32} (h_a1 : kc a1 = 8) {Qf : Int32 → Prop} (h : Ok (f7_isFind σ a1 l2) Qf) : Con l K yX7_isFind (.code yX7_isFind cX7_isFind 5 (some .boolean) :: TB) 1 0 0 False [.ref (K.2.2 + 1989), .ref (K.2.2 + a1), .int l2] 2017 (jw K σ) (PR Qf (fun p => some (.int p)) (fun p => jw K σ)) PN := by
  refine Con.enter (own := RX7) hl (by decide) rfl (Nat.le_of_ble_eq_true rfl) ?_
  intro X hX hR C hret hnt
  generalize hQQ : jQ X K 0 0 (PR Qf (fun p => some (.int p)) (fun p => jw K σ)) PN False = QQ
  change J X K 5 False QQ 0 0 2017 (jw K σ) 0 [(0, .ref (K.2.2 + 1989)), (1, .ref (K.2.2 + a1)), (2, .int l2)] []
  have hj_115 : (∀ (s0_115 : Int32), Ok (f7_isFind_j115 a1 l2 σ s0_115) Qf → J X K 5 False QQ 0 0 2017 (jw K σ) 115 [] [.int s0_115]) := by
    intro s0_115 h
    unfold f7_isFind_j115 at h
    obtain ⟨g_1, h⟩ := Ok.ofgd h
    rw [← hQQ]
    exact J_zret C hret (narB g_1).1 (Nat.le_of_ble_eq_true rfl) (Nat.le_of_ble_eq_true rfl) ⟨_, h.osome, rfl, rfl, rfl⟩ dX7_isFind_115
  have hj_114 : (Ok (f7_isFind_j114 a1 l2 σ) Qf → J X K 5 False QQ 0 0 2017 (jw K σ) 114 [] []) := by
    intro h
    unfold f7_isFind_j114 at h
    refine J_iconst (v := 0) C (by decide) dX7_isFind_114 rfl ?_
    exact hj_115 (0 : Int32) h
  have hj_110 : (Ok (f7_isFind_j110 a1 l2 σ) Qf → J X K 5 False QQ 0 0 2017 (jw K σ) 110 [] []) := by
    intro h
    unfold f7_isFind_j110 at h
    refine J_iconst (v := 1) C (by decide) dX7_isFind_110 rfl ?_
    refine J_goto (t := 115) C dX7_isFind_111 (by decide) ?_
    exact hj_115 (1 : Int32) h
  have hj_83 : (∀ (l3_83 : Int32) (s0_83 : Int32), Ok (f7_isFind_j83 a1 l2 σ l3_83 s0_83) Qf → J X K 5 False QQ 0 0 2017 (jw K σ) 83 [(1, .ref (K.2.2 + a1)), (3, .int l3_83)] [.int s0_83]) := by
    intro l3_83 s0_83 h
    unfold f7_isFind_j83 at h
    obtain ⟨x4_1, e_x4_1, h⟩ := Ok.nm h
    refine J_istoreE (i := 4) (lv' := [(4, .int x4_1), (1, .ref (K.2.2 + a1)), (3, .int l3_83)]) C e_x4_1 dX7_isFind_83 (Nat.le_of_ble_eq_true rfl) rfl rfl ?_
    refine J_iload (i := 4) (p := 0) C dX7_isFind_85 rfl rfl ?_
    refine J_if_ne (t := 114) C dX7_isFind_87 (by decide) rfl (fun c_2 => ?_) (fun c_2 => ?_)
    · have h := h.neg c_2
      refine J.sub [] rfl ?_
      exact hj_114  h
    · have h := h.pos (Decidable.not_not.mp c_2)
      refine J_iload_n (i := 3) (p := 2) C dX7_isFind_90 rfl rfl rfl ?_
      refine J_aload_n (i := 1) (p := 1) C dX7_isFind_91 rfl rfl rfl ?_
      refine Jc_getI C fp_RX7_28 h_a1 rfl dX7_isFind_92 rfl ?_
      refine J_icmp_ge (t := 110) C dX7_isFind_95 (by decide) rfl (fun c_3 => ?_) (fun c_3 => ?_)
      · have h := h.pos c_3
        refine J.sub [] rfl ?_
        exact hj_110  h
      · have h := h.neg c_3
        refine J_aload_n (i := 1) (p := 1) C dX7_isFind_98 rfl rfl rfl ?_
        refine Jc_getD C fp_RX7_41 h_a1 rfl dX7_isFind_99 rfl ?_
        refine J_iload_n (i := 3) (p := 2) C dX7_isFind_102 rfl rfl rfl ?_
        obtain ⟨g_4, h⟩ := Ok.ofgd h
        rw [jv_pos (r := fR σ a1 0) (okr_spec g_4).1]
        obtain ⟨g_5, h⟩ := Ok.ofgd h
        refine Jc_bald C (okr_spec g_4).2 rfl g_5 dX7_isFind_103 rfl ?_
        refine J_cSN (rest := []) (st9 := fun p_6 => [.int p_6]) C hR hX cn_RX7_46 (k11_isOfWord hl  (Ok.ofbnd h)) rfl rfl (Nat.le_of_ble_eq_true rfl) (Nat.le_of_ble_eq_true rfl) (Nat.le_of_ble_eq_true rfl) ⟨(Nat.le_of_ble_eq_true rfl), (Nat.le_of_ble_eq_true rfl)⟩ dX7_isFind_104 rfl (fun E n9 w9 hx => JT_n hx) (fun _ => rfl) (fun p_6 h => ?_)
        have h : Ok _ _ := h
        change J X K 5 False QQ 0 0 2017 (jw K σ) 107 [(4, .int x4_1), (1, .ref (K.2.2 + a1)), (3, .int l3_83)] [.int p_6]
        refine J_if_ne (t := 114) C dX7_isFind_107 (by decide) rfl (fun c_7 => ?_) (fun c_7 => ?_)
        · have h := h.neg c_7
          refine J.sub [] rfl ?_
          exact hj_114  h
        · have h := h.pos (Decidable.not_not.mp c_7)
          refine J.sub [] rfl ?_
          exact hj_110  h
  have hj_82 : (∀ (l3_82 : Int32), Ok (f7_isFind_j82 a1 l2 σ l3_82) Qf → J X K 5 False QQ 0 0 2017 (jw K σ) 82 [(1, .ref (K.2.2 + a1)), (3, .int l3_82)] []) := by
    intro l3_82 h
    unfold f7_isFind_j82 at h
    refine J_iconst (v := 0) C (by decide) dX7_isFind_82 rfl ?_
    exact hj_83 l3_82 (0 : Int32) h
  have hj_2 : (∀ (l3_2 : Int32), Ok (f7_isFind_j2 a1 l2 σ l3_2) Qf → J X K 5 False QQ 0 0 2017 (jw K σ) 2 [(0, .ref (K.2.2 + 1989)), (1, .ref (K.2.2 + a1)), (2, .int l2), (3, .int l3_2)] []) := by
    intro l3_2 h
    unfold f7_isFind_j2 at h
    refine loop_gen (S := Int32) (P := fun s_2 => J X K 5 False QQ 0 0 2017 (jw K σ) 2 [(0, .ref (K.2.2 + 1989)), (1, .ref (K.2.2 + a1)), (2, .int l2), (3, .int s_2)] []) ?_ FU l3_2 (Ok.ofbnd h)
    intro B_2 hB_2 hE_2 s_2 h
    generalize s_2 = l3_2 at h ⊢
    have h : Ok (f7_isFind_b2 a1 l2 σ l3_2) B_2 := h
    change J X K 5 False QQ 0 0 2017 (jw K σ) 2 [(0, .ref (K.2.2 + 1989)), (1, .ref (K.2.2 + a1)), (2, .int l2), (3, .int l3_2)] []
    unfold f7_isFind_b2 at h
    refine J_iload_n (i := 3) (p := 3) C dX7_isFind_2 rfl rfl rfl ?_
    refine J_aload_n (i := 0) (p := 0) C dX7_isFind_3 rfl rfl rfl ?_
    refine Jc_getS (o2 := 1) (r2 := 1990) C fp_RX7_14 rfl rfl rfl dX7_isFind_4 rfl ?_
    refine Jc_getI C fp_RX7_24 rfl rfl dX7_isFind_7 rfl ?_
    refine J_icmp_ge (t := 41) C dX7_isFind_10 (by decide) rfl (fun c_8 => ?_) (fun c_8 => ?_)
    · have h := h.pos c_8
      have h := hE_2 (Sum.inl ()) h.osome
      try dsimp only at h
      refine J_aload_n (i := 0) (p := 0) C dX7_isFind_41 rfl rfl rfl ?_
      refine Jc_getI C fp_RX7_20 rfl rfl dX7_isFind_42 rfl ?_
      refine J_if_ne (t := 50) C dX7_isFind_45 (by decide) rfl (fun c_9 => ?_) (fun c_9 => ?_)
      · have h := h.neg c_9
        refine J_iload_n (i := 2) (p := 2) C dX7_isFind_50 rfl rfl rfl ?_
        refine J_aload_n (i := 0) (p := 0) C dX7_isFind_51 rfl rfl rfl ?_
        refine Jc_getS (o2 := 1) (r2 := 1990) C fp_RX7_14 rfl rfl rfl dX7_isFind_52 rfl ?_
        refine Jc_getI C fp_RX7_24 rfl rfl dX7_isFind_55 rfl ?_
        refine J_iadd C dX7_isFind_58 rfl ?_
        obtain ⟨x3_2, e_x3_2, h⟩ := Ok.nm h
        refine J_istoreE_n (i := 3) (lv' := [(3, .int x3_2), (0, .ref (K.2.2 + 1989)), (1, .ref (K.2.2 + a1)), (2, .int l2)]) C e_x3_2 dX7_isFind_59 rfl (Nat.le_of_ble_eq_true rfl) rfl rfl ?_
        refine J_iload_n (i := 2) (p := 3) C dX7_isFind_60 rfl rfl rfl ?_
        refine J_if_le (t := 82) C dX7_isFind_61 (by decide) rfl (fun c_10 => ?_) (fun c_10 => ?_)
        · have h := h.pos c_10
          refine J.sub [2, 0] rfl ?_
          exact hj_82 x3_2 h
        · have h := h.neg c_10
          refine J_aload_n (i := 1) (p := 2) C dX7_isFind_64 rfl rfl rfl ?_
          refine Jc_getD C fp_RX7_41 h_a1 rfl dX7_isFind_65 rfl ?_
          refine J_iload_n (i := 2) (p := 3) C dX7_isFind_68 rfl rfl rfl ?_
          refine J_iconst (v := 1) C (by decide) dX7_isFind_69 rfl ?_
          refine J_isub C dX7_isFind_70 rfl ?_
          obtain ⟨g_11, h⟩ := Ok.ofgd h
          rw [jv_pos (r := fR σ a1 0) (okr_spec g_11).1]
          obtain ⟨g_12, h⟩ := Ok.ofgd h
          refine Jc_bald C (okr_spec g_11).2 rfl g_12 dX7_isFind_71 rfl ?_
          refine J_cSN (rest := []) (st9 := fun p_13 => [.int p_13]) C hR hX cn_RX7_46 (k11_isOfWord hl  (Ok.ofbnd h)) rfl rfl (Nat.le_of_ble_eq_true rfl) (Nat.le_of_ble_eq_true rfl) (Nat.le_of_ble_eq_true rfl) ⟨(Nat.le_of_ble_eq_true rfl), (Nat.le_of_ble_eq_true rfl)⟩ dX7_isFind_72 rfl (fun E n9 w9 hx => JT_n hx) (fun _ => rfl) (fun p_13 h => ?_)
          have h : Ok _ _ := h
          change J X K 5 False QQ 0 0 2017 (jw K σ) 75 [(3, .int x3_2), (0, .ref (K.2.2 + 1989)), (1, .ref (K.2.2 + a1)), (2, .int l2)] [.int p_13]
          refine J_if_eq (t := 82) C dX7_isFind_75 (by decide) rfl (fun c_14 => ?_) (fun c_14 => ?_)
          · have h := h.pos c_14
            refine J.sub [2, 0] rfl ?_
            exact hj_82 x3_2 h
          · have h := h.neg c_14
            refine J_iconst (v := 1) C (by decide) dX7_isFind_78 rfl ?_
            refine J_goto (t := 83) C dX7_isFind_79 (by decide) ?_
            refine J.sub [2, 0] rfl ?_
            exact hj_83 x3_2 (1 : Int32) h
      · have h := h.pos (Decidable.not_not.mp c_9)
        refine J_iconst (v := 1) C (by decide) dX7_isFind_48 rfl ?_
        rw [← hQQ]
        exact J_zret C hret rfl (Nat.le_of_ble_eq_true rfl) (Nat.le_of_ble_eq_true rfl) ⟨_, h.osome, rfl, rfl, rfl⟩ dX7_isFind_49
    · have h := h.neg c_8
      refine J_aload_n (i := 1) (p := 1) C dX7_isFind_13 rfl rfl rfl ?_
      refine Jc_getD C fp_RX7_41 h_a1 rfl dX7_isFind_14 rfl ?_
      refine J_iload_n (i := 2) (p := 2) C dX7_isFind_17 rfl rfl rfl ?_
      refine J_iload_n (i := 3) (p := 3) C dX7_isFind_18 rfl rfl rfl ?_
      refine J_iadd C dX7_isFind_19 rfl ?_
      obtain ⟨g_15, h⟩ := Ok.ofgd h
      rw [jv_pos (r := fR σ a1 0) (okr_spec g_15).1]
      obtain ⟨g_16, h⟩ := Ok.ofgd h
      refine Jc_bald C (okr_spec g_15).2 rfl g_16 dX7_isFind_20 rfl ?_
      refine J_aload_n (i := 0) (p := 0) C dX7_isFind_21 rfl rfl rfl ?_
      refine Jc_getS (o2 := 1) (r2 := 1990) C fp_RX7_14 rfl rfl rfl dX7_isFind_22 rfl ?_
      refine Jc_getS (o2 := 1) (r2 := 1991) C fp_RX7_45 rfl rfl rfl dX7_isFind_25 rfl ?_
      refine J_iload_n (i := 3) (p := 3) C dX7_isFind_28 rfl rfl rfl ?_
      obtain ⟨g_17, h⟩ := Ok.ofgd h
      refine Jc_bald C rfl rfl g_17 dX7_isFind_29 rfl ?_
      refine J_icmp_eq (t := 35) C dX7_isFind_30 (by decide) rfl (fun c_18 => ?_) (fun c_18 => ?_)
      · have h := h.pos c_18
        obtain ⟨x3_3, e_x3_3, h⟩ := Ok.nm h
        refine J_iincE (i := 3) (p := 3) (lv' := [(3, .int x3_3), (0, .ref (K.2.2 + 1989)), (1, .ref (K.2.2 + a1)), (2, .int l2)]) C e_x3_3 dX7_isFind_35 rfl (by decide) (Nat.le_of_ble_eq_true rfl) rfl rfl ?_
        refine J_goto (t := 2) C dX7_isFind_38 (by decide) ?_
        refine J.sub [1, 2, 3, 0] rfl ?_
        exact hB_2 x3_3 h.osome
      · have h := h.neg c_18
        have h := hE_2 (Sum.inr ()) h.osome
        try dsimp only at h
        refine J_iconst (v := 0) C (by decide) dX7_isFind_33 rfl ?_
        rw [← hQQ]
        exact J_zret C hret rfl (Nat.le_of_ble_eq_true rfl) (Nat.le_of_ble_eq_true rfl) ⟨_, h.osome, rfl, rfl, rfl⟩ dX7_isFind_34
  unfold f7_isFind at h
  refine J_iconst (v := 0) C (by decide) dX7_isFind_0 rfl ?_
  obtain ⟨x3_5, e_x3_5, h⟩ := Ok.nm h
  refine J_istoreE_n (i := 3) (lv' := [(3, .int x3_5), (0, .ref (K.2.2 + 1989)), (1, .ref (K.2.2 + a1)), (2, .int l2)]) C e_x3_5 dX7_isFind_1 rfl (Nat.le_of_ble_eq_true rfl) rfl rfl ?_
  refine J.sub [1, 2, 3, 0] rfl ?_
  exact hj_2 x3_5 h
def f7_next_b2 (a1 : Nat) (l2 : Int32) (σ : Sto) (l3_2 : Int32) : Option (Int32 ⊕ (Unit ⊕ Int32)) :=
  if ((fI σ a1 1) - (fI σ 1990 1)) < l3_2 then
    some (.inr (Sum.inl ()))
  else
    bnd (f7_isFind σ a1 l3_2) fun p_2 =>
    if p_2 = 0 then
      stp (l3_2 + (1 : Int32)) fun x3_1 =>
      some (.inl x3_1)
    else
      some (.inr (Sum.inr l3_2))
def f7_next_j2 (a1 : Nat) (l2 : Int32) (σ : Sto) (l3_2 : Int32) : Option (Int32) :=
  bnd (loopF (fun s_2 => f7_next_b2 a1 l2 σ s_2) FU l3_2) fun r_2 =>
    match r_2 with
    | .inl r_2x =>
      some (-1 : Int32)
    | .inr r_2y =>
      some r_2y
def f7_next (σ : Sto) (a1 : Nat) (l2 : Int32) : Option (Int32) :=
  stp l2 fun x3_2 =>
  f7_next_j2 a1 l2 σ x3_2
set_option maxHeartbeats 4000000 in
set_option maxRecDepth 100000 in
theorem k7_next {l : Launch} {K : JK} (hl : l.stackTraces = false) {σ : Sto} {a1 : Nat} {l2 : Int32} (h_a1 : kc a1 = 8) {Qf : Int32 → Prop} (h : Ok (f7_next σ a1 l2) Qf) : Con l K yX7_next (.code yX7_next cX7_next 4 (some .int) :: TB) 2 0 0 False [.ref (K.2.2 + 1989), .ref (K.2.2 + a1), .int l2] 2017 (jw K σ) (PR Qf (fun p => some (.int p)) (fun p => jw K σ)) PN := by
  refine Con.enter (own := RX7) hl (by decide) rfl (Nat.le_of_ble_eq_true rfl) ?_
  intro X hX hR C hret hnt
  generalize hQQ : jQ X K 0 0 (PR Qf (fun p => some (.int p)) (fun p => jw K σ)) PN False = QQ
  change J X K 4 False QQ 0 0 2017 (jw K σ) 0 [(0, .ref (K.2.2 + 1989)), (1, .ref (K.2.2 + a1)), (2, .int l2)] []
  have hj_2 : (∀ (l3_2 : Int32), Ok (f7_next_j2 a1 l2 σ l3_2) Qf → J X K 4 False QQ 0 0 2017 (jw K σ) 2 [(0, .ref (K.2.2 + 1989)), (1, .ref (K.2.2 + a1)), (3, .int l3_2)] []) := by
    intro l3_2 h
    unfold f7_next_j2 at h
    refine loop_gen (S := Int32) (P := fun s_2 => J X K 4 False QQ 0 0 2017 (jw K σ) 2 [(0, .ref (K.2.2 + 1989)), (1, .ref (K.2.2 + a1)), (3, .int s_2)] []) ?_ FU l3_2 (Ok.ofbnd h)
    intro B_2 hB_2 hE_2 s_2 h
    generalize s_2 = l3_2 at h ⊢
    have h : Ok (f7_next_b2 a1 l2 σ l3_2) B_2 := h
    change J X K 4 False QQ 0 0 2017 (jw K σ) 2 [(0, .ref (K.2.2 + 1989)), (1, .ref (K.2.2 + a1)), (3, .int l3_2)] []
    unfold f7_next_b2 at h
    refine J_iload_n (i := 3) (p := 2) C dX7_next_2 rfl rfl rfl ?_
    refine J_aload_n (i := 1) (p := 1) C dX7_next_3 rfl rfl rfl ?_
    refine Jc_getI C fp_RX7_28 h_a1 rfl dX7_next_4 rfl ?_
    refine J_aload_n (i := 0) (p := 0) C dX7_next_7 rfl rfl rfl ?_
    refine Jc_getS (o2 := 1) (r2 := 1990) C fp_RX7_14 rfl rfl rfl dX7_next_8 rfl ?_
    refine Jc_getI C fp_RX7_24 rfl rfl dX7_next_11 rfl ?_
    refine J_isub C dX7_next_14 rfl ?_
    refine J_icmp_gt (t := 35) C dX7_next_15 (by decide) rfl (fun c_1 => ?_) (fun c_1 => ?_)
    · have h := h.pos c_1
      have h := hE_2 (Sum.inl ()) h.osome
      try dsimp only at h
      refine J_iconst (v := -1) C (by decide) dX7_next_35 rfl ?_
      rw [← hQQ]
      exact J_iret C hret (Nat.le_of_ble_eq_true rfl) (Nat.le_of_ble_eq_true rfl) ⟨_, h.osome, rfl, rfl, rfl⟩ dX7_next_36
    · have h := h.neg c_1
      refine J_aload_n (i := 0) (p := 0) C dX7_next_18 rfl rfl rfl ?_
      refine J_aload_n (i := 1) (p := 1) C dX7_next_19 rfl rfl rfl ?_
      refine J_iload_n (i := 3) (p := 2) C dX7_next_20 rfl rfl rfl ?_
      refine Jc_cV (rest := []) (st9 := fun p_2 => [.int p_2]) C hR hX cv_RX7_31 rfl (Nat.le_of_ble_eq_true rfl) (k7_isFind hl h_a1 (Ok.ofbnd h)) rfl rfl (Nat.le_of_ble_eq_true rfl) (Nat.le_of_ble_eq_true rfl) (Nat.le_of_ble_eq_true rfl) ⟨(Nat.le_of_ble_eq_true rfl), (Nat.le_of_ble_eq_true rfl)⟩ dX7_next_21 rfl (fun E n9 w9 hx => JT_n hx) (fun _ => rfl) (fun p_2 h => ?_)
      have h : Ok _ _ := h
      change J X K 4 False QQ 0 0 2017 (jw K σ) 24 [(0, .ref (K.2.2 + 1989)), (1, .ref (K.2.2 + a1)), (3, .int l3_2)] [.int p_2]
      refine J_if_eq (t := 29) C dX7_next_24 (by decide) rfl (fun c_3 => ?_) (fun c_3 => ?_)
      · have h := h.pos c_3
        obtain ⟨x3_1, e_x3_1, h⟩ := Ok.nm h
        refine J_iincE (i := 3) (p := 2) (lv' := [(3, .int x3_1), (0, .ref (K.2.2 + 1989)), (1, .ref (K.2.2 + a1))]) C e_x3_1 dX7_next_29 rfl (by decide) (Nat.le_of_ble_eq_true rfl) rfl rfl ?_
        refine J_goto (t := 2) C dX7_next_32 (by decide) ?_
        refine J.sub [1, 2, 0] rfl ?_
        exact hB_2 x3_1 h.osome
      · have h := h.neg c_3
        have h := hE_2 (Sum.inr l3_2) h.osome
        try dsimp only at h
        refine J_iload_n (i := 3) (p := 2) C dX7_next_27 rfl rfl rfl ?_
        rw [← hQQ]
        exact J_iret C hret (Nat.le_of_ble_eq_true rfl) (Nat.le_of_ble_eq_true rfl) ⟨_, h.osome, rfl, rfl, rfl⟩ dX7_next_28
  unfold f7_next at h
  refine J_iload_n (i := 2) (p := 2) C dX7_next_0 rfl rfl rfl ?_
  obtain ⟨x3_2, e_x3_2, h⟩ := Ok.nm h
  refine J_istoreE_n (i := 3) (lv' := [(3, .int x3_2), (0, .ref (K.2.2 + 1989)), (1, .ref (K.2.2 + a1)), (2, .int l2)]) C e_x3_2 dX7_next_1 rfl (Nat.le_of_ble_eq_true rfl) rfl rfl ?_
  refine J.sub [1, 2, 0] rfl ?_
  exact hj_2 x3_2 h
def f8_leaveOneCursor (σ : Sto) (a0 : Nat) (l1 : Int32) : Option (Sto) :=
  gd (inb (0 : Int32) 8) <|
  stp (uA σ (a0 + 4) (Int32.toNatClampNeg (0 : Int32)) l1) fun σx_1 =>
  stp (uI σx_1 a0 6 (1 : Int32)) fun σx_2 =>
  bnd (f8_settleCursors σx_2 a0) fun p_2 =>
  some p_2
set_option maxHeartbeats 4000000 in
set_option maxRecDepth 100000 in
theorem k8_leaveOneCursor {l : Launch} {K : JK} (hl : l.stackTraces = false) {σ : Sto} {a0 : Nat} {l1 : Int32} (h_a0 : kc a0 = 8) {Qf : Sto → Prop} (h : Ok (f8_leaveOneCursor σ a0 l1) Qf) : Con l K yX8_leaveOneCursor (.code yX8_leaveOneCursor cX8_leaveOneCursor 2 none :: TB) 2 0 0 False [.ref (K.2.2 + a0), .int l1] 2017 (jw K σ) (PR Qf (fun p => none) (fun p => jw K p)) PN := by
  refine Con.enter (own := RX8) hl (by decide) rfl (Nat.le_of_ble_eq_true rfl) ?_
  intro X hX hR C hret hnt
  generalize hQQ : jQ X K 0 0 (PR Qf (fun p => none) (fun p => jw K p)) PN False = QQ
  change J X K 2 False QQ 0 0 2017 (jw K σ) 0 [(0, .ref (K.2.2 + a0)), (1, .int l1)] []
  unfold f8_leaveOneCursor at h
  refine J_aload_n (i := 0) (p := 0) C dX8_leaveOneCursor_0 rfl rfl rfl ?_
  refine Jc_getS (o2 := 4) (r2 := a0 + 4) C fp_RX8_30 rfl h_a0 rfl dX8_leaveOneCursor_1 rfl ?_
  refine J_iconst (v := 0) C (by decide) dX8_leaveOneCursor_4 rfl ?_
  refine J_iload_n (i := 1) (p := 1) C dX8_leaveOneCursor_5 rfl rfl rfl ?_
  obtain ⟨g_1, h⟩ := Ok.ofgd h
  obtain ⟨σx_1, e_σx_1, h⟩ := Ok.nm h
  refine Jc_iast C id (ks_8_5 h_a0) (ls_8_5 h_a0) g_1 e_σx_1 dX8_leaveOneCursor_6 rfl ?_
  refine J_aload_n (i := 0) (p := 0) C dX8_leaveOneCursor_7 rfl rfl rfl ?_
  refine J_iconst (v := 1) C (by decide) dX8_leaveOneCursor_8 rfl ?_
  obtain ⟨σx_2, e_σx_2, h⟩ := Ok.nm h
  refine Jc_putI C id fp_RX8_33 fw_8_6 rfl h_a0 rfl e_σx_2 dX8_leaveOneCursor_9 rfl ?_
  refine J_aload_n (i := 0) (p := 0) C dX8_leaveOneCursor_12 rfl rfl rfl ?_
  refine Jc_cV (rest := []) (st9 := fun p_2 => []) C hR hX cv_RX8_63 h_a0 (Nat.le_of_ble_eq_true rfl) (k8_settleCursors hl h_a0 (Ok.ofbnd h)) rfl rfl (Nat.le_of_ble_eq_true rfl) (Nat.le_of_ble_eq_true rfl) (Nat.le_of_ble_eq_true rfl) ⟨(Nat.le_of_ble_eq_true rfl), (Nat.le_of_ble_eq_true rfl)⟩ dX8_leaveOneCursor_13 rfl (fun E n9 w9 hx => JT_n hx) (fun _ => rfl) (fun p_2 h => ?_)
  have h : Ok _ _ := h
  change J X K 2 False QQ 0 0 2017 (jw K p_2) 16 [(0, .ref (K.2.2 + a0)), (1, .int l1)] []
  rw [← hQQ]
  exact J_vret C hret (Nat.le_of_ble_eq_true rfl) (Nat.le_of_ble_eq_true rfl) ⟨_, h.osome, rfl, rfl, rfl⟩ dX8_leaveOneCursor_16
def f11_replaceNext_j59 (σ_59 : Sto) (l1_59 : Int32) : Option ((Int32 × Sto) ⊕ (Nat × Sto)) :=
  if l1_59 = (-1 : Int32) then
    some (.inl ((-1 : Int32), σ_59))
  else
    bnd (f1_begin σ_59 9 (0 : Int32) (fI σ_59 8 1)) fun p_2 =>
    bnd (f1_addPart p_2 l1_59 (l1_59 + (fI p_2 1990 1)) (fI p_2 8 1)) fun p_3 =>
    bnd (f11_perform p_3) fun p_4 =>
    if p_4.1 = 0 then
      some (.inr (3, p_4.2))
    else
      bnd (f8_leaveOneCursor p_4.2 1 (l1_59 + (fI p_4.2 8 1))) fun p_6 =>
      some (.inl (l1_59, p_6))
def f11_replaceNext (σ : Sto) : Option ((Int32 × Sto) ⊕ (Nat × Sto)) :=
  bnd (f7_isSet σ) fun p_7 =>
  if p_7 = 0 then
    some (.inr (3, σ))
  else
    gd (inb (0 : Int32) 8) <|
    bnd (f7_next σ 1 (aI σ 5 (Int32.toNatClampNeg (0 : Int32)))) fun p_10 =>
    stp p_10 fun x1_1 =>
    if x1_1 = (-1 : Int32) then
      bnd (f7_next σ 1 (0 : Int32)) fun p_12 =>
      stp p_12 fun x1_2 =>
      f11_replaceNext_j59 σ x1_2
    else
      f11_replaceNext_j59 σ x1_1
set_option maxHeartbeats 4000000 in
set_option maxRecDepth 100000 in
theorem k11_replaceNext {l : Launch} {K : JK} (hl : l.stackTraces = false) {σ : Sto}   {Qf : (Int32 × Sto) ⊕ (Nat × Sto) → Prop} (h : Ok (f11_replaceNext σ) Qf) : Con l K yX11_replaceNext (.code yX11_replaceNext cX11_replaceNext 2 (some .int) :: TB) 6 1 6 False [.ref (K.2.2 + 0)] 2017 (jw K σ) (PR (fun p => Qf (.inl p)) (fun p => some (.int p.1)) (fun p => jw K p.2)) (PX Qf (fun s => jw K s)) := by
  refine Con.enter (own := RX11) hl (by decide) rfl (Nat.le_of_ble_eq_true rfl) ?_
  intro X hX hR C hret hnt
  generalize hQQ : jQ X K 1 6 (PR (fun p => Qf (.inl p)) (fun p => some (.int p.1)) (fun p => jw K p.2)) (PX Qf (fun s => jw K s)) False = QQ
  change J X K 2 False QQ 0 0 2017 (jw K σ) 0 [(0, .ref (K.2.2 + 0))] []
  have hj_59 : (∀ (σ_59 : Sto) (l1_59 : Int32), Ok (f11_replaceNext_j59 σ_59 l1_59) Qf → J X K 2 False QQ 0 0 2017 (jw K σ_59) 59 [(0, .ref (K.2.2 + 0)), (1, .int l1_59)] []) := by
    intro σ_59 l1_59 h
    unfold f11_replaceNext_j59 at h
    refine J_iload_n (i := 1) (p := 1) C dX11_replaceNext_59 rfl rfl rfl ?_
    refine J_iconst (v := -1) C (by decide) dX11_replaceNext_60 rfl ?_
    refine J_icmp_ne (t := 66) C dX11_replaceNext_61 (by decide) rfl (fun c_1 => ?_) (fun c_1 => ?_)
    · have h := h.neg c_1
      refine J_aload_n (i := 0) (p := 0) C dX11_replaceNext_66 rfl rfl rfl ?_
      refine Jc_getS (o2 := 13) (r2 := 13) C fp_RX11_35 rfl rfl rfl dX11_replaceNext_67 rfl ?_
      refine J_aload_n (i := 0) (p := 0) C dX11_replaceNext_70 rfl rfl rfl ?_
      refine Jc_getS (o2 := 8) (r2 := 8) C fp_RX11_21 rfl rfl rfl dX11_replaceNext_71 rfl ?_
      refine Jc_getS (o2 := 1) (r2 := 9) C fp_RX11_130 rfl rfl rfl dX11_replaceNext_74 rfl ?_
      refine J_iconst (v := 0) C (by decide) dX11_replaceNext_77 rfl ?_
      refine J_aload_n (i := 0) (p := 0) C dX11_replaceNext_78 rfl rfl rfl ?_
      refine Jc_getS (o2 := 8) (r2 := 8) C fp_RX11_21 rfl rfl rfl dX11_replaceNext_79 rfl ?_
      refine Jc_getI C fp_RX11_89 rfl rfl dX11_replaceNext_82 rfl ?_
      refine Jc_cV (rest := []) (st9 := fun p_2 => []) C hR hX cv_RX11_153 rfl (Nat.le_of_ble_eq_true rfl) (k1_begin hl rfl (Ok.ofbnd h)) rfl rfl (Nat.le_of_ble_eq_true rfl) (Nat.le_of_ble_eq_true rfl) (Nat.le_of_ble_eq_true rfl) ⟨(Nat.le_of_ble_eq_true rfl), (Nat.le_of_ble_eq_true rfl)⟩ dX11_replaceNext_85 rfl (fun E n9 w9 hx => JT_n hx) (fun _ => rfl) (fun p_2 h => ?_)
      have h : Ok _ _ := h
      change J X K 2 False QQ 0 0 2017 (jw K p_2) 88 [(0, .ref (K.2.2 + 0)), (1, .int l1_59)] []
      refine J_aload_n (i := 0) (p := 0) C dX11_replaceNext_88 rfl rfl rfl ?_
      refine Jc_getS (o2 := 13) (r2 := 13) C fp_RX11_35 rfl rfl rfl dX11_replaceNext_89 rfl ?_
      refine J_iload_n (i := 1) (p := 1) C dX11_replaceNext_92 rfl rfl rfl ?_
      refine J_iload_n (i := 1) (p := 1) C dX11_replaceNext_93 rfl rfl rfl ?_
      refine J_aload_n (i := 0) (p := 0) C dX11_replaceNext_94 rfl rfl rfl ?_
      refine Jc_getS (o2 := 1989) (r2 := 1989) C fp_RX11_49 rfl rfl rfl dX11_replaceNext_95 rfl ?_
      refine Jc_getS (o2 := 1) (r2 := 1990) C fp_RX11_212 rfl rfl rfl dX11_replaceNext_98 rfl ?_
      refine Jc_getI C fp_RX11_89 rfl rfl dX11_replaceNext_101 rfl ?_
      refine J_iadd C dX11_replaceNext_104 rfl ?_
      refine J_aload_n (i := 0) (p := 0) C dX11_replaceNext_105 rfl rfl rfl ?_
      refine Jc_getS (o2 := 8) (r2 := 8) C fp_RX11_21 rfl rfl rfl dX11_replaceNext_106 rfl ?_
      refine Jc_getI C fp_RX11_89 rfl rfl dX11_replaceNext_109 rfl ?_
      refine Jc_cV (rest := []) (st9 := fun p_3 => []) C hR hX cv_RX11_156 rfl (Nat.le_of_ble_eq_true rfl) (k1_addPart hl  (Ok.ofbnd h)) rfl rfl (Nat.le_of_ble_eq_true rfl) (Nat.le_of_ble_eq_true rfl) (Nat.le_of_ble_eq_true rfl) ⟨(Nat.le_of_ble_eq_true rfl), (Nat.le_of_ble_eq_true rfl)⟩ dX11_replaceNext_112 rfl (fun E n9 w9 hx => JT_n hx) (fun _ => rfl) (fun p_3 h => ?_)
      have h : Ok _ _ := h
      change J X K 2 False QQ 0 0 2017 (jw K p_3) 115 [(0, .ref (K.2.2 + 0)), (1, .int l1_59)] []
      refine J_aload_n (i := 0) (p := 0) C dX11_replaceNext_115 rfl rfl rfl ?_
      refine Jc_cV (rest := []) (st9 := fun p_4 => [.int p_4.1]) C hR hX cv_RX11_134 rfl (Nat.le_of_ble_eq_true rfl) (k11_perform hl  (Ok.ofbnd h)) rfl rfl (Nat.le_of_ble_eq_true rfl) (Nat.le_of_ble_eq_true rfl) (Nat.le_of_ble_eq_true rfl) ⟨(Nat.le_of_ble_eq_true rfl), (Nat.le_of_ble_eq_true rfl)⟩ dX11_replaceNext_116 rfl (fun E n9 w9 hx => JT_n hx) (fun _ => rfl) (fun p_4 h => ?_)
      have h : Ok _ _ := h
      change J X K 2 False QQ 0 0 2017 (jw K p_4.2) 119 [(0, .ref (K.2.2 + 0)), (1, .int l1_59)] [.int p_4.1]
      refine J_if_ne (t := 132) C dX11_replaceNext_119 (by decide) rfl (fun c_5 => ?_) (fun c_5 => ?_)
      · have h := h.neg c_5
        refine J_aload_n (i := 0) (p := 0) C dX11_replaceNext_132 rfl rfl rfl ?_
        refine Jc_getS (o2 := 1) (r2 := 1) C fp_RX11_10 rfl rfl rfl dX11_replaceNext_133 rfl ?_
        refine J_iload_n (i := 1) (p := 1) C dX11_replaceNext_136 rfl rfl rfl ?_
        refine J_aload_n (i := 0) (p := 0) C dX11_replaceNext_137 rfl rfl rfl ?_
        refine Jc_getS (o2 := 8) (r2 := 8) C fp_RX11_21 rfl rfl rfl dX11_replaceNext_138 rfl ?_
        refine Jc_getI C fp_RX11_89 rfl rfl dX11_replaceNext_141 rfl ?_
        refine J_iadd C dX11_replaceNext_144 rfl ?_
        refine Jc_cV (rest := []) (st9 := fun p_6 => []) C hR hX cv_RX11_215 rfl (Nat.le_of_ble_eq_true rfl) (k8_leaveOneCursor hl rfl (Ok.ofbnd h)) rfl rfl (Nat.le_of_ble_eq_true rfl) (Nat.le_of_ble_eq_true rfl) (Nat.le_of_ble_eq_true rfl) ⟨(Nat.le_of_ble_eq_true rfl), (Nat.le_of_ble_eq_true rfl)⟩ dX11_replaceNext_145 rfl (fun E n9 w9 hx => JT_n hx) (fun _ => rfl) (fun p_6 h => ?_)
        have h : Ok _ _ := h
        change J X K 2 False QQ 0 0 2017 (jw K p_6) 148 [(0, .ref (K.2.2 + 0)), (1, .int l1_59)] []
        refine J_iload_n (i := 1) (p := 1) C dX11_replaceNext_148 rfl rfl rfl ?_
        rw [← hQQ]
        exact J_iret C hret (Nat.le_of_ble_eq_true rfl) (Nat.le_of_ble_eq_true rfl) ⟨_, h.osome, rfl, rfl, rfl⟩ dX11_replaceNext_149
      · have h := h.pos (Decidable.not_not.mp c_5)
        rw [← hQQ]
        exact J_throw (is := 138) (text := "refused") C hnt th_92 (by decide +kernel) dX11_replaceNext_122 dX11_replaceNext_125 dX11_replaceNext_126 dX11_replaceNext_128 dX11_replaceNext_131 (by rw [hR]; exact (Nat.le_of_ble_eq_true rfl)) (by rw [hR]; exact (Nat.le_of_ble_eq_true rfl)) (by rw [hR]; exact (Nat.le_of_ble_eq_true rfl)) (by rw [hR]; exact (Nat.le_of_ble_eq_true rfl)) (Nat.le_of_ble_eq_true rfl) (Nat.le_of_ble_eq_true rfl) ⟨3, p_4.2, h.osome, rfl, rfl, rfl⟩
    · have h := h.pos (Decidable.not_not.mp c_1)
      refine J_iconst (v := -1) C (by decide) dX11_replaceNext_64 rfl ?_
      rw [← hQQ]
      exact J_iret C hret (Nat.le_of_ble_eq_true rfl) (Nat.le_of_ble_eq_true rfl) ⟨_, h.osome, rfl, rfl, rfl⟩ dX11_replaceNext_65
  unfold f11_replaceNext at h
  refine J_aload_n (i := 0) (p := 0) C dX11_replaceNext_0 rfl rfl rfl ?_
  refine Jc_getS (o2 := 1989) (r2 := 1989) C fp_RX11_49 rfl rfl rfl dX11_replaceNext_1 rfl ?_
  refine Jc_cV (rest := []) (st9 := fun p_7 => [.int p_7]) C hR hX cv_RX11_200 rfl (Nat.le_of_ble_eq_true rfl) (k7_isSet hl  (Ok.ofbnd h)) rfl rfl (Nat.le_of_ble_eq_true rfl) (Nat.le_of_ble_eq_true rfl) (Nat.le_of_ble_eq_true rfl) ⟨(Nat.le_of_ble_eq_true rfl), (Nat.le_of_ble_eq_true rfl)⟩ dX11_replaceNext_4 rfl (fun E n9 w9 hx => JT_n hx) (fun _ => rfl) (fun p_7 h => ?_)
  have h : Ok _ _ := h
  change J X K 2 False QQ 0 0 2017 (jw K σ) 7 [(0, .ref (K.2.2 + 0))] [.int p_7]
  refine J_if_ne (t := 20) C dX11_replaceNext_7 (by decide) rfl (fun c_8 => ?_) (fun c_8 => ?_)
  · have h := h.neg c_8
    refine J_aload_n (i := 0) (p := 0) C dX11_replaceNext_20 rfl rfl rfl ?_
    refine Jc_getS (o2 := 1989) (r2 := 1989) C fp_RX11_49 rfl rfl rfl dX11_replaceNext_21 rfl ?_
    refine J_aload_n (i := 0) (p := 0) C dX11_replaceNext_24 rfl rfl rfl ?_
    refine Jc_getS (o2 := 1) (r2 := 1) C fp_RX11_10 rfl rfl rfl dX11_replaceNext_25 rfl ?_
    refine J_aload_n (i := 0) (p := 0) C dX11_replaceNext_28 rfl rfl rfl ?_
    refine Jc_getS (o2 := 1) (r2 := 1) C fp_RX11_10 rfl rfl rfl dX11_replaceNext_29 rfl ?_
    refine Jc_getS (o2 := 4) (r2 := 5) C fp_RX11_205 rfl rfl rfl dX11_replaceNext_32 rfl ?_
    refine J_iconst (v := 0) C (by decide) dX11_replaceNext_35 rfl ?_
    obtain ⟨g_9, h⟩ := Ok.ofgd h
    refine Jc_iald C rfl rfl g_9 dX11_replaceNext_36 rfl ?_
    refine Jc_cV (rest := []) (st9 := fun p_10 => [.int p_10]) C hR hX cv_RX11_208 rfl (Nat.le_of_ble_eq_true rfl) (k7_next hl rfl (Ok.ofbnd h)) rfl rfl (Nat.le_of_ble_eq_true rfl) (Nat.le_of_ble_eq_true rfl) (Nat.le_of_ble_eq_true rfl) ⟨(Nat.le_of_ble_eq_true rfl), (Nat.le_of_ble_eq_true rfl)⟩ dX11_replaceNext_37 rfl (fun E n9 w9 hx => JT_n hx) (fun _ => rfl) (fun p_10 h => ?_)
    have h : Ok _ _ := h
    change J X K 2 False QQ 0 0 2017 (jw K σ) 40 [(0, .ref (K.2.2 + 0))] [.int p_10]
    obtain ⟨x1_1, e_x1_1, h⟩ := Ok.nm h
    refine J_istoreE_n (i := 1) (lv' := [(1, .int x1_1), (0, .ref (K.2.2 + 0))]) C e_x1_1 dX11_replaceNext_40 rfl (Nat.le_of_ble_eq_true rfl) rfl rfl ?_
    refine J_iload_n (i := 1) (p := 0) C dX11_replaceNext_41 rfl rfl rfl ?_
    refine J_iconst (v := -1) C (by decide) dX11_replaceNext_42 rfl ?_
    refine J_icmp_ne (t := 59) C dX11_replaceNext_43 (by decide) rfl (fun c_11 => ?_) (fun c_11 => ?_)
    · have h := h.neg c_11
      refine J.sub [1, 0] rfl ?_
      exact hj_59 σ x1_1 h
    · have h := h.pos (Decidable.not_not.mp c_11)
      refine J_aload_n (i := 0) (p := 1) C dX11_replaceNext_46 rfl rfl rfl ?_
      refine Jc_getS (o2 := 1989) (r2 := 1989) C fp_RX11_49 rfl rfl rfl dX11_replaceNext_47 rfl ?_
      refine J_aload_n (i := 0) (p := 1) C dX11_replaceNext_50 rfl rfl rfl ?_
      refine Jc_getS (o2 := 1) (r2 := 1) C fp_RX11_10 rfl rfl rfl dX11_replaceNext_51 rfl ?_
      refine J_iconst (v := 0) C (by decide) dX11_replaceNext_54 rfl ?_
      refine Jc_cV (rest := []) (st9 := fun p_12 => [.int p_12]) C hR hX cv_RX11_208 rfl (Nat.le_of_ble_eq_true rfl) (k7_next hl rfl (Ok.ofbnd h)) rfl rfl (Nat.le_of_ble_eq_true rfl) (Nat.le_of_ble_eq_true rfl) (Nat.le_of_ble_eq_true rfl) ⟨(Nat.le_of_ble_eq_true rfl), (Nat.le_of_ble_eq_true rfl)⟩ dX11_replaceNext_55 rfl (fun E n9 w9 hx => JT_n hx) (fun _ => rfl) (fun p_12 h => ?_)
      have h : Ok _ _ := h
      change J X K 2 False QQ 0 0 2017 (jw K σ) 58 [(1, .int x1_1), (0, .ref (K.2.2 + 0))] [.int p_12]
      obtain ⟨x1_2, e_x1_2, h⟩ := Ok.nm h
      refine J_istoreE_n (i := 1) (lv' := [(1, .int x1_2), (0, .ref (K.2.2 + 0))]) C e_x1_2 dX11_replaceNext_58 rfl (Nat.le_of_ble_eq_true rfl) rfl rfl ?_
      refine J.sub [1, 0] rfl ?_
      exact hj_59 σ x1_2 h
  · have h := h.pos (Decidable.not_not.mp c_8)
    rw [← hQQ]
    exact J_throw (is := 203) (text := "there is no pattern") C hnt th_92 (by decide +kernel) dX11_replaceNext_10 dX11_replaceNext_13 dX11_replaceNext_14 dX11_replaceNext_16 dX11_replaceNext_19 (by rw [hR]; exact (Nat.le_of_ble_eq_true rfl)) (by rw [hR]; exact (Nat.le_of_ble_eq_true rfl)) (by rw [hR]; exact (Nat.le_of_ble_eq_true rfl)) (by rw [hR]; exact (Nat.le_of_ble_eq_true rfl)) (Nat.le_of_ble_eq_true rfl) (Nat.le_of_ble_eq_true rfl) ⟨3, σ, h.osome, rfl, rfl, rfl⟩
def f11_replaceAll_j117 (σ_117 : Sto) : Option ((Int32 × Sto) ⊕ (Nat × Sto)) :=
  stp (fI σ_117 13 4) fun x2_1 =>
  bnd (f11_perform σ_117) fun p_1 =>
  if p_1.1 = 0 then
    some (.inr (3, p_1.2))
  else
    some (.inl (x2_1, p_1.2))
def f11_replaceAll_b57 (σ_57 : Sto) (l1_57 : Int32) (l2_57 : Int32) : Option ((Sto × Int32 × Int32) ⊕ Sto) :=
  if (3000 : Int32) ≤ l2_57 then
    some (.inr σ_57)
  else
    if l1_57 = (-1 : Int32) then
      some (.inr σ_57)
    else
      stp (l1_57 + (fI σ_57 1990 1)) fun x3_2 =>
      bnd (f1_addPart σ_57 l1_57 x3_2 (fI σ_57 8 1)) fun p_5 =>
      bnd (f7_next p_5 1 x3_2) fun p_6 =>
      stp p_6 fun x1_3 =>
      stp (l2_57 + (1 : Int32)) fun x2_4 =>
      some (.inl (p_5, x1_3, x2_4))
def f11_replaceAll_j57 (σ_57 : Sto) (l1_57 : Int32) (l2_57 : Int32) : Option ((Int32 × Sto) ⊕ (Nat × Sto)) :=
  bnd (loopF (fun s_57 => f11_replaceAll_b57 s_57.1 s_57.2.1 s_57.2.2) FU (σ_57, l1_57, l2_57)) fun r_57 =>
    f11_replaceAll_j117 r_57
def f11_replaceAll (σ : Sto) : Option ((Int32 × Sto) ⊕ (Nat × Sto)) :=
  bnd (f7_isSet σ) fun p_7 =>
  if p_7 = 0 then
    some (.inr (3, σ))
  else
    bnd (f1_begin σ 9 (0 : Int32) (fI σ 8 1)) fun p_9 =>
    bnd (f7_next p_9 1 (0 : Int32)) fun p_10 =>
    stp p_10 fun x1_5 =>
    stp (0 : Int32) fun x2_6 =>
    f11_replaceAll_j57 p_9 x1_5 x2_6
set_option maxHeartbeats 4000000 in
set_option maxRecDepth 100000 in
theorem k11_replaceAll {l : Launch} {K : JK} (hl : l.stackTraces = false) {σ : Sto}   {Qf : (Int32 × Sto) ⊕ (Nat × Sto) → Prop} (h : Ok (f11_replaceAll σ) Qf) : Con l K yX11_replaceAll (.code yX11_replaceAll cX11_replaceAll 4 (some .int) :: TB) 6 1 6 False [.ref (K.2.2 + 0)] 2017 (jw K σ) (PR (fun p => Qf (.inl p)) (fun p => some (.int p.1)) (fun p => jw K p.2)) (PX Qf (fun s => jw K s)) := by
  refine Con.enter (own := RX11) hl (by decide) rfl (Nat.le_of_ble_eq_true rfl) ?_
  intro X hX hR C hret hnt
  generalize hQQ : jQ X K 1 6 (PR (fun p => Qf (.inl p)) (fun p => some (.int p.1)) (fun p => jw K p.2)) (PX Qf (fun s => jw K s)) False = QQ
  change J X K 4 False QQ 0 0 2017 (jw K σ) 0 [(0, .ref (K.2.2 + 0))] []
  have hj_117 : (∀ (σ_117 : Sto), Ok (f11_replaceAll_j117 σ_117) Qf → J X K 4 False QQ 0 0 2017 (jw K σ_117) 117 [(0, .ref (K.2.2 + 0))] []) := by
    intro σ_117 h
    unfold f11_replaceAll_j117 at h
    refine J_aload_n (i := 0) (p := 0) C dX11_replaceAll_117 rfl rfl rfl ?_
    refine Jc_getS (o2 := 13) (r2 := 13) C fp_RX11_35 rfl rfl rfl dX11_replaceAll_118 rfl ?_
    refine Jc_getI C fp_RX11_179 rfl rfl dX11_replaceAll_121 rfl ?_
    obtain ⟨x2_1, e_x2_1, h⟩ := Ok.nm h
    refine J_istoreE_n (i := 2) (lv' := [(2, .int x2_1), (0, .ref (K.2.2 + 0))]) C e_x2_1 dX11_replaceAll_124 rfl (Nat.le_of_ble_eq_true rfl) rfl rfl ?_
    refine J_aload_n (i := 0) (p := 1) C dX11_replaceAll_125 rfl rfl rfl ?_
    refine Jc_cV (rest := []) (st9 := fun p_1 => [.int p_1.1]) C hR hX cv_RX11_134 rfl (Nat.le_of_ble_eq_true rfl) (k11_perform hl  (Ok.ofbnd h)) rfl rfl (Nat.le_of_ble_eq_true rfl) (Nat.le_of_ble_eq_true rfl) (Nat.le_of_ble_eq_true rfl) ⟨(Nat.le_of_ble_eq_true rfl), (Nat.le_of_ble_eq_true rfl)⟩ dX11_replaceAll_126 rfl (fun E n9 w9 hx => JT_n hx) (fun _ => rfl) (fun p_1 h => ?_)
    have h : Ok _ _ := h
    change J X K 4 False QQ 0 0 2017 (jw K p_1.2) 129 [(2, .int x2_1), (0, .ref (K.2.2 + 0))] [.int p_1.1]
    refine J_if_ne (t := 142) C dX11_replaceAll_129 (by decide) rfl (fun c_2 => ?_) (fun c_2 => ?_)
    · have h := h.neg c_2
      refine J_iload_n (i := 2) (p := 0) C dX11_replaceAll_142 rfl rfl rfl ?_
      rw [← hQQ]
      exact J_iret C hret (Nat.le_of_ble_eq_true rfl) (Nat.le_of_ble_eq_true rfl) ⟨_, h.osome, rfl, rfl, rfl⟩ dX11_replaceAll_143
    · have h := h.pos (Decidable.not_not.mp c_2)
      rw [← hQQ]
      exact J_throw (is := 138) (text := "refused") C hnt th_92 (by decide +kernel) dX11_replaceAll_132 dX11_replaceAll_135 dX11_replaceAll_136 dX11_replaceAll_138 dX11_replaceAll_141 (by rw [hR]; exact (Nat.le_of_ble_eq_true rfl)) (by rw [hR]; exact (Nat.le_of_ble_eq_true rfl)) (by rw [hR]; exact (Nat.le_of_ble_eq_true rfl)) (by rw [hR]; exact (Nat.le_of_ble_eq_true rfl)) (Nat.le_of_ble_eq_true rfl) (Nat.le_of_ble_eq_true rfl) ⟨3, p_1.2, h.osome, rfl, rfl, rfl⟩
  have hj_57 : (∀ (σ_57 : Sto) (l1_57 : Int32) (l2_57 : Int32), Ok (f11_replaceAll_j57 σ_57 l1_57 l2_57) Qf → J X K 4 False QQ 0 0 2017 (jw K σ_57) 57 [(0, .ref (K.2.2 + 0)), (1, .int l1_57), (2, .int l2_57)] []) := by
    intro σ_57 l1_57 l2_57 h
    unfold f11_replaceAll_j57 at h
    refine loop_gen (S := Sto × Int32 × Int32) (P := fun s_57 => J X K 4 False QQ 0 0 2017 (jw K s_57.1) 57 [(0, .ref (K.2.2 + 0)), (1, .int s_57.2.1), (2, .int s_57.2.2)] []) ?_ FU (σ_57, l1_57, l2_57) (Ok.ofbnd h)
    intro B_57 hB_57 hE_57 s_57 h
    obtain ⟨σ_57, l1_57, l2_57⟩ := s_57
    have h : Ok (f11_replaceAll_b57 σ_57 l1_57 l2_57) B_57 := h
    change J X K 4 False QQ 0 0 2017 (jw K σ_57) 57 [(0, .ref (K.2.2 + 0)), (1, .int l1_57), (2, .int l2_57)] []
    unfold f11_replaceAll_b57 at h
    refine J_iload_n (i := 2) (p := 2) C dX11_replaceAll_57 rfl rfl rfl ?_
    refine J_sipush (v := 3000) C (by decide) dX11_replaceAll_58 rfl ?_
    refine J_icmp_ge (t := 117) C dX11_replaceAll_61 (by decide) rfl (fun c_3 => ?_) (fun c_3 => ?_)
    · have h := h.pos c_3
      have h := hE_57 σ_57 h.osome
      try dsimp only at h
      refine J.sub [0] rfl ?_
      exact hj_117 σ_57 h
    · have h := h.neg c_3
      refine J_iload_n (i := 1) (p := 1) C dX11_replaceAll_64 rfl rfl rfl ?_
      refine J_iconst (v := -1) C (by decide) dX11_replaceAll_65 rfl ?_
      refine J_icmp_eq (t := 117) C dX11_replaceAll_66 (by decide) rfl (fun c_4 => ?_) (fun c_4 => ?_)
      · have h := h.pos c_4
        have h := hE_57 σ_57 h.osome
        try dsimp only at h
        refine J.sub [0] rfl ?_
        exact hj_117 σ_57 h
      · have h := h.neg c_4
        refine J_iload_n (i := 1) (p := 1) C dX11_replaceAll_69 rfl rfl rfl ?_
        refine J_aload_n (i := 0) (p := 0) C dX11_replaceAll_70 rfl rfl rfl ?_
        refine Jc_getS (o2 := 1989) (r2 := 1989) C fp_RX11_49 rfl rfl rfl dX11_replaceAll_71 rfl ?_
        refine Jc_getS (o2 := 1) (r2 := 1990) C fp_RX11_212 rfl rfl rfl dX11_replaceAll_74 rfl ?_
        refine Jc_getI C fp_RX11_89 rfl rfl dX11_replaceAll_77 rfl ?_
        refine J_iadd C dX11_replaceAll_80 rfl ?_
        obtain ⟨x3_2, e_x3_2, h⟩ := Ok.nm h
        refine J_istoreE_n (i := 3) (lv' := [(3, .int x3_2), (0, .ref (K.2.2 + 0)), (1, .int l1_57), (2, .int l2_57)]) C e_x3_2 dX11_replaceAll_81 rfl (Nat.le_of_ble_eq_true rfl) rfl rfl ?_
        refine J_aload_n (i := 0) (p := 1) C dX11_replaceAll_82 rfl rfl rfl ?_
        refine Jc_getS (o2 := 13) (r2 := 13) C fp_RX11_35 rfl rfl rfl dX11_replaceAll_83 rfl ?_
        refine J_iload_n (i := 1) (p := 2) C dX11_replaceAll_86 rfl rfl rfl ?_
        refine J_iload_n (i := 3) (p := 0) C dX11_replaceAll_87 rfl rfl rfl ?_
        refine J_aload_n (i := 0) (p := 1) C dX11_replaceAll_88 rfl rfl rfl ?_
        refine Jc_getS (o2 := 8) (r2 := 8) C fp_RX11_21 rfl rfl rfl dX11_replaceAll_89 rfl ?_
        refine Jc_getI C fp_RX11_89 rfl rfl dX11_replaceAll_92 rfl ?_
        refine Jc_cV (rest := []) (st9 := fun p_5 => []) C hR hX cv_RX11_156 rfl (Nat.le_of_ble_eq_true rfl) (k1_addPart hl  (Ok.ofbnd h)) rfl rfl (Nat.le_of_ble_eq_true rfl) (Nat.le_of_ble_eq_true rfl) (Nat.le_of_ble_eq_true rfl) ⟨(Nat.le_of_ble_eq_true rfl), (Nat.le_of_ble_eq_true rfl)⟩ dX11_replaceAll_95 rfl (fun E n9 w9 hx => JT_n hx) (fun _ => rfl) (fun p_5 h => ?_)
        have h : Ok _ _ := h
        change J X K 4 False QQ 0 0 2017 (jw K p_5) 98 [(3, .int x3_2), (0, .ref (K.2.2 + 0)), (1, .int l1_57), (2, .int l2_57)] []
        refine J_aload_n (i := 0) (p := 1) C dX11_replaceAll_98 rfl rfl rfl ?_
        refine Jc_getS (o2 := 1989) (r2 := 1989) C fp_RX11_49 rfl rfl rfl dX11_replaceAll_99 rfl ?_
        refine J_aload_n (i := 0) (p := 1) C dX11_replaceAll_102 rfl rfl rfl ?_
        refine Jc_getS (o2 := 1) (r2 := 1) C fp_RX11_10 rfl rfl rfl dX11_replaceAll_103 rfl ?_
        refine J_iload_n (i := 3) (p := 0) C dX11_replaceAll_106 rfl rfl rfl ?_
        refine Jc_cV (rest := []) (st9 := fun p_6 => [.int p_6]) C hR hX cv_RX11_208 rfl (Nat.le_of_ble_eq_true rfl) (k7_next hl rfl (Ok.ofbnd h)) rfl rfl (Nat.le_of_ble_eq_true rfl) (Nat.le_of_ble_eq_true rfl) (Nat.le_of_ble_eq_true rfl) ⟨(Nat.le_of_ble_eq_true rfl), (Nat.le_of_ble_eq_true rfl)⟩ dX11_replaceAll_107 rfl (fun E n9 w9 hx => JT_n hx) (fun _ => rfl) (fun p_6 h => ?_)
        have h : Ok _ _ := h
        change J X K 4 False QQ 0 0 2017 (jw K p_5) 110 [(3, .int x3_2), (0, .ref (K.2.2 + 0)), (1, .int l1_57), (2, .int l2_57)] [.int p_6]
        obtain ⟨x1_3, e_x1_3, h⟩ := Ok.nm h
        refine J_istoreE_n (i := 1) (lv' := [(1, .int x1_3), (3, .int x3_2), (0, .ref (K.2.2 + 0)), (2, .int l2_57)]) C e_x1_3 dX11_replaceAll_110 rfl (Nat.le_of_ble_eq_true rfl) rfl rfl ?_
        obtain ⟨x2_4, e_x2_4, h⟩ := Ok.nm h
        refine J_iincE (i := 2) (p := 3) (lv' := [(2, .int x2_4), (1, .int x1_3), (3, .int x3_2), (0, .ref (K.2.2 + 0))]) C e_x2_4 dX11_replaceAll_111 rfl (by decide) (Nat.le_of_ble_eq_true rfl) rfl rfl ?_
        refine J_goto (t := 57) C dX11_replaceAll_114 (by decide) ?_
        refine J.sub [3, 1, 0] rfl ?_
        exact hB_57 (p_5, x1_3, x2_4) h.osome
  unfold f11_replaceAll at h
  refine J_aload_n (i := 0) (p := 0) C dX11_replaceAll_0 rfl rfl rfl ?_
  refine Jc_getS (o2 := 1989) (r2 := 1989) C fp_RX11_49 rfl rfl rfl dX11_replaceAll_1 rfl ?_
  refine Jc_cV (rest := []) (st9 := fun p_7 => [.int p_7]) C hR hX cv_RX11_200 rfl (Nat.le_of_ble_eq_true rfl) (k7_isSet hl  (Ok.ofbnd h)) rfl rfl (Nat.le_of_ble_eq_true rfl) (Nat.le_of_ble_eq_true rfl) (Nat.le_of_ble_eq_true rfl) ⟨(Nat.le_of_ble_eq_true rfl), (Nat.le_of_ble_eq_true rfl)⟩ dX11_replaceAll_4 rfl (fun E n9 w9 hx => JT_n hx) (fun _ => rfl) (fun p_7 h => ?_)
  have h : Ok _ _ := h
  change J X K 4 False QQ 0 0 2017 (jw K σ) 7 [(0, .ref (K.2.2 + 0))] [.int p_7]
  refine J_if_ne (t := 20) C dX11_replaceAll_7 (by decide) rfl (fun c_8 => ?_) (fun c_8 => ?_)
  · have h := h.neg c_8
    refine J_aload_n (i := 0) (p := 0) C dX11_replaceAll_20 rfl rfl rfl ?_
    refine Jc_getS (o2 := 13) (r2 := 13) C fp_RX11_35 rfl rfl rfl dX11_replaceAll_21 rfl ?_
    refine J_aload_n (i := 0) (p := 0) C dX11_replaceAll_24 rfl rfl rfl ?_
    refine Jc_getS (o2 := 8) (r2 := 8) C fp_RX11_21 rfl rfl rfl dX11_replaceAll_25 rfl ?_
    refine Jc_getS (o2 := 1) (r2 := 9) C fp_RX11_130 rfl rfl rfl dX11_replaceAll_28 rfl ?_
    refine J_iconst (v := 0) C (by decide) dX11_replaceAll_31 rfl ?_
    refine J_aload_n (i := 0) (p := 0) C dX11_replaceAll_32 rfl rfl rfl ?_
    refine Jc_getS (o2 := 8) (r2 := 8) C fp_RX11_21 rfl rfl rfl dX11_replaceAll_33 rfl ?_
    refine Jc_getI C fp_RX11_89 rfl rfl dX11_replaceAll_36 rfl ?_
    refine Jc_cV (rest := []) (st9 := fun p_9 => []) C hR hX cv_RX11_153 rfl (Nat.le_of_ble_eq_true rfl) (k1_begin hl rfl (Ok.ofbnd h)) rfl rfl (Nat.le_of_ble_eq_true rfl) (Nat.le_of_ble_eq_true rfl) (Nat.le_of_ble_eq_true rfl) ⟨(Nat.le_of_ble_eq_true rfl), (Nat.le_of_ble_eq_true rfl)⟩ dX11_replaceAll_39 rfl (fun E n9 w9 hx => JT_n hx) (fun _ => rfl) (fun p_9 h => ?_)
    have h : Ok _ _ := h
    change J X K 4 False QQ 0 0 2017 (jw K p_9) 42 [(0, .ref (K.2.2 + 0))] []
    refine J_aload_n (i := 0) (p := 0) C dX11_replaceAll_42 rfl rfl rfl ?_
    refine Jc_getS (o2 := 1989) (r2 := 1989) C fp_RX11_49 rfl rfl rfl dX11_replaceAll_43 rfl ?_
    refine J_aload_n (i := 0) (p := 0) C dX11_replaceAll_46 rfl rfl rfl ?_
    refine Jc_getS (o2 := 1) (r2 := 1) C fp_RX11_10 rfl rfl rfl dX11_replaceAll_47 rfl ?_
    refine J_iconst (v := 0) C (by decide) dX11_replaceAll_50 rfl ?_
    refine Jc_cV (rest := []) (st9 := fun p_10 => [.int p_10]) C hR hX cv_RX11_208 rfl (Nat.le_of_ble_eq_true rfl) (k7_next hl rfl (Ok.ofbnd h)) rfl rfl (Nat.le_of_ble_eq_true rfl) (Nat.le_of_ble_eq_true rfl) (Nat.le_of_ble_eq_true rfl) ⟨(Nat.le_of_ble_eq_true rfl), (Nat.le_of_ble_eq_true rfl)⟩ dX11_replaceAll_51 rfl (fun E n9 w9 hx => JT_n hx) (fun _ => rfl) (fun p_10 h => ?_)
    have h : Ok _ _ := h
    change J X K 4 False QQ 0 0 2017 (jw K p_9) 54 [(0, .ref (K.2.2 + 0))] [.int p_10]
    obtain ⟨x1_5, e_x1_5, h⟩ := Ok.nm h
    refine J_istoreE_n (i := 1) (lv' := [(1, .int x1_5), (0, .ref (K.2.2 + 0))]) C e_x1_5 dX11_replaceAll_54 rfl (Nat.le_of_ble_eq_true rfl) rfl rfl ?_
    refine J_iconst (v := 0) C (by decide) dX11_replaceAll_55 rfl ?_
    obtain ⟨x2_6, e_x2_6, h⟩ := Ok.nm h
    refine J_istoreE_n (i := 2) (lv' := [(2, .int x2_6), (1, .int x1_5), (0, .ref (K.2.2 + 0))]) C e_x2_6 dX11_replaceAll_56 rfl (Nat.le_of_ble_eq_true rfl) rfl rfl ?_
    refine J.sub [2, 1, 0] rfl ?_
    exact hj_57 p_9 x1_5 x2_6 h
  · have h := h.pos (Decidable.not_not.mp c_8)
    rw [← hQQ]
    exact J_throw (is := 203) (text := "there is no pattern") C hnt th_92 (by decide +kernel) dX11_replaceAll_10 dX11_replaceAll_13 dX11_replaceAll_14 dX11_replaceAll_16 dX11_replaceAll_19 (by rw [hR]; exact (Nat.le_of_ble_eq_true rfl)) (by rw [hR]; exact (Nat.le_of_ble_eq_true rfl)) (by rw [hR]; exact (Nat.le_of_ble_eq_true rfl)) (by rw [hR]; exact (Nat.le_of_ble_eq_true rfl)) (Nat.le_of_ble_eq_true rfl) (Nat.le_of_ble_eq_true rfl) ⟨3, σ, h.osome, rfl, rfl, rfl⟩
def f4_closeGroup (σ : Sto) : Option (Sto) :=
  stp (uI σ 24 3 (0 : Int32)) fun σx_1 =>
  stp (uI σx_1 24 4 (0 : Int32)) fun σx_2 =>
  some σx_2
set_option maxHeartbeats 4000000 in
set_option maxRecDepth 100000 in
theorem k4_closeGroup {l : Launch} {K : JK} (hl : l.stackTraces = false) {σ : Sto}   {Qf : Sto → Prop} (h : Ok (f4_closeGroup σ) Qf) : Con l K yX4_closeGroup (.code yX4_closeGroup cX4_closeGroup 1 none :: TB) 0 0 0 False [.ref (K.2.2 + 24)] 2017 (jw K σ) (PR Qf (fun p => none) (fun p => jw K p)) PN := by
  refine Con.enter (own := RX4) hl (by decide) rfl (Nat.le_of_ble_eq_true rfl) ?_
  intro X hX hR C hret hnt
  generalize hQQ : jQ X K 0 0 (PR Qf (fun p => none) (fun p => jw K p)) PN False = QQ
  change J X K 1 False QQ 0 0 2017 (jw K σ) 0 [(0, .ref (K.2.2 + 24))] []
  unfold f4_closeGroup at h
  refine J_aload_n (i := 0) (p := 0) C dX4_closeGroup_0 rfl rfl rfl ?_
  refine J_iconst (v := 0) C (by decide) dX4_closeGroup_1 rfl ?_
  obtain ⟨σx_1, e_σx_1, h⟩ := Ok.nm h
  refine Jc_putZ C id fp_RX4_26 fw_4_3 rfl rfl rfl rfl e_σx_1 dX4_closeGroup_2 rfl ?_
  refine J_aload_n (i := 0) (p := 0) C dX4_closeGroup_5 rfl rfl rfl ?_
  refine J_iconst (v := 0) C (by decide) dX4_closeGroup_6 rfl ?_
  obtain ⟨σx_2, e_σx_2, h⟩ := Ok.nm h
  refine Jc_putZ C id fp_RX4_30 fw_4_4 rfl rfl rfl rfl e_σx_2 dX4_closeGroup_7 rfl ?_
  rw [← hQQ]
  exact J_vret C hret (Nat.le_of_ble_eq_true rfl) (Nat.le_of_ble_eq_true rfl) ⟨_, h.osome, rfl, rfl, rfl⟩ dX4_closeGroup_10
def f5_become (σ : Sto) (a0 : Nat) (a1 : Nat) : Option (Sto) :=
  gd (cpok (0 : Int32) (0 : Int32) (Int32.ofNat 375) 375 375) <|
  stp (rL σ (a0 + 1) (va_cpy (aL σ (a1 + 1)) (aL σ (a0 + 1)) (Int32.toNatClampNeg (0 : Int32)) (Int32.toNatClampNeg (0 : Int32)) (Int32.toNatClampNeg (Int32.ofNat 375)))) fun σx_1 =>
  gd (cpok (0 : Int32) (0 : Int32) (Int32.ofNat 5) 5 5) <|
  stp (rL σx_1 (a0 + 2) (va_cpy (aL σx_1 (a1 + 2)) (aL σx_1 (a0 + 2)) (Int32.toNatClampNeg (0 : Int32)) (Int32.toNatClampNeg (0 : Int32)) (Int32.toNatClampNeg (Int32.ofNat 5)))) fun σx_2 =>
  gd (cpok (0 : Int32) (0 : Int32) (8 : Int32) 8 8) <|
  stp (rA σx_2 (a0 + 3) (va_cpy (aI σx_2 (a1 + 3)) (aI σx_2 (a0 + 3)) (Int32.toNatClampNeg (0 : Int32)) (Int32.toNatClampNeg (0 : Int32)) (Int32.toNatClampNeg (8 : Int32)))) fun σx_3 =>
  gd (cpok (0 : Int32) (0 : Int32) (16 : Int32) 16 16) <|
  stp (rA σx_3 (a0 + 4) (va_cpy (aI σx_3 (a1 + 4)) (aI σx_3 (a0 + 4)) (Int32.toNatClampNeg (0 : Int32)) (Int32.toNatClampNeg (0 : Int32)) (Int32.toNatClampNeg (16 : Int32)))) fun σx_4 =>
  gd (cpok (0 : Int32) (0 : Int32) (16 : Int32) 16 16) <|
  gd (fitZ (aI σx_4 (a1 + 5)) (Int32.toNatClampNeg (0 : Int32)) (Int32.toNatClampNeg (16 : Int32))) <|
  stp (rA σx_4 (a0 + 5) (va_cpy (aI σx_4 (a1 + 5)) (aI σx_4 (a0 + 5)) (Int32.toNatClampNeg (0 : Int32)) (Int32.toNatClampNeg (0 : Int32)) (Int32.toNatClampNeg (16 : Int32)))) fun σx_5 =>
  stp (uI σx_5 a0 1 (fI σx_5 a1 1)) fun σx_6 =>
  stp (uI σx_6 a0 4 (fI σx_6 a1 4)) fun σx_7 =>
  some σx_7
set_option maxHeartbeats 4000000 in
set_option maxRecDepth 100000 in
theorem k5_become {l : Launch} {K : JK} (hl : l.stackTraces = false) {σ : Sto} {a0 : Nat} {a1 : Nat} (h_a0 : kc a0 = 5) (h_a1 : kc a1 = 5) {Qf : Sto → Prop} (h : Ok (f5_become σ a0 a1) Qf) : Con l K yX5_become (.code yX5_become cX5_become 2 none :: TB) 1 0 0 False [.ref (K.2.2 + a0), .ref (K.2.2 + a1)] 2017 (jw K σ) (PR Qf (fun p => none) (fun p => jw K p)) PN := by
  refine Con.enter (own := RX5) hl (by decide) rfl (Nat.le_of_ble_eq_true rfl) ?_
  intro X hX hR C hret hnt
  generalize hQQ : jQ X K 0 0 (PR Qf (fun p => none) (fun p => jw K p)) PN False = QQ
  change J X K 2 False QQ 0 0 2017 (jw K σ) 0 [(0, .ref (K.2.2 + a0)), (1, .ref (K.2.2 + a1))] []
  unfold f5_become at h
  refine J_aload_n (i := 1) (p := 1) C dX5_become_0 rfl rfl rfl ?_
  refine Jc_getS (o2 := 1) (r2 := a1 + 1) C fp_RX5_9 rfl h_a1 rfl dX5_become_1 rfl ?_
  refine J_iconst (v := 0) C (by decide) dX5_become_4 rfl ?_
  refine J_aload_n (i := 0) (p := 0) C dX5_become_5 rfl rfl rfl ?_
  refine Jc_getS (o2 := 1) (r2 := a0 + 1) C fp_RX5_9 rfl h_a0 rfl dX5_become_6 rfl ?_
  refine J_iconst (v := 0) C (by decide) dX5_become_9 rfl ?_
  refine J_aload_n (i := 0) (p := 0) C dX5_become_10 rfl rfl rfl ?_
  refine Jc_getS (o2 := 1) (r2 := a0 + 1) C fp_RX5_9 rfl h_a0 rfl dX5_become_11 rfl ?_
  refine Jc_alen C 3 (ks_5_0 h_a0) (by decide) ((jc_L (kc_spec (ks_5_0 h_a0) (by decide)).2)) rfl dX5_become_14 rfl ?_
  rw [(ls_5_0 h_a0)]
  obtain ⟨g_1, h⟩ := Ok.ofgd h
  obtain ⟨σx_1, e_σx_1, h⟩ := Ok.nm h
  refine Jc_copyL C id ac_RX5_48 ac_nat ac_st ac_ini (ks_5_0 h_a1) (ks_5_0 h_a0) (ls_5_0 h_a1) (ls_5_0 h_a0) g_1 e_σx_1 (by rw [hR]; exact (Nat.le_of_ble_eq_true rfl)) (by rw [hR]; exact (Nat.le_of_ble_eq_true rfl)) dX5_become_15 rfl ?_
  refine J_aload_n (i := 1) (p := 1) C dX5_become_18 rfl rfl rfl ?_
  refine Jc_getS (o2 := 2) (r2 := a1 + 2) C fp_RX5_19 rfl h_a1 rfl dX5_become_19 rfl ?_
  refine J_iconst (v := 0) C (by decide) dX5_become_22 rfl ?_
  refine J_aload_n (i := 0) (p := 0) C dX5_become_23 rfl rfl rfl ?_
  refine Jc_getS (o2 := 2) (r2 := a0 + 2) C fp_RX5_19 rfl h_a0 rfl dX5_become_24 rfl ?_
  refine J_iconst (v := 0) C (by decide) dX5_become_27 rfl ?_
  refine J_aload_n (i := 0) (p := 0) C dX5_become_28 rfl rfl rfl ?_
  refine Jc_getS (o2 := 2) (r2 := a0 + 2) C fp_RX5_19 rfl h_a0 rfl dX5_become_29 rfl ?_
  refine Jc_alen C 3 (ks_5_2 h_a0) (by decide) ((jc_L (kc_spec (ks_5_2 h_a0) (by decide)).2)) rfl dX5_become_32 rfl ?_
  rw [(ls_5_2 h_a0)]
  obtain ⟨g_2, h⟩ := Ok.ofgd h
  obtain ⟨σx_2, e_σx_2, h⟩ := Ok.nm h
  refine Jc_copyL C id ac_RX5_48 ac_nat ac_st ac_ini (ks_5_2 h_a1) (ks_5_2 h_a0) (ls_5_2 h_a1) (ls_5_2 h_a0) g_2 e_σx_2 (by rw [hR]; exact (Nat.le_of_ble_eq_true rfl)) (by rw [hR]; exact (Nat.le_of_ble_eq_true rfl)) dX5_become_33 rfl ?_
  refine J_aload_n (i := 1) (p := 1) C dX5_become_36 rfl rfl rfl ?_
  refine Jc_getS (o2 := 3) (r2 := a1 + 3) C fp_RX5_22 rfl h_a1 rfl dX5_become_37 rfl ?_
  refine J_iconst (v := 0) C (by decide) dX5_become_40 rfl ?_
  refine J_aload_n (i := 0) (p := 0) C dX5_become_41 rfl rfl rfl ?_
  refine Jc_getS (o2 := 3) (r2 := a0 + 3) C fp_RX5_22 rfl h_a0 rfl dX5_become_42 rfl ?_
  refine J_iconst (v := 0) C (by decide) dX5_become_45 rfl ?_
  refine J_bipush (v := 8) C (by decide) dX5_become_46 rfl ?_
  obtain ⟨g_3, h⟩ := Ok.ofgd h
  obtain ⟨σx_3, e_σx_3, h⟩ := Ok.nm h
  refine Jc_copyI C id ac_RX5_48 ac_nat ac_st ac_ini (ks_5_3 h_a1) (ks_5_3 h_a0) (ls_5_3 h_a1) (ls_5_3 h_a0) g_3 e_σx_3 (fun _ _ => rfl) (by rw [hR]; exact (Nat.le_of_ble_eq_true rfl)) (by rw [hR]; exact (Nat.le_of_ble_eq_true rfl)) dX5_become_48 rfl ?_
  refine J_aload_n (i := 1) (p := 1) C dX5_become_51 rfl rfl rfl ?_
  refine Jc_getS (o2 := 4) (r2 := a1 + 4) C fp_RX5_29 rfl h_a1 rfl dX5_become_52 rfl ?_
  refine J_iconst (v := 0) C (by decide) dX5_become_55 rfl ?_
  refine J_aload_n (i := 0) (p := 0) C dX5_become_56 rfl rfl rfl ?_
  refine Jc_getS (o2 := 4) (r2 := a0 + 4) C fp_RX5_29 rfl h_a0 rfl dX5_become_57 rfl ?_
  refine J_iconst (v := 0) C (by decide) dX5_become_60 rfl ?_
  refine J_bipush (v := 16) C (by decide) dX5_become_61 rfl ?_
  obtain ⟨g_4, h⟩ := Ok.ofgd h
  obtain ⟨σx_4, e_σx_4, h⟩ := Ok.nm h
  refine Jc_copyI C id ac_RX5_48 ac_nat ac_st ac_ini (ks_5_5 h_a1) (ks_5_5 h_a0) (ls_5_5 h_a1) (ls_5_5 h_a0) g_4 e_σx_4 (fun _ _ => rfl) (by rw [hR]; exact (Nat.le_of_ble_eq_true rfl)) (by rw [hR]; exact (Nat.le_of_ble_eq_true rfl)) dX5_become_63 rfl ?_
  refine J_aload_n (i := 1) (p := 1) C dX5_become_66 rfl rfl rfl ?_
  refine Jc_getS (o2 := 5) (r2 := a1 + 5) C fp_RX5_32 rfl h_a1 rfl dX5_become_67 rfl ?_
  refine J_iconst (v := 0) C (by decide) dX5_become_70 rfl ?_
  refine J_aload_n (i := 0) (p := 0) C dX5_become_71 rfl rfl rfl ?_
  refine Jc_getS (o2 := 5) (r2 := a0 + 5) C fp_RX5_32 rfl h_a0 rfl dX5_become_72 rfl ?_
  refine J_iconst (v := 0) C (by decide) dX5_become_75 rfl ?_
  refine J_bipush (v := 16) C (by decide) dX5_become_76 rfl ?_
  obtain ⟨g_5, h⟩ := Ok.ofgd h
  obtain ⟨g_6, h⟩ := Ok.ofgd h
  obtain ⟨σx_5, e_σx_5, h⟩ := Ok.nm h
  refine Jc_copyZ C id ac_RX5_48 ac_nat ac_st ac_ini (ks_5_6 h_a1) (ks_5_6 h_a0) (ls_5_6 h_a1) (ls_5_6 h_a0) g_5 e_σx_5 (fitZ_spec g_6) (by rw [hR]; exact (Nat.le_of_ble_eq_true rfl)) (by rw [hR]; exact (Nat.le_of_ble_eq_true rfl)) dX5_become_78 rfl ?_
  refine J_aload_n (i := 0) (p := 0) C dX5_become_81 rfl rfl rfl ?_
  refine J_aload_n (i := 1) (p := 1) C dX5_become_82 rfl rfl rfl ?_
  refine Jc_getI C fp_RX5_15 h_a1 rfl dX5_become_83 rfl ?_
  obtain ⟨σx_6, e_σx_6, h⟩ := Ok.nm h
  refine Jc_putI C id fp_RX5_15 fw_5_1 rfl h_a0 rfl e_σx_6 dX5_become_86 rfl ?_
  refine J_aload_n (i := 0) (p := 0) C dX5_become_89 rfl rfl rfl ?_
  refine J_aload_n (i := 1) (p := 1) C dX5_become_90 rfl rfl rfl ?_
  refine Jc_getI C fp_RX5_26 h_a1 rfl dX5_become_91 rfl ?_
  obtain ⟨σx_7, e_σx_7, h⟩ := Ok.nm h
  refine Jc_putI C id fp_RX5_26 fw_5_4 rfl h_a0 rfl e_σx_7 dX5_become_94 rfl ?_
  rw [← hQQ]
  exact J_vret C hret (Nat.le_of_ble_eq_true rfl) (Nat.le_of_ble_eq_true rfl) ⟨_, h.osome, rfl, rfl, rfl⟩ dX5_become_97
def f8_findLines_j71 (a0 : Nat) (σ_71 : Sto) : Option (Sto) :=
  some σ_71
def f8_findLines_j65 (a0 : Nat) (σ_65 : Sto) (l1_65 : Int32) : Option ((Sto × Int32) ⊕ Sto) :=
  stp (l1_65 + (1 : Int32)) fun x1_1 =>
  some (.inl (σ_65, x1_1))
def f8_findLines_b14 (a0 : Nat) (σ_14 : Sto) (l1_14 : Int32) : Option ((Sto × Int32) ⊕ Sto) :=
  if (fI σ_14 a0 1) ≤ l1_14 then
    some (.inr σ_14)
  else
    if (300 : Int32) ≤ (fI σ_14 a0 4) then
      some (.inr σ_14)
    else
      gd (okr (fR σ_14 a0 0) 13) <|
      gd (inb l1_14 (ln ((fR σ_14 a0 0) - 1))) <|
      if (aI σ_14 ((fR σ_14 a0 0) - 1) (Int32.toNatClampNeg l1_14)) = (10 : Int32) then
        gd (okr (fR σ_14 a0 2) 12) <|
        gd (inb (fI σ_14 a0 4) (ln ((fR σ_14 a0 2) - 1))) <|
        stp (uA σ_14 ((fR σ_14 a0 2) - 1) (Int32.toNatClampNeg (fI σ_14 a0 4)) (l1_14 + (1 : Int32))) fun σx_2 =>
        stp (uI σx_2 a0 4 ((fI σx_2 a0 4) + (1 : Int32))) fun σx_3 =>
        f8_findLines_j65 a0 σx_3 l1_14
      else
        f8_findLines_j65 a0 σ_14 l1_14
def f8_findLines_j14 (a0 : Nat) (σ_14 : Sto) (l1_14 : Int32) : Option (Sto) :=
  bnd (loopF (fun s_14 => f8_findLines_b14 a0 s_14.1 s_14.2) FU (σ_14, l1_14)) fun r_14 =>
    f8_findLines_j71 a0 r_14
def f8_findLines (σ : Sto) (a0 : Nat) : Option (Sto) :=
  gd (okr (fR σ a0 2) 12) <|
  gd (inb (0 : Int32) (ln ((fR σ a0 2) - 1))) <|
  stp (uA σ ((fR σ a0 2) - 1) (Int32.toNatClampNeg (0 : Int32)) (0 : Int32)) fun σx_4 =>
  stp (uI σx_4 a0 4 (1 : Int32)) fun σx_5 =>
  stp (0 : Int32) fun x1_6 =>
  f8_findLines_j14 a0 σx_5 x1_6
set_option maxHeartbeats 4000000 in
set_option maxRecDepth 100000 in
theorem k8_findLines {l : Launch} {K : JK} (hl : l.stackTraces = false) {σ : Sto} {a0 : Nat} (h_a0 : kc a0 = 8) {Qf : Sto → Prop} (h : Ok (f8_findLines σ a0) Qf) : Con l K yX8_findLines (.code yX8_findLines cX8_findLines 2 none :: TB) 0 0 0 False [.ref (K.2.2 + a0)] 2017 (jw K σ) (PR Qf (fun p => none) (fun p => jw K p)) PN := by
  refine Con.enter (own := RX8) hl (by decide) rfl (Nat.le_of_ble_eq_true rfl) ?_
  intro X hX hR C hret hnt
  generalize hQQ : jQ X K 0 0 (PR Qf (fun p => none) (fun p => jw K p)) PN False = QQ
  change J X K 2 False QQ 0 0 2017 (jw K σ) 0 [(0, .ref (K.2.2 + a0))] []
  have hj_71 : (∀ (σ_71 : Sto), Ok (f8_findLines_j71 a0 σ_71) Qf → J X K 2 False QQ 0 0 2017 (jw K σ_71) 71 [] []) := by
    intro σ_71 h
    unfold f8_findLines_j71 at h
    rw [← hQQ]
    exact J_vret C hret (Nat.le_of_ble_eq_true rfl) (Nat.le_of_ble_eq_true rfl) ⟨_, h.osome, rfl, rfl, rfl⟩ dX8_findLines_71
  have hj_14 : (∀ (σ_14 : Sto) (l1_14 : Int32), Ok (f8_findLines_j14 a0 σ_14 l1_14) Qf → J X K 2 False QQ 0 0 2017 (jw K σ_14) 14 [(0, .ref (K.2.2 + a0)), (1, .int l1_14)] []) := by
    intro σ_14 l1_14 h
    unfold f8_findLines_j14 at h
    refine loop_gen (S := Sto × Int32) (P := fun s_14 => J X K 2 False QQ 0 0 2017 (jw K s_14.1) 14 [(0, .ref (K.2.2 + a0)), (1, .int s_14.2)] []) ?_ FU (σ_14, l1_14) (Ok.ofbnd h)
    intro B_14 hB_14 hE_14 s_14 h
    obtain ⟨σ_14, l1_14⟩ := s_14
    have h : Ok (f8_findLines_b14 a0 σ_14 l1_14) B_14 := h
    change J X K 2 False QQ 0 0 2017 (jw K σ_14) 14 [(0, .ref (K.2.2 + a0)), (1, .int l1_14)] []
    have hj_65 : (∀ (σ_65 : Sto) (l1_65 : Int32), Ok (f8_findLines_j65 a0 σ_65 l1_65) B_14 → J X K 2 False QQ 0 0 2017 (jw K σ_65) 65 [(0, .ref (K.2.2 + a0)), (1, .int l1_65)] []) := by
      intro σ_65 l1_65 h
      unfold f8_findLines_j65 at h
      obtain ⟨x1_1, e_x1_1, h⟩ := Ok.nm h
      refine J_iincE (i := 1) (p := 1) (lv' := [(1, .int x1_1), (0, .ref (K.2.2 + a0))]) C e_x1_1 dX8_findLines_65 rfl (by decide) (Nat.le_of_ble_eq_true rfl) rfl rfl ?_
      refine J_goto (t := 14) C dX8_findLines_68 (by decide) ?_
      refine J.sub [1, 0] rfl ?_
      exact hB_14 (σ_65, x1_1) h.osome
    unfold f8_findLines_b14 at h
    refine J_iload_n (i := 1) (p := 1) C dX8_findLines_14 rfl rfl rfl ?_
    refine J_aload_n (i := 0) (p := 0) C dX8_findLines_15 rfl rfl rfl ?_
    refine Jc_getI C fp_RX8_15 h_a0 rfl dX8_findLines_16 rfl ?_
    refine J_icmp_ge (t := 71) C dX8_findLines_19 (by decide) rfl (fun c_1 => ?_) (fun c_1 => ?_)
    · have h := h.pos c_1
      have h := hE_14 σ_14 h.osome
      try dsimp only at h
      refine J.sub [] rfl ?_
      exact hj_71 σ_14 h
    · have h := h.neg c_1
      refine J_aload_n (i := 0) (p := 0) C dX8_findLines_22 rfl rfl rfl ?_
      refine Jc_getI C fp_RX8_27 h_a0 rfl dX8_findLines_23 rfl ?_
      refine J_sipush (v := 300) C (by decide) dX8_findLines_26 rfl ?_
      refine J_icmp_ge (t := 71) C dX8_findLines_29 (by decide) rfl (fun c_2 => ?_) (fun c_2 => ?_)
      · have h := h.pos c_2
        have h := hE_14 σ_14 h.osome
        try dsimp only at h
        refine J.sub [] rfl ?_
        exact hj_71 σ_14 h
      · have h := h.neg c_2
        refine J_aload_n (i := 0) (p := 0) C dX8_findLines_32 rfl rfl rfl ?_
        refine Jc_getD C fp_RX8_9 h_a0 rfl dX8_findLines_33 rfl ?_
        refine J_iload_n (i := 1) (p := 1) C dX8_findLines_36 rfl rfl rfl ?_
        obtain ⟨g_3, h⟩ := Ok.ofgd h
        rw [jv_pos (r := fR σ_14 a0 0) (okr_spec g_3).1]
        obtain ⟨g_4, h⟩ := Ok.ofgd h
        refine Jc_bald C (okr_spec g_3).2 rfl g_4 dX8_findLines_37 rfl ?_
        refine J_bipush (v := 10) C (by decide) dX8_findLines_38 rfl ?_
        refine J_icmp_ne (t := 65) C dX8_findLines_40 (by decide) rfl (fun c_5 => ?_) (fun c_5 => ?_)
        · have h := h.neg c_5
          exact hj_65 σ_14 l1_14 h
        · have h := h.pos (Decidable.not_not.mp c_5)
          refine J_aload_n (i := 0) (p := 0) C dX8_findLines_43 rfl rfl rfl ?_
          refine Jc_getD C fp_RX8_19 h_a0 rfl dX8_findLines_44 rfl ?_
          refine J_aload_n (i := 0) (p := 0) C dX8_findLines_47 rfl rfl rfl ?_
          refine Jc_getI C fp_RX8_27 h_a0 rfl dX8_findLines_48 rfl ?_
          refine J_iload_n (i := 1) (p := 1) C dX8_findLines_51 rfl rfl rfl ?_
          refine J_iconst (v := 1) C (by decide) dX8_findLines_52 rfl ?_
          refine J_iadd C dX8_findLines_53 rfl ?_
          obtain ⟨g_6, h⟩ := Ok.ofgd h
          rw [jv_pos (r := fR σ_14 a0 2) (okr_spec g_6).1]
          obtain ⟨g_7, h⟩ := Ok.ofgd h
          obtain ⟨σx_2, e_σx_2, h⟩ := Ok.nm h
          refine Jc_iast C id (okr_spec g_6).2 rfl g_7 e_σx_2 dX8_findLines_54 rfl ?_
          refine J_aload_n (i := 0) (p := 0) C dX8_findLines_55 rfl rfl rfl ?_
          refine J_dup C rfl dX8_findLines_56 rfl ?_
          refine Jc_getI C fp_RX8_27 h_a0 rfl dX8_findLines_57 rfl ?_
          refine J_iconst (v := 1) C (by decide) dX8_findLines_60 rfl ?_
          refine J_iadd C dX8_findLines_61 rfl ?_
          obtain ⟨σx_3, e_σx_3, h⟩ := Ok.nm h
          refine Jc_putI C id fp_RX8_27 fw_8_4 rfl h_a0 rfl e_σx_3 dX8_findLines_62 rfl ?_
          exact hj_65 σx_3 l1_14 h
  unfold f8_findLines at h
  refine J_aload_n (i := 0) (p := 0) C dX8_findLines_0 rfl rfl rfl ?_
  refine Jc_getD C fp_RX8_19 h_a0 rfl dX8_findLines_1 rfl ?_
  refine J_iconst (v := 0) C (by decide) dX8_findLines_4 rfl ?_
  refine J_iconst (v := 0) C (by decide) dX8_findLines_5 rfl ?_
  obtain ⟨g_8, h⟩ := Ok.ofgd h
  rw [jv_pos (r := fR σ a0 2) (okr_spec g_8).1]
  obtain ⟨g_9, h⟩ := Ok.ofgd h
  obtain ⟨σx_4, e_σx_4, h⟩ := Ok.nm h
  refine Jc_iast C id (okr_spec g_8).2 rfl g_9 e_σx_4 dX8_findLines_6 rfl ?_
  refine J_aload_n (i := 0) (p := 0) C dX8_findLines_7 rfl rfl rfl ?_
  refine J_iconst (v := 1) C (by decide) dX8_findLines_8 rfl ?_
  obtain ⟨σx_5, e_σx_5, h⟩ := Ok.nm h
  refine Jc_putI C id fp_RX8_27 fw_8_4 rfl h_a0 rfl e_σx_5 dX8_findLines_9 rfl ?_
  refine J_iconst (v := 0) C (by decide) dX8_findLines_12 rfl ?_
  obtain ⟨x1_6, e_x1_6, h⟩ := Ok.nm h
  refine J_istoreE_n (i := 1) (lv' := [(1, .int x1_6), (0, .ref (K.2.2 + a0))]) C e_x1_6 dX8_findLines_13 rfl (Nat.le_of_ble_eq_true rfl) rfl rfl ?_
  refine J.sub [1, 0] rfl ?_
  exact hj_14 σx_5 x1_6 h
def f5_bringBack_j94 (a0 : Nat) (a1 : Nat) (σ_94 : Sto) (l2_94 : Int32) (s0_94 : Nat) (s1_94 : Int32) (s2_94 : Int32) : Option ((Sto × Int32) ⊕ Sto) :=
  gd (okr s0_94 14) <|
  gd (inb s1_94 (ln (s0_94 - 1))) <|
  stp (uA σ_94 (s0_94 - 1) (Int32.toNatClampNeg s1_94) (vp_nar .boolean s2_94)) fun σx_1 =>
  stp (l2_94 + (1 : Int32)) fun x2_2 =>
  some (.inl (σx_1, x2_2))
def f5_bringBack_b55 (a0 : Nat) (a1 : Nat) (σ_55 : Sto) (l2_55 : Int32) : Option ((Sto × Int32) ⊕ Sto) :=
  if (fI σ_55 a1 4) ≤ l2_55 then
    some (.inr σ_55)
  else
    gd (inb (l2_55 / (64 : Int32)) 5) <|
    if (lg_cmp ((UInt64.toInt64 (Int64.toUInt64 (aL σ_55 (a0 + 2) (Int32.toNatClampNeg (l2_55 / (64 : Int32)))) >>> (Int64.toUInt64 (Int32.toInt64 (l2_55 - l2_55 / (64 : Int32) * (64 : Int32))) &&& Int64.toUInt64 63))) &&& (1 : Int64)) (1 : Int64)) = 0 then
      f5_bringBack_j94 a0 a1 σ_55 l2_55 (fR σ_55 a1 3) l2_55 (1 : Int32)
    else
      f5_bringBack_j94 a0 a1 σ_55 l2_55 (fR σ_55 a1 3) l2_55 (0 : Int32)
def f5_bringBack_j55 (a0 : Nat) (a1 : Nat) (σ_55 : Sto) (l2_55 : Int32) : Option (Sto) :=
  bnd (loopF (fun s_55 => f5_bringBack_b55 a0 a1 s_55.1 s_55.2) FU (σ_55, l2_55)) fun r_55 =>
    gd (cpok (0 : Int32) (0 : Int32) (8 : Int32) 8 8) <|
    stp (rA r_55 (a1 + 4) (va_cpy (aI r_55 (a0 + 3)) (aI r_55 (a1 + 4)) (Int32.toNatClampNeg (0 : Int32)) (Int32.toNatClampNeg (0 : Int32)) (Int32.toNatClampNeg (8 : Int32)))) fun σx_7 =>
    gd (cpok (0 : Int32) (0 : Int32) (16 : Int32) 16 16) <|
    stp (rA σx_7 (a1 + 5) (va_cpy (aI σx_7 (a0 + 4)) (aI σx_7 (a1 + 5)) (Int32.toNatClampNeg (0 : Int32)) (Int32.toNatClampNeg (0 : Int32)) (Int32.toNatClampNeg (16 : Int32)))) fun σx_8 =>
    gd (cpok (0 : Int32) (0 : Int32) (16 : Int32) 16 16) <|
    gd (fitZ (aI σx_8 (a0 + 5)) (Int32.toNatClampNeg (0 : Int32)) (Int32.toNatClampNeg (16 : Int32))) <|
    stp (rA σx_8 (a1 + 6) (va_cpy (aI σx_8 (a0 + 5)) (aI σx_8 (a1 + 6)) (Int32.toNatClampNeg (0 : Int32)) (Int32.toNatClampNeg (0 : Int32)) (Int32.toNatClampNeg (16 : Int32)))) fun σx_9 =>
    stp (uI σx_9 a1 6 (fI σx_9 a0 4)) fun σx_10 =>
    some σx_10
def f5_bringBack_b2 (a0 : Nat) (a1 : Nat) (σ_2 : Sto) (l2_2 : Int32) : Option ((Sto × Int32) ⊕ Sto) :=
  if (fI σ_2 a0 1) ≤ l2_2 then
    some (.inr σ_2)
  else
    gd (inb (l2_2 / (8 : Int32)) 375) <|
    gd (okr (fR σ_2 a1 0) 13) <|
    gd (inb l2_2 (ln ((fR σ_2 a1 0) - 1))) <|
    stp (uA σ_2 ((fR σ_2 a1 0) - 1) (Int32.toNatClampNeg l2_2) (vp_nar .byte (Int8.toInt32 (Int32.toInt8 (Int64.toInt32 (UInt64.toInt64 (Int64.toUInt64 (aL σ_2 (a0 + 1) (Int32.toNatClampNeg (l2_2 / (8 : Int32)))) >>> (Int64.toUInt64 (Int32.toInt64 ((l2_2 - l2_2 / (8 : Int32) * (8 : Int32)) * (8 : Int32))) &&& Int64.toUInt64 63)))))))) fun σx_13 =>
    stp (l2_2 + (1 : Int32)) fun x2_14 =>
    some (.inl (σx_13, x2_14))
def f5_bringBack_j2 (a0 : Nat) (a1 : Nat) (σ_2 : Sto) (l2_2 : Int32) : Option (Sto) :=
  bnd (loopF (fun s_2 => f5_bringBack_b2 a0 a1 s_2.1 s_2.2) FU (σ_2, l2_2)) fun r_2 =>
    stp (uI r_2 a1 1 (fI r_2 a0 1)) fun σx_15 =>
    bnd (f8_findLines σx_15 a1) fun p_19 =>
    stp (0 : Int32) fun x2_16 =>
    f5_bringBack_j55 a0 a1 p_19 x2_16
def f5_bringBack (σ : Sto) (a0 : Nat) (a1 : Nat) : Option (Sto) :=
  stp (0 : Int32) fun x2_17 =>
  f5_bringBack_j2 a0 a1 σ x2_17
set_option maxHeartbeats 4000000 in
set_option maxRecDepth 100000 in
theorem k5_bringBack {l : Launch} {K : JK} (hl : l.stackTraces = false) {σ : Sto} {a0 : Nat} {a1 : Nat} (h_a0 : kc a0 = 5) (h_a1 : kc a1 = 8) {Qf : Sto → Prop} (h : Ok (f5_bringBack σ a0 a1) Qf) : Con l K yX5_bringBack (.code yX5_bringBack cX5_bringBack 3 none :: TB) 1 0 0 False [.ref (K.2.2 + a0), .ref (K.2.2 + a1)] 2017 (jw K σ) (PR Qf (fun p => none) (fun p => jw K p)) PN := by
  refine Con.enter (own := RX5) hl (by decide) rfl (Nat.le_of_ble_eq_true rfl) ?_
  intro X hX hR C hret hnt
  generalize hQQ : jQ X K 0 0 (PR Qf (fun p => none) (fun p => jw K p)) PN False = QQ
  change J X K 3 False QQ 0 0 2017 (jw K σ) 0 [(0, .ref (K.2.2 + a0)), (1, .ref (K.2.2 + a1))] []
  have hj_55 : (∀ (σ_55 : Sto) (l2_55 : Int32), Ok (f5_bringBack_j55 a0 a1 σ_55 l2_55) Qf → J X K 3 False QQ 0 0 2017 (jw K σ_55) 55 [(0, .ref (K.2.2 + a0)), (1, .ref (K.2.2 + a1)), (2, .int l2_55)] []) := by
    intro σ_55 l2_55 h
    unfold f5_bringBack_j55 at h
    refine loop_gen (S := Sto × Int32) (P := fun s_55 => J X K 3 False QQ 0 0 2017 (jw K s_55.1) 55 [(0, .ref (K.2.2 + a0)), (1, .ref (K.2.2 + a1)), (2, .int s_55.2)] []) ?_ FU (σ_55, l2_55) (Ok.ofbnd h)
    intro B_55 hB_55 hE_55 s_55 h
    obtain ⟨σ_55, l2_55⟩ := s_55
    have h : Ok (f5_bringBack_b55 a0 a1 σ_55 l2_55) B_55 := h
    change J X K 3 False QQ 0 0 2017 (jw K σ_55) 55 [(0, .ref (K.2.2 + a0)), (1, .ref (K.2.2 + a1)), (2, .int l2_55)] []
    have hj_94 : (∀ (σ_94 : Sto) (l2_94 : Int32) (s0_94 : Nat) (s1_94 : Int32) (s2_94 : Int32), Ok (f5_bringBack_j94 a0 a1 σ_94 l2_94 s0_94 s1_94 s2_94) B_55 → J X K 3 False QQ 0 0 2017 (jw K σ_94) 94 [(0, .ref (K.2.2 + a0)), (1, .ref (K.2.2 + a1)), (2, .int l2_94)] [.int s2_94, .int s1_94, jv K.2.2 s0_94]) := by
      intro σ_94 l2_94 s0_94 s1_94 s2_94 h
      unfold f5_bringBack_j94 at h
      obtain ⟨g_1, h⟩ := Ok.ofgd h
      rw [jv_pos (r := s0_94) (okr_spec g_1).1]
      obtain ⟨g_2, h⟩ := Ok.ofgd h
      obtain ⟨σx_1, e_σx_1, h⟩ := Ok.nm h
      refine Jc_zast C id (okr_spec g_1).2 rfl g_2 e_σx_1 dX5_bringBack_94 rfl ?_
      obtain ⟨x2_2, e_x2_2, h⟩ := Ok.nm h
      refine J_iincE (i := 2) (p := 2) (lv' := [(2, .int x2_2), (0, .ref (K.2.2 + a0)), (1, .ref (K.2.2 + a1))]) C e_x2_2 dX5_bringBack_95 rfl (by decide) (Nat.le_of_ble_eq_true rfl) rfl rfl ?_
      refine J_goto (t := 55) C dX5_bringBack_98 (by decide) ?_
      refine J.sub [1, 2, 0] rfl ?_
      exact hB_55 (σx_1, x2_2) h.osome
    unfold f5_bringBack_b55 at h
    refine J_iload_n (i := 2) (p := 2) C dX5_bringBack_55 rfl rfl rfl ?_
    refine J_aload_n (i := 1) (p := 1) C dX5_bringBack_56 rfl rfl rfl ?_
    refine Jc_getI C fp_RX5_42 h_a1 rfl dX5_bringBack_57 rfl ?_
    refine J_icmp_ge (t := 101) C dX5_bringBack_60 (by decide) rfl (fun c_3 => ?_) (fun c_3 => ?_)
    · have h := h.pos c_3
      have h := hE_55 σ_55 h.osome
      try dsimp only at h
      refine J_aload_n (i := 0) (p := 0) C dX5_bringBack_101 rfl rfl rfl ?_
      refine Jc_getS (o2 := 3) (r2 := a0 + 3) C fp_RX5_22 rfl h_a0 rfl dX5_bringBack_102 rfl ?_
      refine J_iconst (v := 0) C (by decide) dX5_bringBack_105 rfl ?_
      refine J_aload_n (i := 1) (p := 1) C dX5_bringBack_106 rfl rfl rfl ?_
      refine Jc_getS (o2 := 4) (r2 := a1 + 4) C fp_RX5_47 rfl h_a1 rfl dX5_bringBack_107 rfl ?_
      refine J_iconst (v := 0) C (by decide) dX5_bringBack_110 rfl ?_
      refine J_bipush (v := 8) C (by decide) dX5_bringBack_111 rfl ?_
      obtain ⟨g_4, h⟩ := Ok.ofgd h
      obtain ⟨σx_3, e_σx_3, h⟩ := Ok.nm h
      refine Jc_copyI C id ac_RX5_48 ac_nat ac_st ac_ini (ks_5_3 h_a0) (ks_8_5 h_a1) (ls_5_3 h_a0) (ls_8_5 h_a1) g_4 e_σx_3 (fun _ _ => rfl) (by rw [hR]; exact (Nat.le_of_ble_eq_true rfl)) (by rw [hR]; exact (Nat.le_of_ble_eq_true rfl)) dX5_bringBack_113 rfl ?_
      refine J_aload_n (i := 0) (p := 0) C dX5_bringBack_116 rfl rfl rfl ?_
      refine Jc_getS (o2 := 4) (r2 := a0 + 4) C fp_RX5_29 rfl h_a0 rfl dX5_bringBack_117 rfl ?_
      refine J_iconst (v := 0) C (by decide) dX5_bringBack_120 rfl ?_
      refine J_aload_n (i := 1) (p := 1) C dX5_bringBack_121 rfl rfl rfl ?_
      refine Jc_getS (o2 := 5) (r2 := a1 + 5) C fp_RX5_54 rfl h_a1 rfl dX5_bringBack_122 rfl ?_
      refine J_iconst (v := 0) C (by decide) dX5_bringBack_125 rfl ?_
      refine J_bipush (v := 16) C (by decide) dX5_bringBack_126 rfl ?_
      obtain ⟨g_5, h⟩ := Ok.ofgd h
      obtain ⟨σx_4, e_σx_4, h⟩ := Ok.nm h
      refine Jc_copyI C id ac_RX5_48 ac_nat ac_st ac_ini (ks_5_5 h_a0) (ks_8_7 h_a1) (ls_5_5 h_a0) (ls_8_7 h_a1) g_5 e_σx_4 (fun _ _ => rfl) (by rw [hR]; exact (Nat.le_of_ble_eq_true rfl)) (by rw [hR]; exact (Nat.le_of_ble_eq_true rfl)) dX5_bringBack_128 rfl ?_
      refine J_aload_n (i := 0) (p := 0) C dX5_bringBack_131 rfl rfl rfl ?_
      refine Jc_getS (o2 := 5) (r2 := a0 + 5) C fp_RX5_32 rfl h_a0 rfl dX5_bringBack_132 rfl ?_
      refine J_iconst (v := 0) C (by decide) dX5_bringBack_135 rfl ?_
      refine J_aload_n (i := 1) (p := 1) C dX5_bringBack_136 rfl rfl rfl ?_
      refine Jc_getS (o2 := 6) (r2 := a1 + 6) C fp_RX5_55 rfl h_a1 rfl dX5_bringBack_137 rfl ?_
      refine J_iconst (v := 0) C (by decide) dX5_bringBack_140 rfl ?_
      refine J_bipush (v := 16) C (by decide) dX5_bringBack_141 rfl ?_
      obtain ⟨g_6, h⟩ := Ok.ofgd h
      obtain ⟨g_7, h⟩ := Ok.ofgd h
      obtain ⟨σx_5, e_σx_5, h⟩ := Ok.nm h
      refine Jc_copyZ C id ac_RX5_48 ac_nat ac_st ac_ini (ks_5_6 h_a0) (ks_8_8 h_a1) (ls_5_6 h_a0) (ls_8_8 h_a1) g_6 e_σx_5 (fitZ_spec g_7) (by rw [hR]; exact (Nat.le_of_ble_eq_true rfl)) (by rw [hR]; exact (Nat.le_of_ble_eq_true rfl)) dX5_bringBack_143 rfl ?_
      refine J_aload_n (i := 1) (p := 1) C dX5_bringBack_146 rfl rfl rfl ?_
      refine J_aload_n (i := 0) (p := 0) C dX5_bringBack_147 rfl rfl rfl ?_
      refine Jc_getI C fp_RX5_26 h_a0 rfl dX5_bringBack_148 rfl ?_
      obtain ⟨σx_6, e_σx_6, h⟩ := Ok.nm h
      refine Jc_putI C id fp_RX5_56 fw_8_6 rfl h_a1 rfl e_σx_6 dX5_bringBack_151 rfl ?_
      rw [← hQQ]
      exact J_vret C hret (Nat.le_of_ble_eq_true rfl) (Nat.le_of_ble_eq_true rfl) ⟨_, h.osome, rfl, rfl, rfl⟩ dX5_bringBack_154
    · have h := h.neg c_3
      refine J_aload_n (i := 1) (p := 1) C dX5_bringBack_63 rfl rfl rfl ?_
      refine Jc_getD C fp_RX5_45 h_a1 rfl dX5_bringBack_64 rfl ?_
      refine J_iload_n (i := 2) (p := 2) C dX5_bringBack_67 rfl rfl rfl ?_
      refine J_aload_n (i := 0) (p := 0) C dX5_bringBack_68 rfl rfl rfl ?_
      refine Jc_getS (o2 := 2) (r2 := a0 + 2) C fp_RX5_19 rfl h_a0 rfl dX5_bringBack_69 rfl ?_
      refine J_iload_n (i := 2) (p := 2) C dX5_bringBack_72 rfl rfl rfl ?_
      refine J_bipush (v := 64) C (by decide) dX5_bringBack_73 rfl ?_
      refine J_idiv C (by decide) dX5_bringBack_75 rfl ?_
      obtain ⟨g_8, h⟩ := Ok.ofgd h
      refine Jc_lald C (ks_5_2 h_a0) (ls_5_2 h_a0) g_8 dX5_bringBack_76 rfl ?_
      refine J_iload_n (i := 2) (p := 2) C dX5_bringBack_77 rfl rfl rfl ?_
      refine J_bipush (v := 64) C (by decide) dX5_bringBack_78 rfl ?_
      refine J_irem C (by decide) dX5_bringBack_80 rfl ?_
      refine J_lushr C dX5_bringBack_81 rfl ?_
      refine J_lconst (v := 1) C (by decide) dX5_bringBack_82 rfl ?_
      refine J_land C dX5_bringBack_83 rfl ?_
      refine J_lconst (v := 1) C (by decide) dX5_bringBack_84 rfl ?_
      refine J_lcmp C dX5_bringBack_85 rfl ?_
      refine J_if_ne (t := 93) C dX5_bringBack_86 (by decide) rfl (fun c_9 => ?_) (fun c_9 => ?_)
      · have h := h.neg c_9
        refine J_iconst (v := 0) C (by decide) dX5_bringBack_93 rfl ?_
        exact hj_94 σ_55 l2_55 (fR σ_55 a1 3) l2_55 (0 : Int32) h
      · have h := h.pos (Decidable.not_not.mp c_9)
        refine J_iconst (v := 1) C (by decide) dX5_bringBack_89 rfl ?_
        refine J_goto (t := 94) C dX5_bringBack_90 (by decide) ?_
        exact hj_94 σ_55 l2_55 (fR σ_55 a1 3) l2_55 (1 : Int32) h
  have hj_2 : (∀ (σ_2 : Sto) (l2_2 : Int32), Ok (f5_bringBack_j2 a0 a1 σ_2 l2_2) Qf → J X K 3 False QQ 0 0 2017 (jw K σ_2) 2 [(0, .ref (K.2.2 + a0)), (1, .ref (K.2.2 + a1)), (2, .int l2_2)] []) := by
    intro σ_2 l2_2 h
    unfold f5_bringBack_j2 at h
    refine loop_gen (S := Sto × Int32) (P := fun s_2 => J X K 3 False QQ 0 0 2017 (jw K s_2.1) 2 [(0, .ref (K.2.2 + a0)), (1, .ref (K.2.2 + a1)), (2, .int s_2.2)] []) ?_ FU (σ_2, l2_2) (Ok.ofbnd h)
    intro B_2 hB_2 hE_2 s_2 h
    obtain ⟨σ_2, l2_2⟩ := s_2
    have h : Ok (f5_bringBack_b2 a0 a1 σ_2 l2_2) B_2 := h
    change J X K 3 False QQ 0 0 2017 (jw K σ_2) 2 [(0, .ref (K.2.2 + a0)), (1, .ref (K.2.2 + a1)), (2, .int l2_2)] []
    unfold f5_bringBack_b2 at h
    refine J_iload_n (i := 2) (p := 2) C dX5_bringBack_2 rfl rfl rfl ?_
    refine J_aload_n (i := 0) (p := 0) C dX5_bringBack_3 rfl rfl rfl ?_
    refine Jc_getI C fp_RX5_15 h_a0 rfl dX5_bringBack_4 rfl ?_
    refine J_icmp_ge (t := 41) C dX5_bringBack_7 (by decide) rfl (fun c_14 => ?_) (fun c_14 => ?_)
    · have h := h.pos c_14
      have h := hE_2 σ_2 h.osome
      try dsimp only at h
      refine J_aload_n (i := 1) (p := 1) C dX5_bringBack_41 rfl rfl rfl ?_
      refine J_aload_n (i := 0) (p := 0) C dX5_bringBack_42 rfl rfl rfl ?_
      refine Jc_getI C fp_RX5_15 h_a0 rfl dX5_bringBack_43 rfl ?_
      obtain ⟨σx_11, e_σx_11, h⟩ := Ok.nm h
      refine Jc_putI C id fp_RX5_36 fw_8_1 rfl h_a1 rfl e_σx_11 dX5_bringBack_46 rfl ?_
      refine J_aload_n (i := 1) (p := 1) C dX5_bringBack_49 rfl rfl rfl ?_
      refine Jc_cV (rest := []) (st9 := fun p_15 => []) C hR hX cv_RX5_57 h_a1 (Nat.le_of_ble_eq_true rfl) (k8_findLines hl h_a1 (Ok.ofbnd h)) rfl rfl (Nat.le_of_ble_eq_true rfl) (Nat.le_of_ble_eq_true rfl) (Nat.le_of_ble_eq_true rfl) ⟨(Nat.le_of_ble_eq_true rfl), (Nat.le_of_ble_eq_true rfl)⟩ dX5_bringBack_50 rfl (fun E n9 w9 hx => JT_n hx) (fun _ => rfl) (fun p_15 h => ?_)
      have h : Ok _ _ := h
      change J X K 3 False QQ 0 0 2017 (jw K p_15) 53 [(0, .ref (K.2.2 + a0)), (1, .ref (K.2.2 + a1)), (2, .int l2_2)] []
      refine J_iconst (v := 0) C (by decide) dX5_bringBack_53 rfl ?_
      obtain ⟨x2_12, e_x2_12, h⟩ := Ok.nm h
      refine J_istoreE_n (i := 2) (lv' := [(2, .int x2_12), (0, .ref (K.2.2 + a0)), (1, .ref (K.2.2 + a1))]) C e_x2_12 dX5_bringBack_54 rfl (Nat.le_of_ble_eq_true rfl) rfl rfl ?_
      refine J.sub [1, 2, 0] rfl ?_
      exact hj_55 p_15 x2_12 h
    · have h := h.neg c_14
      refine J_aload_n (i := 1) (p := 1) C dX5_bringBack_10 rfl rfl rfl ?_
      refine Jc_getD C fp_RX5_39 h_a1 rfl dX5_bringBack_11 rfl ?_
      refine J_iload_n (i := 2) (p := 2) C dX5_bringBack_14 rfl rfl rfl ?_
      refine J_aload_n (i := 0) (p := 0) C dX5_bringBack_15 rfl rfl rfl ?_
      refine Jc_getS (o2 := 1) (r2 := a0 + 1) C fp_RX5_9 rfl h_a0 rfl dX5_bringBack_16 rfl ?_
      refine J_iload_n (i := 2) (p := 2) C dX5_bringBack_19 rfl rfl rfl ?_
      refine J_bipush (v := 8) C (by decide) dX5_bringBack_20 rfl ?_
      refine J_idiv C (by decide) dX5_bringBack_22 rfl ?_
      obtain ⟨g_16, h⟩ := Ok.ofgd h
      refine Jc_lald C (ks_5_0 h_a0) (ls_5_0 h_a0) g_16 dX5_bringBack_23 rfl ?_
      refine J_iload_n (i := 2) (p := 2) C dX5_bringBack_24 rfl rfl rfl ?_
      refine J_bipush (v := 8) C (by decide) dX5_bringBack_25 rfl ?_
      refine J_irem C (by decide) dX5_bringBack_27 rfl ?_
      refine J_bipush (v := 8) C (by decide) dX5_bringBack_28 rfl ?_
      refine J_imul C dX5_bringBack_30 rfl ?_
      refine J_lushr C dX5_bringBack_31 rfl ?_
      refine J_l2i C dX5_bringBack_32 rfl ?_
      refine J_i2b C dX5_bringBack_33 rfl ?_
      obtain ⟨g_17, h⟩ := Ok.ofgd h
      rw [jv_pos (r := fR σ_2 a1 0) (okr_spec g_17).1]
      obtain ⟨g_18, h⟩ := Ok.ofgd h
      obtain ⟨σx_13, e_σx_13, h⟩ := Ok.nm h
      refine Jc_bast C id (okr_spec g_17).2 rfl g_18 e_σx_13 dX5_bringBack_34 rfl ?_
      obtain ⟨x2_14, e_x2_14, h⟩ := Ok.nm h
      refine J_iincE (i := 2) (p := 2) (lv' := [(2, .int x2_14), (0, .ref (K.2.2 + a0)), (1, .ref (K.2.2 + a1))]) C e_x2_14 dX5_bringBack_35 rfl (by decide) (Nat.le_of_ble_eq_true rfl) rfl rfl ?_
      refine J_goto (t := 2) C dX5_bringBack_38 (by decide) ?_
      refine J.sub [1, 2, 0] rfl ?_
      exact hB_2 (σx_13, x2_14) h.osome
  unfold f5_bringBack at h
  refine J_iconst (v := 0) C (by decide) dX5_bringBack_0 rfl ?_
  obtain ⟨x2_17, e_x2_17, h⟩ := Ok.nm h
  refine J_istoreE_n (i := 2) (lv' := [(2, .int x2_17), (0, .ref (K.2.2 + a0)), (1, .ref (K.2.2 + a1))]) C e_x2_17 dX5_bringBack_1 rfl (Nat.le_of_ble_eq_true rfl) rfl rfl ?_
  refine J.sub [1, 2, 0] rfl ?_
  exact hj_2 σ x2_17 h
def f4_goBack_j68 (a1 : Nat) (l2 : Int32) (σ_68 : Sto) (l3_68 : Int32) : Option (Int32 × Sto) :=
  gd (okr (fR σ_68 24 2) 0) <|
  bnd (f5_bringBack σ_68 ((fR σ_68 24 2) - 1 + 7) a1) fun p_2 =>
  some (l3_68, p_2)
def f4_goBack_b22 (a1 : Nat) (l2 : Int32) (σ_22 : Sto) (l3_22 : Int32) (l4_22 : Nat) : Option ((Sto × Int32 × Nat) ⊕ (Sto × Int32)) :=
  if l2 ≤ l3_22 then
    some (.inr (σ_22, l3_22))
  else
    if l4_22 = 0 then
      some (.inr (σ_22, l3_22))
    else
      gd (okr l4_22 0) <|
      gd (okr (fR σ_22 24 2) 0) <|
      bnd (f5_become σ_22 (l4_22 - 1 + 7) ((fR σ_22 24 2) - 1 + 1)) fun p_7 =>
      stp (uR p_7 24 2 ((l4_22 - 1) + 1)) fun σx_1 =>
      gd (okr (fR σx_1 24 2) 0) <|
      stp (fR σx_1 ((fR σx_1 24 2) - 1) 0) fun x4_2 =>
      stp (l3_22 + (1 : Int32)) fun x3_3 =>
      some (.inl (σx_1, x3_3, x4_2))
def f4_goBack_j22 (a1 : Nat) (l2 : Int32) (σ_22 : Sto) (l3_22 : Int32) (l4_22 : Nat) : Option (Int32 × Sto) :=
  bnd (loopF (fun s_22 => f4_goBack_b22 a1 l2 s_22.1 s_22.2.1 s_22.2.2) FU (σ_22, l3_22, l4_22)) fun r_22 =>
    f4_goBack_j68 a1 l2 r_22.1 r_22.2
def f4_goBack (σ : Sto) (a1 : Nat) (l2 : Int32) : Option (Int32 × Sto) :=
  stp (0 : Int32) fun x3_4 =>
  gd (okr (fR σ 24 2) 0) <|
  bnd (f5_take σ ((fR σ 24 2) - 1 + 7) a1) fun p_10 =>
  gd (okr (fR p_10 24 2) 0) <|
  stp (fR p_10 ((fR p_10 24 2) - 1) 0) fun x4_5 =>
  f4_goBack_j22 a1 l2 p_10 x3_4 x4_5
set_option maxHeartbeats 4000000 in
set_option maxRecDepth 100000 in
theorem k4_goBack {l : Launch} {K : JK} (hl : l.stackTraces = false) {σ : Sto} {a1 : Nat} {l2 : Int32} (h_a1 : kc a1 = 8) {Qf : Int32 × Sto → Prop} (h : Ok (f4_goBack σ a1 l2) Qf) : Con l K yX4_goBack (.code yX4_goBack cX4_goBack 5 (some .int) :: TB) 2 0 0 False [.ref (K.2.2 + 24), .ref (K.2.2 + a1), .int l2] 2017 (jw K σ) (PR Qf (fun p => some (.int p.1)) (fun p => jw K p.2)) PN := by
  refine Con.enter (own := RX4) hl (by decide) rfl (Nat.le_of_ble_eq_true rfl) ?_
  intro X hX hR C hret hnt
  generalize hQQ : jQ X K 0 0 (PR Qf (fun p => some (.int p.1)) (fun p => jw K p.2)) PN False = QQ
  change J X K 5 False QQ 0 0 2017 (jw K σ) 0 [(0, .ref (K.2.2 + 24)), (1, .ref (K.2.2 + a1)), (2, .int l2)] []
  have hj_68 : (∀ (σ_68 : Sto) (l3_68 : Int32), Ok (f4_goBack_j68 a1 l2 σ_68 l3_68) Qf → J X K 5 False QQ 0 0 2017 (jw K σ_68) 68 [(0, .ref (K.2.2 + 24)), (1, .ref (K.2.2 + a1)), (3, .int l3_68)] []) := by
    intro σ_68 l3_68 h
    unfold f4_goBack_j68 at h
    refine J_aload_n (i := 0) (p := 0) C dX4_goBack_68 rfl rfl rfl ?_
    refine Jc_getD C fp_RX4_22 rfl rfl dX4_goBack_69 rfl ?_
    obtain ⟨g_1, h⟩ := Ok.ofgd h
    rw [jv_pos (r := fR σ_68 24 2) (okr_spec g_1).1]
    refine Jc_getS (o2 := 7) (r2 := (fR σ_68 24 2) - 1 + 7) C fp_RX4_49 rfl (okr_spec g_1).2 rfl dX4_goBack_72 rfl ?_
    refine J_aload_n (i := 1) (p := 1) C dX4_goBack_75 rfl rfl rfl ?_
    refine Jc_cV (rest := []) (st9 := fun p_2 => []) C hR hX cv_RX4_56 (ks_0_3 (okr_spec g_1).2) (Nat.le_of_ble_eq_true rfl) (k5_bringBack hl (ks_0_3 (okr_spec g_1).2) h_a1 (Ok.ofbnd h)) rfl rfl (Nat.le_of_ble_eq_true rfl) (Nat.le_of_ble_eq_true rfl) (Nat.le_of_ble_eq_true rfl) ⟨(Nat.le_of_ble_eq_true rfl), (Nat.le_of_ble_eq_true rfl)⟩ dX4_goBack_76 rfl (fun E n9 w9 hx => JT_n hx) (fun _ => rfl) (fun p_2 h => ?_)
    have h : Ok _ _ := h
    change J X K 5 False QQ 0 0 2017 (jw K p_2) 79 [(0, .ref (K.2.2 + 24)), (1, .ref (K.2.2 + a1)), (3, .int l3_68)] []
    refine J_iload_n (i := 3) (p := 2) C dX4_goBack_79 rfl rfl rfl ?_
    rw [← hQQ]
    exact J_iret C hret (Nat.le_of_ble_eq_true rfl) (Nat.le_of_ble_eq_true rfl) ⟨_, h.osome, rfl, rfl, rfl⟩ dX4_goBack_80
  have hj_22 : (∀ (σ_22 : Sto) (l3_22 : Int32) (l4_22 : Nat), Ok (f4_goBack_j22 a1 l2 σ_22 l3_22 l4_22) Qf → J X K 5 False QQ 0 0 2017 (jw K σ_22) 22 [(0, .ref (K.2.2 + 24)), (1, .ref (K.2.2 + a1)), (2, .int l2), (3, .int l3_22), (4, jv K.2.2 l4_22)] []) := by
    intro σ_22 l3_22 l4_22 h
    unfold f4_goBack_j22 at h
    refine loop_gen (S := Sto × Int32 × Nat) (P := fun s_22 => J X K 5 False QQ 0 0 2017 (jw K s_22.1) 22 [(0, .ref (K.2.2 + 24)), (1, .ref (K.2.2 + a1)), (2, .int l2), (3, .int s_22.2.1), (4, jv K.2.2 s_22.2.2)] []) ?_ FU (σ_22, l3_22, l4_22) (Ok.ofbnd h)
    intro B_22 hB_22 hE_22 s_22 h
    obtain ⟨σ_22, l3_22, l4_22⟩ := s_22
    have h : Ok (f4_goBack_b22 a1 l2 σ_22 l3_22 l4_22) B_22 := h
    change J X K 5 False QQ 0 0 2017 (jw K σ_22) 22 [(0, .ref (K.2.2 + 24)), (1, .ref (K.2.2 + a1)), (2, .int l2), (3, .int l3_22), (4, jv K.2.2 l4_22)] []
    unfold f4_goBack_b22 at h
    refine J_iload_n (i := 3) (p := 3) C dX4_goBack_22 rfl rfl rfl ?_
    refine J_iload_n (i := 2) (p := 2) C dX4_goBack_23 rfl rfl rfl ?_
    refine J_icmp_ge (t := 68) C dX4_goBack_24 (by decide) rfl (fun c_3 => ?_) (fun c_3 => ?_)
    · have h := h.pos c_3
      have h := hE_22 (σ_22, l3_22) h.osome
      try dsimp only at h
      refine J.sub [0, 1, 3] rfl ?_
      exact hj_68 σ_22 l3_22 h
    · have h := h.neg c_3
      refine J_aloadq (i := 4) (p := 4) C dX4_goBack_27 rfl rfl ?_
      refine J_ifnullq (t := 68) C dX4_goBack_29 (by decide) rfl (fun c_4 => ?_) (fun c_4 => ?_)
      · have h := h.pos c_4
        have h := hE_22 (σ_22, l3_22) h.osome
        try dsimp only at h
        refine J.sub [0, 1, 3] rfl ?_
        exact hj_68 σ_22 l3_22 h
      · have h := h.neg c_4
        refine J_aloadq (i := 4) (p := 4) C dX4_goBack_32 rfl rfl ?_
        obtain ⟨g_5, h⟩ := Ok.ofgd h
        rw [jv_pos (r := l4_22) (okr_spec g_5).1]
        refine Jc_getS (o2 := 7) (r2 := l4_22 - 1 + 7) C fp_RX4_49 rfl (okr_spec g_5).2 rfl dX4_goBack_34 rfl ?_
        refine J_aload_n (i := 0) (p := 0) C dX4_goBack_37 rfl rfl rfl ?_
        refine Jc_getD C fp_RX4_22 rfl rfl dX4_goBack_38 rfl ?_
        obtain ⟨g_6, h⟩ := Ok.ofgd h
        rw [jv_pos (r := fR σ_22 24 2) (okr_spec g_6).1]
        refine Jc_getS (o2 := 1) (r2 := (fR σ_22 24 2) - 1 + 1) C fp_RX4_33 rfl (okr_spec g_6).2 rfl dX4_goBack_41 rfl ?_
        refine Jc_cV (rest := []) (st9 := fun p_7 => []) C hR hX cv_RX4_52 (ks_0_3 (okr_spec g_5).2) (Nat.le_of_ble_eq_true rfl) (k5_become hl (ks_0_3 (okr_spec g_5).2) (ks_0_2 (okr_spec g_6).2) (Ok.ofbnd h)) rfl rfl (Nat.le_of_ble_eq_true rfl) (Nat.le_of_ble_eq_true rfl) (Nat.le_of_ble_eq_true rfl) ⟨(Nat.le_of_ble_eq_true rfl), (Nat.le_of_ble_eq_true rfl)⟩ dX4_goBack_44 rfl (fun E n9 w9 hx => JT_n hx) (fun _ => rfl) (fun p_7 h => ?_)
        have h : Ok _ _ := h
        change J X K 5 False QQ 0 0 2017 (jw K p_7) 47 [(0, .ref (K.2.2 + 24)), (1, .ref (K.2.2 + a1)), (2, .int l2), (3, .int l3_22), (4, .ref (K.2.2 + (l4_22 - 1)))] []
        refine J_aload_n (i := 0) (p := 0) C dX4_goBack_47 rfl rfl rfl ?_
        refine J_aload (i := 4) (p := 4) C dX4_goBack_48 rfl rfl ?_
        obtain ⟨σx_1, e_σx_1, h⟩ := Ok.nm h
        refine Jc_putD (v := (l4_22 - 1) + 1) C id fp_RX4_22 fw_4_2 (Or.inl ⟨_, rfl⟩) rfl rfl e_σx_1 dX4_goBack_50 rfl ?_
        refine J_aload_n (i := 0) (p := 0) C dX4_goBack_53 rfl rfl rfl ?_
        refine Jc_getD C fp_RX4_22 rfl rfl dX4_goBack_54 rfl ?_
        obtain ⟨g_8, h⟩ := Ok.ofgd h
        rw [jv_pos (r := fR σx_1 24 2) (okr_spec g_8).1]
        refine Jc_getD C fp_RX4_43 (okr_spec g_8).2 rfl dX4_goBack_57 rfl ?_
        obtain ⟨x4_2, e_x4_2, h⟩ := Ok.nm h
        refine J_astoreqE (i := 4) (lv' := [(4, jv K.2.2 x4_2), (0, .ref (K.2.2 + 24)), (1, .ref (K.2.2 + a1)), (2, .int l2), (3, .int l3_22)]) C e_x4_2 dX4_goBack_60 (Nat.le_of_ble_eq_true rfl) rfl rfl ?_
        obtain ⟨x3_3, e_x3_3, h⟩ := Ok.nm h
        refine J_iincE (i := 3) (p := 4) (lv' := [(3, .int x3_3), (4, jv K.2.2 x4_2), (0, .ref (K.2.2 + 24)), (1, .ref (K.2.2 + a1)), (2, .int l2)]) C e_x3_3 dX4_goBack_62 rfl (by decide) (Nat.le_of_ble_eq_true rfl) rfl rfl ?_
        refine J_goto (t := 22) C dX4_goBack_65 (by decide) ?_
        refine J.sub [2, 3, 4, 0, 1] rfl ?_
        exact hB_22 (σx_1, x3_3, x4_2) h.osome
  unfold f4_goBack at h
  refine J_iconst (v := 0) C (by decide) dX4_goBack_0 rfl ?_
  obtain ⟨x3_4, e_x3_4, h⟩ := Ok.nm h
  refine J_istoreE_n (i := 3) (lv' := [(3, .int x3_4), (0, .ref (K.2.2 + 24)), (1, .ref (K.2.2 + a1)), (2, .int l2)]) C e_x3_4 dX4_goBack_1 rfl (Nat.le_of_ble_eq_true rfl) rfl rfl ?_
  refine J_aload_n (i := 0) (p := 1) C dX4_goBack_2 rfl rfl rfl ?_
  refine Jc_getD C fp_RX4_22 rfl rfl dX4_goBack_3 rfl ?_
  obtain ⟨g_9, h⟩ := Ok.ofgd h
  rw [jv_pos (r := fR σ 24 2) (okr_spec g_9).1]
  refine Jc_getS (o2 := 7) (r2 := (fR σ 24 2) - 1 + 7) C fp_RX4_49 rfl (okr_spec g_9).2 rfl dX4_goBack_6 rfl ?_
  refine J_aload_n (i := 1) (p := 2) C dX4_goBack_9 rfl rfl rfl ?_
  refine Jc_cV (rest := []) (st9 := fun p_10 => []) C hR hX cv_RX4_37 (ks_0_3 (okr_spec g_9).2) (Nat.le_of_ble_eq_true rfl) (k5_take hl (ks_0_3 (okr_spec g_9).2) h_a1 (Ok.ofbnd h)) rfl rfl (Nat.le_of_ble_eq_true rfl) (Nat.le_of_ble_eq_true rfl) (Nat.le_of_ble_eq_true rfl) ⟨(Nat.le_of_ble_eq_true rfl), (Nat.le_of_ble_eq_true rfl)⟩ dX4_goBack_10 rfl (fun E n9 w9 hx => JT_n hx) (fun _ => rfl) (fun p_10 h => ?_)
  have h : Ok _ _ := h
  change J X K 5 False QQ 0 0 2017 (jw K p_10) 13 [(3, .int x3_4), (0, .ref (K.2.2 + 24)), (1, .ref (K.2.2 + a1)), (2, .int l2)] []
  refine J_aload_n (i := 0) (p := 1) C dX4_goBack_13 rfl rfl rfl ?_
  refine Jc_getD C fp_RX4_22 rfl rfl dX4_goBack_14 rfl ?_
  obtain ⟨g_11, h⟩ := Ok.ofgd h
  rw [jv_pos (r := fR p_10 24 2) (okr_spec g_11).1]
  refine Jc_getD C fp_RX4_43 (okr_spec g_11).2 rfl dX4_goBack_17 rfl ?_
  obtain ⟨x4_5, e_x4_5, h⟩ := Ok.nm h
  refine J_astoreqE (i := 4) (lv' := [(4, jv K.2.2 x4_5), (3, .int x3_4), (0, .ref (K.2.2 + 24)), (1, .ref (K.2.2 + a1)), (2, .int l2)]) C e_x4_5 dX4_goBack_20 (Nat.le_of_ble_eq_true rfl) rfl rfl ?_
  refine J.sub [2, 3, 4, 1, 0] rfl ?_
  exact hj_22 p_10 x3_4 x4_5 h
def f11_undo_j12 (l1 : Int32) (σ_12 : Sto) : Option ((Int32 × Sto) ⊕ (Nat × Sto)) :=
  some (.inr (2, σ_12))
def f11_undo (σ : Sto) (l1 : Int32) : Option ((Int32 × Sto) ⊕ (Nat × Sto)) :=
  if l1 < (1 : Int32) then
    f11_undo_j12 l1 σ
  else
    if l1 ≤ (150 : Int32) then
      bnd (f4_closeGroup σ) fun p_3 =>
      bnd (f4_goBack p_3 1 l1) fun p_4 =>
      some (.inl (p_4.1, p_4.2))
    else
      f11_undo_j12 l1 σ
set_option maxHeartbeats 4000000 in
set_option maxRecDepth 100000 in
theorem k11_undo {l : Launch} {K : JK} (hl : l.stackTraces = false) {σ : Sto} {l1 : Int32}  {Qf : (Int32 × Sto) ⊕ (Nat × Sto) → Prop} (h : Ok (f11_undo σ l1) Qf) : Con l K yX11_undo (.code yX11_undo cX11_undo 2 (some .int) :: TB) 6 1 6 False [.ref (K.2.2 + 0), .int l1] 2017 (jw K σ) (PR (fun p => Qf (.inl p)) (fun p => some (.int p.1)) (fun p => jw K p.2)) (PX Qf (fun s => jw K s)) := by
  refine Con.enter (own := RX11) hl (by decide) rfl (Nat.le_of_ble_eq_true rfl) ?_
  intro X hX hR C hret hnt
  generalize hQQ : jQ X K 1 6 (PR (fun p => Qf (.inl p)) (fun p => some (.int p.1)) (fun p => jw K p.2)) (PX Qf (fun s => jw K s)) False = QQ
  change J X K 2 False QQ 0 0 2017 (jw K σ) 0 [(0, .ref (K.2.2 + 0)), (1, .int l1)] []
  have hj_12 : (∀ (σ_12 : Sto), Ok (f11_undo_j12 l1 σ_12) Qf → J X K 2 False QQ 0 0 2017 (jw K σ_12) 12 [] []) := by
    intro σ_12 h
    unfold f11_undo_j12 at h
    rw [← hQQ]
    exact J_throw (is := 145) (text := "many is out of range") C hnt th_82 (by decide +kernel) dX11_undo_12 dX11_undo_15 dX11_undo_16 dX11_undo_18 dX11_undo_21 (by rw [hR]; exact (Nat.le_of_ble_eq_true rfl)) (by rw [hR]; exact (Nat.le_of_ble_eq_true rfl)) (by rw [hR]; exact (Nat.le_of_ble_eq_true rfl)) (by rw [hR]; exact (Nat.le_of_ble_eq_true rfl)) (Nat.le_of_ble_eq_true rfl) (Nat.le_of_ble_eq_true rfl) ⟨2, σ_12, h.osome, rfl, rfl, rfl⟩
  unfold f11_undo at h
  refine J_iload_n (i := 1) (p := 1) C dX11_undo_0 rfl rfl rfl ?_
  refine J_iconst (v := 1) C (by decide) dX11_undo_1 rfl ?_
  refine J_icmp_lt (t := 12) C dX11_undo_2 (by decide) rfl (fun c_1 => ?_) (fun c_1 => ?_)
  · have h := h.pos c_1
    refine J.sub [] rfl ?_
    exact hj_12 σ h
  · have h := h.neg c_1
    refine J_iload_n (i := 1) (p := 1) C dX11_undo_5 rfl rfl rfl ?_
    refine J_sipush (v := 150) C (by decide) dX11_undo_6 rfl ?_
    refine J_icmp_le (t := 22) C dX11_undo_9 (by decide) rfl (fun c_2 => ?_) (fun c_2 => ?_)
    · have h := h.pos c_2
      refine J_aload_n (i := 0) (p := 0) C dX11_undo_22 rfl rfl rfl ?_
      refine Jc_getS (o2 := 24) (r2 := 24) C fp_RX11_42 rfl rfl rfl dX11_undo_23 rfl ?_
      refine Jc_cV (rest := []) (st9 := fun p_3 => []) C hR hX cv_RX11_218 rfl (Nat.le_of_ble_eq_true rfl) (k4_closeGroup hl  (Ok.ofbnd h)) rfl rfl (Nat.le_of_ble_eq_true rfl) (Nat.le_of_ble_eq_true rfl) (Nat.le_of_ble_eq_true rfl) ⟨(Nat.le_of_ble_eq_true rfl), (Nat.le_of_ble_eq_true rfl)⟩ dX11_undo_26 rfl (fun E n9 w9 hx => JT_n hx) (fun _ => rfl) (fun p_3 h => ?_)
      have h : Ok _ _ := h
      change J X K 2 False QQ 0 0 2017 (jw K p_3) 29 [(0, .ref (K.2.2 + 0)), (1, .int l1)] []
      refine J_aload_n (i := 0) (p := 0) C dX11_undo_29 rfl rfl rfl ?_
      refine Jc_getS (o2 := 24) (r2 := 24) C fp_RX11_42 rfl rfl rfl dX11_undo_30 rfl ?_
      refine J_aload_n (i := 0) (p := 0) C dX11_undo_33 rfl rfl rfl ?_
      refine Jc_getS (o2 := 1) (r2 := 1) C fp_RX11_10 rfl rfl rfl dX11_undo_34 rfl ?_
      refine J_iload_n (i := 1) (p := 1) C dX11_undo_37 rfl rfl rfl ?_
      refine Jc_cV (rest := []) (st9 := fun p_4 => [.int p_4.1]) C hR hX cv_RX11_221 rfl (Nat.le_of_ble_eq_true rfl) (k4_goBack hl rfl (Ok.ofbnd h)) rfl rfl (Nat.le_of_ble_eq_true rfl) (Nat.le_of_ble_eq_true rfl) (Nat.le_of_ble_eq_true rfl) ⟨(Nat.le_of_ble_eq_true rfl), (Nat.le_of_ble_eq_true rfl)⟩ dX11_undo_38 rfl (fun E n9 w9 hx => JT_n hx) (fun _ => rfl) (fun p_4 h => ?_)
      have h : Ok _ _ := h
      change J X K 2 False QQ 0 0 2017 (jw K p_4.2) 41 [(0, .ref (K.2.2 + 0)), (1, .int l1)] [.int p_4.1]
      rw [← hQQ]
      exact J_iret C hret (Nat.le_of_ble_eq_true rfl) (Nat.le_of_ble_eq_true rfl) ⟨_, h.osome, rfl, rfl, rfl⟩ dX11_undo_41
    · have h := h.neg c_2
      refine J.sub [] rfl ?_
      exact hj_12 σ h
def f4_goOn_j57 (a1 : Nat) (l2 : Int32) (σ_57 : Sto) (l3_57 : Int32) : Option (Int32 × Sto) :=
  some (l3_57, σ_57)
def f4_goOn_j42 (a1 : Nat) (l2 : Int32) (σ_42 : Sto) (l3_42 : Int32) : Option (Int32 × Sto) :=
  if l3_42 ≤ 0 then
    f4_goOn_j57 a1 l2 σ_42 l3_42
  else
    gd (okr (fR σ_42 24 2) 0) <|
    bnd (f5_bringBack σ_42 ((fR σ_42 24 2) - 1 + 7) a1) fun p_3 =>
    f4_goOn_j57 a1 l2 p_3 l3_42
def f4_goOn_b11 (a1 : Nat) (l2 : Int32) (σ_11 : Sto) (l3_11 : Int32) (l4_11 : Nat) : Option ((Sto × Int32 × Nat) ⊕ (Sto × Int32)) :=
  if l2 ≤ l3_11 then
    some (.inr (σ_11, l3_11))
  else
    if l4_11 = 0 then
      some (.inr (σ_11, l3_11))
    else
      stp (uR σ_11 24 2 l4_11) fun σx_1 =>
      gd (okr (fR σx_1 24 2) 0) <|
      stp (fR σx_1 ((fR σx_1 24 2) - 1) 1) fun x4_2 =>
      stp (l3_11 + (1 : Int32)) fun x3_3 =>
      some (.inl (σx_1, x3_3, x4_2))
def f4_goOn_j11 (a1 : Nat) (l2 : Int32) (σ_11 : Sto) (l3_11 : Int32) (l4_11 : Nat) : Option (Int32 × Sto) :=
  bnd (loopF (fun s_11 => f4_goOn_b11 a1 l2 s_11.1 s_11.2.1 s_11.2.2) FU (σ_11, l3_11, l4_11)) fun r_11 =>
    f4_goOn_j42 a1 l2 r_11.1 r_11.2
def f4_goOn (σ : Sto) (a1 : Nat) (l2 : Int32) : Option (Int32 × Sto) :=
  stp (0 : Int32) fun x3_4 =>
  gd (okr (fR σ 24 2) 0) <|
  stp (fR σ ((fR σ 24 2) - 1) 1) fun x4_5 =>
  f4_goOn_j11 a1 l2 σ x3_4 x4_5
set_option maxHeartbeats 4000000 in
set_option maxRecDepth 100000 in
theorem k4_goOn {l : Launch} {K : JK} (hl : l.stackTraces = false) {σ : Sto} {a1 : Nat} {l2 : Int32} (h_a1 : kc a1 = 8) {Qf : Int32 × Sto → Prop} (h : Ok (f4_goOn σ a1 l2) Qf) : Con l K yX4_goOn (.code yX4_goOn cX4_goOn 5 (some .int) :: TB) 2 0 0 False [.ref (K.2.2 + 24), .ref (K.2.2 + a1), .int l2] 2017 (jw K σ) (PR Qf (fun p => some (.int p.1)) (fun p => jw K p.2)) PN := by
  refine Con.enter (own := RX4) hl (by decide) rfl (Nat.le_of_ble_eq_true rfl) ?_
  intro X hX hR C hret hnt
  generalize hQQ : jQ X K 0 0 (PR Qf (fun p => some (.int p.1)) (fun p => jw K p.2)) PN False = QQ
  change J X K 5 False QQ 0 0 2017 (jw K σ) 0 [(0, .ref (K.2.2 + 24)), (1, .ref (K.2.2 + a1)), (2, .int l2)] []
  have hj_57 : (∀ (σ_57 : Sto) (l3_57 : Int32), Ok (f4_goOn_j57 a1 l2 σ_57 l3_57) Qf → J X K 5 False QQ 0 0 2017 (jw K σ_57) 57 [(3, .int l3_57)] []) := by
    intro σ_57 l3_57 h
    unfold f4_goOn_j57 at h
    refine J_iload_n (i := 3) (p := 0) C dX4_goOn_57 rfl rfl rfl ?_
    rw [← hQQ]
    exact J_iret C hret (Nat.le_of_ble_eq_true rfl) (Nat.le_of_ble_eq_true rfl) ⟨_, h.osome, rfl, rfl, rfl⟩ dX4_goOn_58
  have hj_42 : (∀ (σ_42 : Sto) (l3_42 : Int32), Ok (f4_goOn_j42 a1 l2 σ_42 l3_42) Qf → J X K 5 False QQ 0 0 2017 (jw K σ_42) 42 [(0, .ref (K.2.2 + 24)), (1, .ref (K.2.2 + a1)), (3, .int l3_42)] []) := by
    intro σ_42 l3_42 h
    unfold f4_goOn_j42 at h
    refine J_iload_n (i := 3) (p := 2) C dX4_goOn_42 rfl rfl rfl ?_
    refine J_if_le (t := 57) C dX4_goOn_43 (by decide) rfl (fun c_1 => ?_) (fun c_1 => ?_)
    · have h := h.pos c_1
      refine J.sub [2] rfl ?_
      exact hj_57 σ_42 l3_42 h
    · have h := h.neg c_1
      refine J_aload_n (i := 0) (p := 0) C dX4_goOn_46 rfl rfl rfl ?_
      refine Jc_getD C fp_RX4_22 rfl rfl dX4_goOn_47 rfl ?_
      obtain ⟨g_2, h⟩ := Ok.ofgd h
      rw [jv_pos (r := fR σ_42 24 2) (okr_spec g_2).1]
      refine Jc_getS (o2 := 7) (r2 := (fR σ_42 24 2) - 1 + 7) C fp_RX4_49 rfl (okr_spec g_2).2 rfl dX4_goOn_50 rfl ?_
      refine J_aload_n (i := 1) (p := 1) C dX4_goOn_53 rfl rfl rfl ?_
      refine Jc_cV (rest := []) (st9 := fun p_3 => []) C hR hX cv_RX4_56 (ks_0_3 (okr_spec g_2).2) (Nat.le_of_ble_eq_true rfl) (k5_bringBack hl (ks_0_3 (okr_spec g_2).2) h_a1 (Ok.ofbnd h)) rfl rfl (Nat.le_of_ble_eq_true rfl) (Nat.le_of_ble_eq_true rfl) (Nat.le_of_ble_eq_true rfl) ⟨(Nat.le_of_ble_eq_true rfl), (Nat.le_of_ble_eq_true rfl)⟩ dX4_goOn_54 rfl (fun E n9 w9 hx => JT_n hx) (fun _ => rfl) (fun p_3 h => ?_)
      have h : Ok _ _ := h
      change J X K 5 False QQ 0 0 2017 (jw K p_3) 57 [(0, .ref (K.2.2 + 24)), (1, .ref (K.2.2 + a1)), (3, .int l3_42)] []
      refine J.sub [2] rfl ?_
      exact hj_57 p_3 l3_42 h
  have hj_11 : (∀ (σ_11 : Sto) (l3_11 : Int32) (l4_11 : Nat), Ok (f4_goOn_j11 a1 l2 σ_11 l3_11 l4_11) Qf → J X K 5 False QQ 0 0 2017 (jw K σ_11) 11 [(0, .ref (K.2.2 + 24)), (1, .ref (K.2.2 + a1)), (2, .int l2), (3, .int l3_11), (4, jv K.2.2 l4_11)] []) := by
    intro σ_11 l3_11 l4_11 h
    unfold f4_goOn_j11 at h
    refine loop_gen (S := Sto × Int32 × Nat) (P := fun s_11 => J X K 5 False QQ 0 0 2017 (jw K s_11.1) 11 [(0, .ref (K.2.2 + 24)), (1, .ref (K.2.2 + a1)), (2, .int l2), (3, .int s_11.2.1), (4, jv K.2.2 s_11.2.2)] []) ?_ FU (σ_11, l3_11, l4_11) (Ok.ofbnd h)
    intro B_11 hB_11 hE_11 s_11 h
    obtain ⟨σ_11, l3_11, l4_11⟩ := s_11
    have h : Ok (f4_goOn_b11 a1 l2 σ_11 l3_11 l4_11) B_11 := h
    change J X K 5 False QQ 0 0 2017 (jw K σ_11) 11 [(0, .ref (K.2.2 + 24)), (1, .ref (K.2.2 + a1)), (2, .int l2), (3, .int l3_11), (4, jv K.2.2 l4_11)] []
    unfold f4_goOn_b11 at h
    refine J_iload_n (i := 3) (p := 3) C dX4_goOn_11 rfl rfl rfl ?_
    refine J_iload_n (i := 2) (p := 2) C dX4_goOn_12 rfl rfl rfl ?_
    refine J_icmp_ge (t := 42) C dX4_goOn_13 (by decide) rfl (fun c_4 => ?_) (fun c_4 => ?_)
    · have h := h.pos c_4
      have h := hE_11 (σ_11, l3_11) h.osome
      try dsimp only at h
      refine J.sub [0, 1, 3] rfl ?_
      exact hj_42 σ_11 l3_11 h
    · have h := h.neg c_4
      refine J_aloadq (i := 4) (p := 4) C dX4_goOn_16 rfl rfl ?_
      refine J_ifnullq (t := 42) C dX4_goOn_18 (by decide) rfl (fun c_5 => ?_) (fun c_5 => ?_)
      · have h := h.pos c_5
        have h := hE_11 (σ_11, l3_11) h.osome
        try dsimp only at h
        refine J.sub [0, 1, 3] rfl ?_
        exact hj_42 σ_11 l3_11 h
      · have h := h.neg c_5
        refine J_aload_n (i := 0) (p := 0) C dX4_goOn_21 rfl rfl rfl ?_
        refine J_aloadq (i := 4) (p := 4) C dX4_goOn_22 rfl rfl ?_
        obtain ⟨σx_1, e_σx_1, h⟩ := Ok.nm h
        refine Jc_putD (v := l4_11) C id fp_RX4_22 fw_4_2 (Or.inl ⟨_, rfl⟩) rfl rfl e_σx_1 dX4_goOn_24 rfl ?_
        refine J_aload_n (i := 0) (p := 0) C dX4_goOn_27 rfl rfl rfl ?_
        refine Jc_getD C fp_RX4_22 rfl rfl dX4_goOn_28 rfl ?_
        obtain ⟨g_6, h⟩ := Ok.ofgd h
        rw [jv_pos (r := fR σx_1 24 2) (okr_spec g_6).1]
        refine Jc_getD C fp_RX4_46 (okr_spec g_6).2 rfl dX4_goOn_31 rfl ?_
        obtain ⟨x4_2, e_x4_2, h⟩ := Ok.nm h
        refine J_astoreqE (i := 4) (lv' := [(4, jv K.2.2 x4_2), (0, .ref (K.2.2 + 24)), (1, .ref (K.2.2 + a1)), (2, .int l2), (3, .int l3_11)]) C e_x4_2 dX4_goOn_34 (Nat.le_of_ble_eq_true rfl) rfl rfl ?_
        obtain ⟨x3_3, e_x3_3, h⟩ := Ok.nm h
        refine J_iincE (i := 3) (p := 4) (lv' := [(3, .int x3_3), (4, jv K.2.2 x4_2), (0, .ref (K.2.2 + 24)), (1, .ref (K.2.2 + a1)), (2, .int l2)]) C e_x3_3 dX4_goOn_36 rfl (by decide) (Nat.le_of_ble_eq_true rfl) rfl rfl ?_
        refine J_goto (t := 11) C dX4_goOn_39 (by decide) ?_
        refine J.sub [2, 3, 4, 0, 1] rfl ?_
        exact hB_11 (σx_1, x3_3, x4_2) h.osome
  unfold f4_goOn at h
  refine J_iconst (v := 0) C (by decide) dX4_goOn_0 rfl ?_
  obtain ⟨x3_4, e_x3_4, h⟩ := Ok.nm h
  refine J_istoreE_n (i := 3) (lv' := [(3, .int x3_4), (0, .ref (K.2.2 + 24)), (1, .ref (K.2.2 + a1)), (2, .int l2)]) C e_x3_4 dX4_goOn_1 rfl (Nat.le_of_ble_eq_true rfl) rfl rfl ?_
  refine J_aload_n (i := 0) (p := 1) C dX4_goOn_2 rfl rfl rfl ?_
  refine Jc_getD C fp_RX4_22 rfl rfl dX4_goOn_3 rfl ?_
  obtain ⟨g_7, h⟩ := Ok.ofgd h
  rw [jv_pos (r := fR σ 24 2) (okr_spec g_7).1]
  refine Jc_getD C fp_RX4_46 (okr_spec g_7).2 rfl dX4_goOn_6 rfl ?_
  obtain ⟨x4_5, e_x4_5, h⟩ := Ok.nm h
  refine J_astoreqE (i := 4) (lv' := [(4, jv K.2.2 x4_5), (3, .int x3_4), (0, .ref (K.2.2 + 24)), (1, .ref (K.2.2 + a1)), (2, .int l2)]) C e_x4_5 dX4_goOn_9 (Nat.le_of_ble_eq_true rfl) rfl rfl ?_
  refine J.sub [2, 3, 4, 1, 0] rfl ?_
  exact hj_11 σ x3_4 x4_5 h
def f11_redo_j12 (l1 : Int32) (σ_12 : Sto) : Option ((Int32 × Sto) ⊕ (Nat × Sto)) :=
  some (.inr (2, σ_12))
def f11_redo (σ : Sto) (l1 : Int32) : Option ((Int32 × Sto) ⊕ (Nat × Sto)) :=
  if l1 < (1 : Int32) then
    f11_redo_j12 l1 σ
  else
    if l1 ≤ (150 : Int32) then
      bnd (f4_closeGroup σ) fun p_3 =>
      bnd (f4_goOn p_3 1 l1) fun p_4 =>
      some (.inl (p_4.1, p_4.2))
    else
      f11_redo_j12 l1 σ
set_option maxHeartbeats 4000000 in
set_option maxRecDepth 100000 in
theorem k11_redo {l : Launch} {K : JK} (hl : l.stackTraces = false) {σ : Sto} {l1 : Int32}  {Qf : (Int32 × Sto) ⊕ (Nat × Sto) → Prop} (h : Ok (f11_redo σ l1) Qf) : Con l K yX11_redo (.code yX11_redo cX11_redo 2 (some .int) :: TB) 6 1 6 False [.ref (K.2.2 + 0), .int l1] 2017 (jw K σ) (PR (fun p => Qf (.inl p)) (fun p => some (.int p.1)) (fun p => jw K p.2)) (PX Qf (fun s => jw K s)) := by
  refine Con.enter (own := RX11) hl (by decide) rfl (Nat.le_of_ble_eq_true rfl) ?_
  intro X hX hR C hret hnt
  generalize hQQ : jQ X K 1 6 (PR (fun p => Qf (.inl p)) (fun p => some (.int p.1)) (fun p => jw K p.2)) (PX Qf (fun s => jw K s)) False = QQ
  change J X K 2 False QQ 0 0 2017 (jw K σ) 0 [(0, .ref (K.2.2 + 0)), (1, .int l1)] []
  have hj_12 : (∀ (σ_12 : Sto), Ok (f11_redo_j12 l1 σ_12) Qf → J X K 2 False QQ 0 0 2017 (jw K σ_12) 12 [] []) := by
    intro σ_12 h
    unfold f11_redo_j12 at h
    rw [← hQQ]
    exact J_throw (is := 145) (text := "many is out of range") C hnt th_82 (by decide +kernel) dX11_redo_12 dX11_redo_15 dX11_redo_16 dX11_redo_18 dX11_redo_21 (by rw [hR]; exact (Nat.le_of_ble_eq_true rfl)) (by rw [hR]; exact (Nat.le_of_ble_eq_true rfl)) (by rw [hR]; exact (Nat.le_of_ble_eq_true rfl)) (by rw [hR]; exact (Nat.le_of_ble_eq_true rfl)) (Nat.le_of_ble_eq_true rfl) (Nat.le_of_ble_eq_true rfl) ⟨2, σ_12, h.osome, rfl, rfl, rfl⟩
  unfold f11_redo at h
  refine J_iload_n (i := 1) (p := 1) C dX11_redo_0 rfl rfl rfl ?_
  refine J_iconst (v := 1) C (by decide) dX11_redo_1 rfl ?_
  refine J_icmp_lt (t := 12) C dX11_redo_2 (by decide) rfl (fun c_1 => ?_) (fun c_1 => ?_)
  · have h := h.pos c_1
    refine J.sub [] rfl ?_
    exact hj_12 σ h
  · have h := h.neg c_1
    refine J_iload_n (i := 1) (p := 1) C dX11_redo_5 rfl rfl rfl ?_
    refine J_sipush (v := 150) C (by decide) dX11_redo_6 rfl ?_
    refine J_icmp_le (t := 22) C dX11_redo_9 (by decide) rfl (fun c_2 => ?_) (fun c_2 => ?_)
    · have h := h.pos c_2
      refine J_aload_n (i := 0) (p := 0) C dX11_redo_22 rfl rfl rfl ?_
      refine Jc_getS (o2 := 24) (r2 := 24) C fp_RX11_42 rfl rfl rfl dX11_redo_23 rfl ?_
      refine Jc_cV (rest := []) (st9 := fun p_3 => []) C hR hX cv_RX11_218 rfl (Nat.le_of_ble_eq_true rfl) (k4_closeGroup hl  (Ok.ofbnd h)) rfl rfl (Nat.le_of_ble_eq_true rfl) (Nat.le_of_ble_eq_true rfl) (Nat.le_of_ble_eq_true rfl) ⟨(Nat.le_of_ble_eq_true rfl), (Nat.le_of_ble_eq_true rfl)⟩ dX11_redo_26 rfl (fun E n9 w9 hx => JT_n hx) (fun _ => rfl) (fun p_3 h => ?_)
      have h : Ok _ _ := h
      change J X K 2 False QQ 0 0 2017 (jw K p_3) 29 [(0, .ref (K.2.2 + 0)), (1, .int l1)] []
      refine J_aload_n (i := 0) (p := 0) C dX11_redo_29 rfl rfl rfl ?_
      refine Jc_getS (o2 := 24) (r2 := 24) C fp_RX11_42 rfl rfl rfl dX11_redo_30 rfl ?_
      refine J_aload_n (i := 0) (p := 0) C dX11_redo_33 rfl rfl rfl ?_
      refine Jc_getS (o2 := 1) (r2 := 1) C fp_RX11_10 rfl rfl rfl dX11_redo_34 rfl ?_
      refine J_iload_n (i := 1) (p := 1) C dX11_redo_37 rfl rfl rfl ?_
      refine Jc_cV (rest := []) (st9 := fun p_4 => [.int p_4.1]) C hR hX cv_RX11_224 rfl (Nat.le_of_ble_eq_true rfl) (k4_goOn hl rfl (Ok.ofbnd h)) rfl rfl (Nat.le_of_ble_eq_true rfl) (Nat.le_of_ble_eq_true rfl) (Nat.le_of_ble_eq_true rfl) ⟨(Nat.le_of_ble_eq_true rfl), (Nat.le_of_ble_eq_true rfl)⟩ dX11_redo_38 rfl (fun E n9 w9 hx => JT_n hx) (fun _ => rfl) (fun p_4 h => ?_)
      have h : Ok _ _ := h
      change J X K 2 False QQ 0 0 2017 (jw K p_4.2) 41 [(0, .ref (K.2.2 + 0)), (1, .int l1)] [.int p_4.1]
      rw [← hQQ]
      exact J_iret C hret (Nat.le_of_ble_eq_true rfl) (Nat.le_of_ble_eq_true rfl) ⟨_, h.osome, rfl, rfl, rfl⟩ dX11_redo_41
    · have h := h.neg c_2
      refine J.sub [] rfl ?_
      exact hj_12 σ h
def f4_continuation_j48 (l1 : Int32) (σ : Sto) (l2_48 : Int32) (l3_48 : Int32) : Option ((Int32 × Int32) ⊕ (Unit ⊕ Nat)) :=
  stp (l3_48 + (1 : Int32)) fun x3_1 =>
  some (.inl (l2_48, x3_1))
def f4_continuation_b4 (l1 : Int32) (σ : Sto) (l2_4 : Int32) (l3_4 : Int32) : Option ((Int32 × Int32) ⊕ (Unit ⊕ Nat)) :=
  if (fI σ 24 1) ≤ l3_4 then
    some (.inr (Sum.inl ()))
  else
    gd (inb l3_4 150) <|
    stp ((39 + 13 * (Int32.toNatClampNeg l3_4)) + 1) fun x4_2 =>
    if x4_2 = 0 then
      f4_continuation_j48 l1 σ l2_4 l3_4
    else
      gd (okr x4_2 0) <|
      if (fR σ (x4_2 - 1) 0) = (fR σ 24 2) then
        if l2_4 = l1 then
          some (.inr (Sum.inr ((x4_2 - 1) + 1)))
        else
          stp (l2_4 + (1 : Int32)) fun x2_3 =>
          f4_continuation_j48 l1 σ x2_3 l3_4
      else
        f4_continuation_j48 l1 σ l2_4 l3_4
def f4_continuation_j4 (l1 : Int32) (σ : Sto) (l2_4 : Int32) (l3_4 : Int32) : Option (Nat) :=
  bnd (loopF (fun s_4 => f4_continuation_b4 l1 σ s_4.1 s_4.2) FU (l2_4, l3_4)) fun r_4 =>
    match r_4 with
    | .inl r_4x =>
      some 0
    | .inr r_4y =>
      some r_4y
def f4_continuation (σ : Sto) (l1 : Int32) : Option (Nat) :=
  stp (0 : Int32) fun x2_4 =>
  stp (0 : Int32) fun x3_5 =>
  f4_continuation_j4 l1 σ x2_4 x3_5
set_option maxHeartbeats 4000000 in
set_option maxRecDepth 100000 in
theorem k4_continuation {l : Launch} {K : JK} (hl : l.stackTraces = false) {σ : Sto} {l1 : Int32}  {Qf : Nat → Prop} (h : Ok (f4_continuation σ l1) Qf) : Con l K yX4_continuation (.code yX4_continuation cX4_continuation 5 (some (.object "Cursorroom$Act")) :: TB) 0 0 0 False [.ref (K.2.2 + 24), .int l1] 2017 (jw K σ) (PR Qf (fun p => some (jv K.2.2 p)) (fun p => jw K σ)) PN := by
  refine Con.enter (own := RX4) hl (by decide) rfl (Nat.le_of_ble_eq_true rfl) ?_
  intro X hX hR C hret hnt
  generalize hQQ : jQ X K 0 0 (PR Qf (fun p => some (jv K.2.2 p)) (fun p => jw K σ)) PN False = QQ
  change J X K 5 False QQ 0 0 2017 (jw K σ) 0 [(0, .ref (K.2.2 + 24)), (1, .int l1)] []
  have hj_4 : (∀ (l2_4 : Int32) (l3_4 : Int32), Ok (f4_continuation_j4 l1 σ l2_4 l3_4) Qf → J X K 5 False QQ 0 0 2017 (jw K σ) 4 [(0, .ref (K.2.2 + 24)), (1, .int l1), (2, .int l2_4), (3, .int l3_4)] []) := by
    intro l2_4 l3_4 h
    unfold f4_continuation_j4 at h
    refine loop_gen (S := Int32 × Int32) (P := fun s_4 => J X K 5 False QQ 0 0 2017 (jw K σ) 4 [(0, .ref (K.2.2 + 24)), (1, .int l1), (2, .int s_4.1), (3, .int s_4.2)] []) ?_ FU (l2_4, l3_4) (Ok.ofbnd h)
    intro B_4 hB_4 hE_4 s_4 h
    obtain ⟨l2_4, l3_4⟩ := s_4
    have h : Ok (f4_continuation_b4 l1 σ l2_4 l3_4) B_4 := h
    change J X K 5 False QQ 0 0 2017 (jw K σ) 4 [(0, .ref (K.2.2 + 24)), (1, .int l1), (2, .int l2_4), (3, .int l3_4)] []
    have hj_48 : (∀ (l2_48 : Int32) (l3_48 : Int32), Ok (f4_continuation_j48 l1 σ l2_48 l3_48) B_4 → J X K 5 False QQ 0 0 2017 (jw K σ) 48 [(0, .ref (K.2.2 + 24)), (1, .int l1), (2, .int l2_48), (3, .int l3_48)] []) := by
      intro l2_48 l3_48 h
      unfold f4_continuation_j48 at h
      obtain ⟨x3_1, e_x3_1, h⟩ := Ok.nm h
      refine J_iincE (i := 3) (p := 3) (lv' := [(3, .int x3_1), (0, .ref (K.2.2 + 24)), (1, .int l1), (2, .int l2_48)]) C e_x3_1 dX4_continuation_48 rfl (by decide) (Nat.le_of_ble_eq_true rfl) rfl rfl ?_
      refine J_goto (t := 4) C dX4_continuation_51 (by decide) ?_
      refine J.sub [1, 2, 3, 0] rfl ?_
      exact hB_4 (l2_48, x3_1) h.osome
    unfold f4_continuation_b4 at h
    refine J_iload_n (i := 3) (p := 3) C dX4_continuation_4 rfl rfl rfl ?_
    refine J_aload_n (i := 0) (p := 0) C dX4_continuation_5 rfl rfl rfl ?_
    refine Jc_getI C fp_RX4_17 rfl rfl dX4_continuation_6 rfl ?_
    refine J_icmp_ge (t := 54) C dX4_continuation_9 (by decide) rfl (fun c_1 => ?_) (fun c_1 => ?_)
    · have h := h.pos c_1
      have h := hE_4 (Sum.inl ()) h.osome
      try dsimp only at h
      refine J_null C dX4_continuation_54 rfl ?_
      rw [← hQQ]
      exact J_aretq (r := 0) C hret (Nat.le_of_ble_eq_true rfl) (Nat.le_of_ble_eq_true rfl) ⟨_, h.osome, rfl, rfl, rfl⟩ dX4_continuation_55
    · have h := h.neg c_1
      refine J_aload_n (i := 0) (p := 0) C dX4_continuation_12 rfl rfl rfl ?_
      refine Jc_getS (o2 := 1) (r2 := 25) C fp_RX4_11 rfl rfl rfl dX4_continuation_13 rfl ?_
      refine J_iload_n (i := 3) (p := 3) C dX4_continuation_16 rfl rfl rfl ?_
      obtain ⟨g_2, h⟩ := Ok.ofgd h
      refine Jc_aald C rfl g_2 dX4_continuation_17 rfl ?_
      obtain ⟨x4_2, e_x4_2, h⟩ := Ok.nm h
      refine J_astoreqE (i := 4) (lv' := [(4, jv K.2.2 x4_2), (0, .ref (K.2.2 + 24)), (1, .int l1), (2, .int l2_4), (3, .int l3_4)]) (r := (39 + 13 * (Int32.toNatClampNeg l3_4)) + 1) C e_x4_2 dX4_continuation_18 (Nat.le_of_ble_eq_true rfl) rfl rfl ?_
      refine J_aloadq (i := 4) (p := 0) C dX4_continuation_20 rfl rfl ?_
      refine J_ifnullq (t := 48) C dX4_continuation_22 (by decide) rfl (fun c_3 => ?_) (fun c_3 => ?_)
      · have h := h.pos c_3
        refine J.sub [1, 2, 3, 4] rfl ?_
        exact hj_48 l2_4 l3_4 h
      · have h := h.neg c_3
        refine J_aloadq (i := 4) (p := 0) C dX4_continuation_25 rfl rfl ?_
        obtain ⟨g_4, h⟩ := Ok.ofgd h
        rw [jv_pos (r := x4_2) (okr_spec g_4).1]
        refine Jc_getD C fp_RX4_43 (okr_spec g_4).2 rfl dX4_continuation_27 rfl ?_
        refine J_aload_n (i := 0) (p := 1) C dX4_continuation_30 rfl rfl rfl ?_
        refine Jc_getD C fp_RX4_22 rfl rfl dX4_continuation_31 rfl ?_
        refine J_acmp_ne (r1 := fR σ (x4_2 - 1) 0) (r2 := fR σ 24 2) (t := 48) C dX4_continuation_34 (by decide) rfl (fun c_5 => ?_) (fun c_5 => ?_)
        · have h := h.neg c_5
          refine J.sub [1, 2, 3, 4] rfl ?_
          exact hj_48 l2_4 l3_4 h
        · have h := h.pos c_5
          refine J_iload_n (i := 2) (p := 3) C dX4_continuation_37 rfl rfl rfl ?_
          refine J_iload_n (i := 1) (p := 2) C dX4_continuation_38 rfl rfl rfl ?_
          refine J_icmp_ne (t := 45) C dX4_continuation_39 (by decide) rfl (fun c_6 => ?_) (fun c_6 => ?_)
          · have h := h.neg c_6
            obtain ⟨x2_3, e_x2_3, h⟩ := Ok.nm h
            refine J_iincE (i := 2) (p := 3) (lv' := [(2, .int x2_3), (4, .ref (K.2.2 + (x4_2 - 1))), (0, .ref (K.2.2 + 24)), (1, .int l1), (3, .int l3_4)]) C e_x2_3 dX4_continuation_45 rfl (by decide) (Nat.le_of_ble_eq_true rfl) rfl rfl ?_
            refine J.sub [2, 3, 0, 4] rfl ?_
            exact hj_48 x2_3 l3_4 h
          · have h := h.pos (Decidable.not_not.mp c_6)
            have h := hE_4 (Sum.inr ((x4_2 - 1) + 1)) h.osome
            try dsimp only at h
            refine J_aload (i := 4) (p := 0) C dX4_continuation_42 rfl rfl ?_
            rw [← hQQ]
            exact J_aretq (r := (x4_2 - 1) + 1) C hret (Nat.le_of_ble_eq_true rfl) (Nat.le_of_ble_eq_true rfl) ⟨_, h.osome, rfl, rfl, rfl⟩ dX4_continuation_44
  unfold f4_continuation at h
  refine J_iconst (v := 0) C (by decide) dX4_continuation_0 rfl ?_
  obtain ⟨x2_4, e_x2_4, h⟩ := Ok.nm h
  refine J_istoreE_n (i := 2) (lv' := [(2, .int x2_4), (0, .ref (K.2.2 + 24)), (1, .int l1)]) C e_x2_4 dX4_continuation_1 rfl (Nat.le_of_ble_eq_true rfl) rfl rfl ?_
  refine J_iconst (v := 0) C (by decide) dX4_continuation_2 rfl ?_
  obtain ⟨x3_5, e_x3_5, h⟩ := Ok.nm h
  refine J_istoreE_n (i := 3) (lv' := [(3, .int x3_5), (2, .int x2_4), (0, .ref (K.2.2 + 24)), (1, .int l1)]) C e_x3_5 dX4_continuation_3 rfl (Nat.le_of_ble_eq_true rfl) rfl rfl ?_
  refine J.sub [2, 3, 1, 0] rfl ?_
  exact hj_4 x2_4 x3_5 h
def f4_countContinuations_j43 (σ : Sto) (l2_43 : Int32) (s0_43 : Int32) (s1_43 : Int32) : Option ((Int32 × Int32) ⊕ Int32) :=
  stp (s0_43 + s1_43) fun x1_1 =>
  stp (l2_43 + (1 : Int32)) fun x2_2 =>
  some (.inl (x1_1, x2_2))
def f4_countContinuations_j42 (σ : Sto) (l2_42 : Int32) (s0_42 : Int32) : Option ((Int32 × Int32) ⊕ Int32) :=
  f4_countContinuations_j43 σ l2_42 s0_42 (0 : Int32)
def f4_countContinuations_b4 (σ : Sto) (l1_4 : Int32) (l2_4 : Int32) : Option ((Int32 × Int32) ⊕ Int32) :=
  if (fI σ 24 1) ≤ l2_4 then
    some (.inr l1_4)
  else
    gd (inb l2_4 150) <|
    if ((39 + 13 * (Int32.toNatClampNeg l2_4)) + 1) = 0 then
      f4_countContinuations_j42 σ l2_4 l1_4
    else
      gd (inb l2_4 150) <|
      gd (okr ((39 + 13 * (Int32.toNatClampNeg l2_4)) + 1) 0) <|
      if (fR σ (39 + 13 * (Int32.toNatClampNeg l2_4)) 0) = (fR σ 24 2) then
        f4_countContinuations_j43 σ l2_4 l1_4 (1 : Int32)
      else
        f4_countContinuations_j42 σ l2_4 l1_4
def f4_countContinuations_j4 (σ : Sto) (l1_4 : Int32) (l2_4 : Int32) : Option (Int32) :=
  bnd (loopF (fun s_4 => f4_countContinuations_b4 σ s_4.1 s_4.2) FU (l1_4, l2_4)) fun r_4 =>
    some r_4
def f4_countContinuations (σ : Sto) : Option (Int32) :=
  stp (0 : Int32) fun x1_3 =>
  stp (0 : Int32) fun x2_4 =>
  f4_countContinuations_j4 σ x1_3 x2_4
set_option maxHeartbeats 4000000 in
set_option maxRecDepth 100000 in
theorem k4_countContinuations {l : Launch} {K : JK} (hl : l.stackTraces = false) {σ : Sto}   {Qf : Int32 → Prop} (h : Ok (f4_countContinuations σ) Qf) : Con l K yX4_countContinuations (.code yX4_countContinuations cX4_countContinuations 3 (some .int) :: TB) 0 0 0 False [.ref (K.2.2 + 24)] 2017 (jw K σ) (PR Qf (fun p => some (.int p)) (fun p => jw K σ)) PN := by
  refine Con.enter (own := RX4) hl (by decide) rfl (Nat.le_of_ble_eq_true rfl) ?_
  intro X hX hR C hret hnt
  generalize hQQ : jQ X K 0 0 (PR Qf (fun p => some (.int p)) (fun p => jw K σ)) PN False = QQ
  change J X K 3 False QQ 0 0 2017 (jw K σ) 0 [(0, .ref (K.2.2 + 24))] []
  have hj_4 : (∀ (l1_4 : Int32) (l2_4 : Int32), Ok (f4_countContinuations_j4 σ l1_4 l2_4) Qf → J X K 3 False QQ 0 0 2017 (jw K σ) 4 [(0, .ref (K.2.2 + 24)), (1, .int l1_4), (2, .int l2_4)] []) := by
    intro l1_4 l2_4 h
    unfold f4_countContinuations_j4 at h
    refine loop_gen (S := Int32 × Int32) (P := fun s_4 => J X K 3 False QQ 0 0 2017 (jw K σ) 4 [(0, .ref (K.2.2 + 24)), (1, .int s_4.1), (2, .int s_4.2)] []) ?_ FU (l1_4, l2_4) (Ok.ofbnd h)
    intro B_4 hB_4 hE_4 s_4 h
    obtain ⟨l1_4, l2_4⟩ := s_4
    have h : Ok (f4_countContinuations_b4 σ l1_4 l2_4) B_4 := h
    change J X K 3 False QQ 0 0 2017 (jw K σ) 4 [(0, .ref (K.2.2 + 24)), (1, .int l1_4), (2, .int l2_4)] []
    have hj_43 : (∀ (l2_43 : Int32) (s0_43 : Int32) (s1_43 : Int32), Ok (f4_countContinuations_j43 σ l2_43 s0_43 s1_43) B_4 → J X K 3 False QQ 0 0 2017 (jw K σ) 43 [(0, .ref (K.2.2 + 24)), (2, .int l2_43)] [.int s1_43, .int s0_43]) := by
      intro l2_43 s0_43 s1_43 h
      unfold f4_countContinuations_j43 at h
      refine J_iadd C dX4_countContinuations_43 rfl ?_
      obtain ⟨x1_1, e_x1_1, h⟩ := Ok.nm h
      refine J_istoreE_n (i := 1) (lv' := [(1, .int x1_1), (0, .ref (K.2.2 + 24)), (2, .int l2_43)]) C e_x1_1 dX4_countContinuations_44 rfl (Nat.le_of_ble_eq_true rfl) rfl rfl ?_
      obtain ⟨x2_2, e_x2_2, h⟩ := Ok.nm h
      refine J_iincE (i := 2) (p := 2) (lv' := [(2, .int x2_2), (1, .int x1_1), (0, .ref (K.2.2 + 24))]) C e_x2_2 dX4_countContinuations_45 rfl (by decide) (Nat.le_of_ble_eq_true rfl) rfl rfl ?_
      refine J_goto (t := 4) C dX4_countContinuations_48 (by decide) ?_
      refine J.sub [2, 1, 0] rfl ?_
      exact hB_4 (x1_1, x2_2) h.osome
    have hj_42 : (∀ (l2_42 : Int32) (s0_42 : Int32), Ok (f4_countContinuations_j42 σ l2_42 s0_42) B_4 → J X K 3 False QQ 0 0 2017 (jw K σ) 42 [(0, .ref (K.2.2 + 24)), (2, .int l2_42)] [.int s0_42]) := by
      intro l2_42 s0_42 h
      unfold f4_countContinuations_j42 at h
      refine J_iconst (v := 0) C (by decide) dX4_countContinuations_42 rfl ?_
      exact hj_43 l2_42 s0_42 (0 : Int32) h
    unfold f4_countContinuations_b4 at h
    refine J_iload_n (i := 2) (p := 2) C dX4_countContinuations_4 rfl rfl rfl ?_
    refine J_aload_n (i := 0) (p := 0) C dX4_countContinuations_5 rfl rfl rfl ?_
    refine Jc_getI C fp_RX4_17 rfl rfl dX4_countContinuations_6 rfl ?_
    refine J_icmp_ge (t := 51) C dX4_countContinuations_9 (by decide) rfl (fun c_1 => ?_) (fun c_1 => ?_)
    · have h := h.pos c_1
      have h := hE_4 l1_4 h.osome
      try dsimp only at h
      refine J_iload_n (i := 1) (p := 1) C dX4_countContinuations_51 rfl rfl rfl ?_
      rw [← hQQ]
      exact J_iret C hret (Nat.le_of_ble_eq_true rfl) (Nat.le_of_ble_eq_true rfl) ⟨_, h.osome, rfl, rfl, rfl⟩ dX4_countContinuations_52
    · have h := h.neg c_1
      refine J_iload_n (i := 1) (p := 1) C dX4_countContinuations_12 rfl rfl rfl ?_
      refine J_aload_n (i := 0) (p := 0) C dX4_countContinuations_13 rfl rfl rfl ?_
      refine Jc_getS (o2 := 1) (r2 := 25) C fp_RX4_11 rfl rfl rfl dX4_countContinuations_14 rfl ?_
      refine J_iload_n (i := 2) (p := 2) C dX4_countContinuations_17 rfl rfl rfl ?_
      obtain ⟨g_2, h⟩ := Ok.ofgd h
      refine Jc_aald C rfl g_2 dX4_countContinuations_18 rfl ?_
      refine J_ifnullq (t := 42) (r := (39 + 13 * (Int32.toNatClampNeg l2_4)) + 1) C dX4_countContinuations_19 (by decide) rfl (fun c_3 => ?_) (fun c_3 => ?_)
      · have h := h.pos c_3
        refine J.sub [0, 2] rfl ?_
        exact hj_42 l2_4 l1_4 h
      · have h := h.neg c_3
        refine J_aload_n (i := 0) (p := 0) C dX4_countContinuations_22 rfl rfl rfl ?_
        refine Jc_getS (o2 := 1) (r2 := 25) C fp_RX4_11 rfl rfl rfl dX4_countContinuations_23 rfl ?_
        refine J_iload_n (i := 2) (p := 2) C dX4_countContinuations_26 rfl rfl rfl ?_
        obtain ⟨g_4, h⟩ := Ok.ofgd h
        refine Jc_aald C rfl g_4 dX4_countContinuations_27 rfl ?_
        obtain ⟨g_5, h⟩ := Ok.ofgd h
        refine Jc_getD C fp_RX4_43 (okr_spec g_5).2 rfl dX4_countContinuations_28 rfl ?_
        refine J_aload_n (i := 0) (p := 0) C dX4_countContinuations_31 rfl rfl rfl ?_
        refine Jc_getD C fp_RX4_22 rfl rfl dX4_countContinuations_32 rfl ?_
        refine J_acmp_ne (r1 := fR σ (39 + 13 * (Int32.toNatClampNeg l2_4)) 0) (r2 := fR σ 24 2) (t := 42) C dX4_countContinuations_35 (by decide) rfl (fun c_6 => ?_) (fun c_6 => ?_)
        · have h := h.neg c_6
          refine J.sub [0, 2] rfl ?_
          exact hj_42 l2_4 l1_4 h
        · have h := h.pos c_6
          refine J_iconst (v := 1) C (by decide) dX4_countContinuations_38 rfl ?_
          refine J_goto (t := 43) C dX4_countContinuations_39 (by decide) ?_
          refine J.sub [0, 2] rfl ?_
          exact hj_43 l2_4 l1_4 (1 : Int32) h
  unfold f4_countContinuations at h
  refine J_iconst (v := 0) C (by decide) dX4_countContinuations_0 rfl ?_
  obtain ⟨x1_3, e_x1_3, h⟩ := Ok.nm h
  refine J_istoreE_n (i := 1) (lv' := [(1, .int x1_3), (0, .ref (K.2.2 + 24))]) C e_x1_3 dX4_countContinuations_1 rfl (Nat.le_of_ble_eq_true rfl) rfl rfl ?_
  refine J_iconst (v := 0) C (by decide) dX4_countContinuations_2 rfl ?_
  obtain ⟨x2_4, e_x2_4, h⟩ := Ok.nm h
  refine J_istoreE_n (i := 2) (lv' := [(2, .int x2_4), (1, .int x1_3), (0, .ref (K.2.2 + 24))]) C e_x2_4 dX4_countContinuations_3 rfl (Nat.le_of_ble_eq_true rfl) rfl rfl ?_
  refine J.sub [2, 1, 0] rfl ?_
  exact hj_4 x1_3 x2_4 h
def f11_branch (σ : Sto) (l1 : Int32) : Option ((Int32 × Sto) ⊕ (Nat × Sto)) :=
  bnd (f4_continuation σ l1) fun p_1 =>
  stp p_1 fun x2_1 =>
  if x2_1 = 0 then
    some (.inr (4, σ))
  else
    bnd (f4_closeGroup σ) fun p_3 =>
    gd (okr (fR p_3 24 2) 0) <|
    stp (uR p_3 ((fR p_3 24 2) - 1) 1 x2_1) fun σx_2 =>
    bnd (f4_countContinuations σx_2) fun p_5 =>
    some (.inl (p_5, σx_2))
set_option maxHeartbeats 4000000 in
set_option maxRecDepth 100000 in
theorem k11_branch {l : Launch} {K : JK} (hl : l.stackTraces = false) {σ : Sto} {l1 : Int32}  {Qf : (Int32 × Sto) ⊕ (Nat × Sto) → Prop} (h : Ok (f11_branch σ l1) Qf) : Con l K yX11_branch (.code yX11_branch cX11_branch 3 (some .int) :: TB) 6 1 6 False [.ref (K.2.2 + 0), .int l1] 2017 (jw K σ) (PR (fun p => Qf (.inl p)) (fun p => some (.int p.1)) (fun p => jw K p.2)) (PX Qf (fun s => jw K s)) := by
  refine Con.enter (own := RX11) hl (by decide) rfl (Nat.le_of_ble_eq_true rfl) ?_
  intro X hX hR C hret hnt
  generalize hQQ : jQ X K 1 6 (PR (fun p => Qf (.inl p)) (fun p => some (.int p.1)) (fun p => jw K p.2)) (PX Qf (fun s => jw K s)) False = QQ
  change J X K 3 False QQ 0 0 2017 (jw K σ) 0 [(0, .ref (K.2.2 + 0)), (1, .int l1)] []
  unfold f11_branch at h
  refine J_aload_n (i := 0) (p := 0) C dX11_branch_0 rfl rfl rfl ?_
  refine Jc_getS (o2 := 24) (r2 := 24) C fp_RX11_42 rfl rfl rfl dX11_branch_1 rfl ?_
  refine J_iload_n (i := 1) (p := 1) C dX11_branch_4 rfl rfl rfl ?_
  refine Jc_cV (rest := []) (st9 := fun p_1 => [jv K.2.2 p_1]) C hR hX cv_RX11_227 rfl (Nat.le_of_ble_eq_true rfl) (k4_continuation hl  (Ok.ofbnd h)) rfl rfl (Nat.le_of_ble_eq_true rfl) (Nat.le_of_ble_eq_true rfl) (Nat.le_of_ble_eq_true rfl) ⟨(Nat.le_of_ble_eq_true rfl), (Nat.le_of_ble_eq_true rfl)⟩ dX11_branch_5 rfl (fun E n9 w9 hx => JT_n hx) (fun _ => rfl) (fun p_1 h => ?_)
  have h : Ok _ _ := h
  change J X K 3 False QQ 0 0 2017 (jw K σ) 8 [(0, .ref (K.2.2 + 0)), (1, .int l1)] [jv K.2.2 p_1]
  obtain ⟨x2_1, e_x2_1, h⟩ := Ok.nm h
  refine J_astoreqE_n (i := 2) (lv' := [(2, jv K.2.2 x2_1), (0, .ref (K.2.2 + 0)), (1, .int l1)]) C e_x2_1 dX11_branch_8 rfl (Nat.le_of_ble_eq_true rfl) rfl rfl ?_
  refine J_aloadq_n (i := 2) (p := 0) C dX11_branch_9 rfl rfl rfl ?_
  refine J_ifnonnullq (t := 23) C dX11_branch_10 (by decide) rfl (fun c_2 => ?_) (fun c_2 => ?_)
  · have h := h.neg c_2
    refine J_aload_n (i := 0) (p := 1) C dX11_branch_23 rfl rfl rfl ?_
    refine Jc_getS (o2 := 24) (r2 := 24) C fp_RX11_42 rfl rfl rfl dX11_branch_24 rfl ?_
    refine Jc_cV (rest := []) (st9 := fun p_3 => []) C hR hX cv_RX11_218 rfl (Nat.le_of_ble_eq_true rfl) (k4_closeGroup hl  (Ok.ofbnd h)) rfl rfl (Nat.le_of_ble_eq_true rfl) (Nat.le_of_ble_eq_true rfl) (Nat.le_of_ble_eq_true rfl) ⟨(Nat.le_of_ble_eq_true rfl), (Nat.le_of_ble_eq_true rfl)⟩ dX11_branch_27 rfl (fun E n9 w9 hx => JT_n hx) (fun _ => rfl) (fun p_3 h => ?_)
    have h : Ok _ _ := h
    change J X K 3 False QQ 0 0 2017 (jw K p_3) 30 [(2, jv K.2.2 x2_1), (0, .ref (K.2.2 + 0)), (1, .int l1)] []
    refine J_aload_n (i := 0) (p := 1) C dX11_branch_30 rfl rfl rfl ?_
    refine Jc_getS (o2 := 24) (r2 := 24) C fp_RX11_42 rfl rfl rfl dX11_branch_31 rfl ?_
    refine Jc_getD C fp_RX11_236 rfl rfl dX11_branch_34 rfl ?_
    refine J_aloadq_n (i := 2) (p := 0) C dX11_branch_37 rfl rfl rfl ?_
    obtain ⟨g_4, h⟩ := Ok.ofgd h
    rw [jv_pos (r := fR p_3 24 2) (okr_spec g_4).1]
    obtain ⟨σx_2, e_σx_2, h⟩ := Ok.nm h
    refine Jc_putD (v := x2_1) C id fp_RX11_240 fw_0_1 (Or.inl ⟨_, rfl⟩) (okr_spec g_4).2 rfl e_σx_2 dX11_branch_38 rfl ?_
    refine J_aload_n (i := 0) (p := 1) C dX11_branch_41 rfl rfl rfl ?_
    refine Jc_getS (o2 := 24) (r2 := 24) C fp_RX11_42 rfl rfl rfl dX11_branch_42 rfl ?_
    refine Jc_cV (rest := []) (st9 := fun p_5 => [.int p_5]) C hR hX cv_RX11_245 rfl (Nat.le_of_ble_eq_true rfl) (k4_countContinuations hl  (Ok.ofbnd h)) rfl rfl (Nat.le_of_ble_eq_true rfl) (Nat.le_of_ble_eq_true rfl) (Nat.le_of_ble_eq_true rfl) ⟨(Nat.le_of_ble_eq_true rfl), (Nat.le_of_ble_eq_true rfl)⟩ dX11_branch_45 rfl (fun E n9 w9 hx => JT_n hx) (fun _ => rfl) (fun p_5 h => ?_)
    have h : Ok _ _ := h
    change J X K 3 False QQ 0 0 2017 (jw K σx_2) 48 [(2, jv K.2.2 x2_1), (0, .ref (K.2.2 + 0)), (1, .int l1)] [.int p_5]
    rw [← hQQ]
    exact J_iret C hret (Nat.le_of_ble_eq_true rfl) (Nat.le_of_ble_eq_true rfl) ⟨_, h.osome, rfl, rfl, rfl⟩ dX11_branch_48
  · have h := h.pos c_2
    rw [← hQQ]
    exact J_throw13 (is := 233) (text := "there is no such continuation") C hnt th_231 (by decide +kernel) dX11_branch_13 dX11_branch_16 dX11_branch_17 dX11_branch_19 dX11_branch_22 (by rw [hR]; exact (Nat.le_of_ble_eq_true rfl)) (by rw [hR]; exact (Nat.le_of_ble_eq_true rfl)) (by rw [hR]; exact (Nat.le_of_ble_eq_true rfl)) (by rw [hR]; exact (Nat.le_of_ble_eq_true rfl)) (Nat.le_of_ble_eq_true rfl) (Nat.le_of_ble_eq_true rfl) ⟨4, σ, h.osome, rfl, rfl, rfl⟩
def f11_group (σ : Sto) (l1 : Int32) : Option (Int32 × Sto) :=
  stp (fI σ 24 3) fun x2_1 =>
  bnd (f4_closeGroup σ) fun p_1 =>
  gd (isB l1) <|
  stp (uI p_1 24 3 l1) fun σx_2 =>
  gd (isB x2_1) <|
  some (x2_1, σx_2)
set_option maxHeartbeats 4000000 in
set_option maxRecDepth 100000 in
theorem k11_group {l : Launch} {K : JK} (hl : l.stackTraces = false) {σ : Sto} {l1 : Int32}  {Qf : Int32 × Sto → Prop} (h : Ok (f11_group σ l1) Qf) : Con l K yX11_group (.code yX11_group cX11_group 3 (some .boolean) :: TB) 1 0 0 False [.ref (K.2.2 + 0), .int l1] 2017 (jw K σ) (PR Qf (fun p => some (.int p.1)) (fun p => jw K p.2)) PN := by
  refine Con.enter (own := RX11) hl (by decide) rfl (Nat.le_of_ble_eq_true rfl) ?_
  intro X hX hR C hret hnt
  generalize hQQ : jQ X K 0 0 (PR Qf (fun p => some (.int p.1)) (fun p => jw K p.2)) PN False = QQ
  change J X K 3 False QQ 0 0 2017 (jw K σ) 0 [(0, .ref (K.2.2 + 0)), (1, .int l1)] []
  unfold f11_group at h
  refine J_aload_n (i := 0) (p := 0) C dX11_group_0 rfl rfl rfl ?_
  refine Jc_getS (o2 := 24) (r2 := 24) C fp_RX11_42 rfl rfl rfl dX11_group_1 rfl ?_
  refine Jc_getI C fp_RX11_249 rfl rfl dX11_group_4 rfl ?_
  obtain ⟨x2_1, e_x2_1, h⟩ := Ok.nm h
  refine J_istoreE_n (i := 2) (lv' := [(2, .int x2_1), (0, .ref (K.2.2 + 0)), (1, .int l1)]) C e_x2_1 dX11_group_7 rfl (Nat.le_of_ble_eq_true rfl) rfl rfl ?_
  refine J_aload_n (i := 0) (p := 1) C dX11_group_8 rfl rfl rfl ?_
  refine Jc_getS (o2 := 24) (r2 := 24) C fp_RX11_42 rfl rfl rfl dX11_group_9 rfl ?_
  refine Jc_cV (rest := []) (st9 := fun p_1 => []) C hR hX cv_RX11_218 rfl (Nat.le_of_ble_eq_true rfl) (k4_closeGroup hl  (Ok.ofbnd h)) rfl rfl (Nat.le_of_ble_eq_true rfl) (Nat.le_of_ble_eq_true rfl) (Nat.le_of_ble_eq_true rfl) ⟨(Nat.le_of_ble_eq_true rfl), (Nat.le_of_ble_eq_true rfl)⟩ dX11_group_12 rfl (fun E n9 w9 hx => JT_n hx) (fun _ => rfl) (fun p_1 h => ?_)
  have h : Ok _ _ := h
  change J X K 3 False QQ 0 0 2017 (jw K p_1) 15 [(2, .int x2_1), (0, .ref (K.2.2 + 0)), (1, .int l1)] []
  refine J_aload_n (i := 0) (p := 1) C dX11_group_15 rfl rfl rfl ?_
  refine Jc_getS (o2 := 24) (r2 := 24) C fp_RX11_42 rfl rfl rfl dX11_group_16 rfl ?_
  refine J_iload_n (i := 1) (p := 2) C dX11_group_19 rfl rfl rfl ?_
  obtain ⟨g_2, h⟩ := Ok.ofgd h
  obtain ⟨σx_2, e_σx_2, h⟩ := Ok.nm h
  refine Jc_putZ C id fp_RX11_249 fw_4_3 rfl g_2 rfl rfl e_σx_2 dX11_group_20 rfl ?_
  refine J_iload_n (i := 2) (p := 0) C dX11_group_23 rfl rfl rfl ?_
  obtain ⟨g_3, h⟩ := Ok.ofgd h
  rw [← hQQ]
  exact J_zret C hret (narB g_3).1 (Nat.le_of_ble_eq_true rfl) (Nat.le_of_ble_eq_true rfl) ⟨_, h.osome, rfl, rfl, rfl⟩ dX11_group_24
