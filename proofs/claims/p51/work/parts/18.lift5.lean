def f11_setPattern_j22 (l1 : Int32) (σ_22 : Sto) : Option ((Int32 × Sto) ⊕ (Nat × Sto)) :=
  some (.inr (3, σ_22))
def f11_setPattern (σ : Sto) (l1 : Int32) : Option ((Int32 × Sto) ⊕ (Nat × Sto)) :=
  if (fI σ 8 1) = 0 then
    f11_setPattern_j22 l1 σ
  else
    if (fI σ 8 1) ≤ (40 : Int32) then
      bnd (f6_become σ 1990 9 (0 : Int32) (fI σ 8 1)) fun p_3 =>
      gd (isB l1) <|
      stp (uI p_3 1989 1 l1) fun σx_1 =>
      bnd (f7_countFinds σx_1 1) fun p_5 =>
      some (.inl (p_5, σx_1))
    else
      f11_setPattern_j22 l1 σ
set_option maxHeartbeats 4000000 in
set_option maxRecDepth 100000 in
theorem k11_setPattern {l : Launch} {K : JK} (hl : l.stackTraces = false) {σ : Sto} {l1 : Int32}  {Qf : (Int32 × Sto) ⊕ (Nat × Sto) → Prop} (h : Ok (f11_setPattern σ l1) Qf) : Con l K yX11_setPattern (.code yX11_setPattern cX11_setPattern 2 (some .int) :: TB) 6 1 6 False [.ref (K.2.2 + 0), .int l1] 2017 (jw K σ) (PR (fun p => Qf (.inl p)) (fun p => some (.int p.1)) (fun p => jw K p.2)) (PX Qf (fun s => jw K s)) := by
  refine Con.enter (own := RX11) hl (by decide) rfl (Nat.le_of_ble_eq_true rfl) ?_
  intro X hX hR C hret hnt
  generalize hQQ : jQ X K 1 6 (PR (fun p => Qf (.inl p)) (fun p => some (.int p.1)) (fun p => jw K p.2)) (PX Qf (fun s => jw K s)) False = QQ
  change J X K 2 False QQ 0 0 2017 (jw K σ) 0 [(0, .ref (K.2.2 + 0)), (1, .int l1)] []
  have hj_22 : (∀ (σ_22 : Sto), Ok (f11_setPattern_j22 l1 σ_22) Qf → J X K 2 False QQ 0 0 2017 (jw K σ_22) 22 [] []) := by
    intro σ_22 h
    unfold f11_setPattern_j22 at h
    rw [← hQQ]
    exact J_throwW (is := 301) (text := "the tape is no pattern") C hnt th_92 (by decide +kernel) dX11_setPattern_22 dX11_setPattern_25 dX11_setPattern_26 dX11_setPattern_29 dX11_setPattern_32 (by rw [hR]; exact (Nat.le_of_ble_eq_true rfl)) (by rw [hR]; exact (Nat.le_of_ble_eq_true rfl)) (by rw [hR]; exact (Nat.le_of_ble_eq_true rfl)) (by rw [hR]; exact (Nat.le_of_ble_eq_true rfl)) (Nat.le_of_ble_eq_true rfl) (Nat.le_of_ble_eq_true rfl) ⟨3, σ_22, h.osome, rfl, rfl, rfl⟩
  unfold f11_setPattern at h
  refine J_aload_n (i := 0) (p := 0) C dX11_setPattern_0 rfl rfl rfl ?_
  refine Jc_getS (o2 := 8) (r2 := 8) C fp_RX11_21 rfl rfl rfl dX11_setPattern_1 rfl ?_
  refine Jc_getI C fp_RX11_89 rfl rfl dX11_setPattern_4 rfl ?_
  refine J_if_eq (t := 22) C dX11_setPattern_7 (by decide) rfl (fun c_1 => ?_) (fun c_1 => ?_)
  · have h := h.pos c_1
    refine J.sub [] rfl ?_
    exact hj_22 σ h
  · have h := h.neg c_1
    refine J_aload_n (i := 0) (p := 0) C dX11_setPattern_10 rfl rfl rfl ?_
    refine Jc_getS (o2 := 8) (r2 := 8) C fp_RX11_21 rfl rfl rfl dX11_setPattern_11 rfl ?_
    refine Jc_getI C fp_RX11_89 rfl rfl dX11_setPattern_14 rfl ?_
    refine J_bipush (v := 40) C (by decide) dX11_setPattern_17 rfl ?_
    refine J_icmp_le (t := 33) C dX11_setPattern_19 (by decide) rfl (fun c_2 => ?_) (fun c_2 => ?_)
    · have h := h.pos c_2
      refine J_aload_n (i := 0) (p := 0) C dX11_setPattern_33 rfl rfl rfl ?_
      refine Jc_getS (o2 := 1989) (r2 := 1989) C fp_RX11_49 rfl rfl rfl dX11_setPattern_34 rfl ?_
      refine Jc_getS (o2 := 1) (r2 := 1990) C fp_RX11_212 rfl rfl rfl dX11_setPattern_37 rfl ?_
      refine J_aload_n (i := 0) (p := 0) C dX11_setPattern_40 rfl rfl rfl ?_
      refine Jc_getS (o2 := 8) (r2 := 8) C fp_RX11_21 rfl rfl rfl dX11_setPattern_41 rfl ?_
      refine Jc_getS (o2 := 1) (r2 := 9) C fp_RX11_130 rfl rfl rfl dX11_setPattern_44 rfl ?_
      refine J_iconst (v := 0) C (by decide) dX11_setPattern_47 rfl ?_
      refine J_aload_n (i := 0) (p := 0) C dX11_setPattern_48 rfl rfl rfl ?_
      refine Jc_getS (o2 := 8) (r2 := 8) C fp_RX11_21 rfl rfl rfl dX11_setPattern_49 rfl ?_
      refine Jc_getI C fp_RX11_89 rfl rfl dX11_setPattern_52 rfl ?_
      refine Jc_cV (rest := []) (st9 := fun p_3 => []) C hR hX cv_RX11_303 rfl (Nat.le_of_ble_eq_true rfl) (k6_become hl rfl rfl (Ok.ofbnd h)) rfl rfl (Nat.le_of_ble_eq_true rfl) (Nat.le_of_ble_eq_true rfl) (Nat.le_of_ble_eq_true rfl) ⟨(Nat.le_of_ble_eq_true rfl), (Nat.le_of_ble_eq_true rfl)⟩ dX11_setPattern_55 rfl (fun E n9 w9 hx => JT_n hx) (fun _ => rfl) (fun p_3 h => ?_)
      have h : Ok _ _ := h
      change J X K 2 False QQ 0 0 2017 (jw K p_3) 58 [(0, .ref (K.2.2 + 0)), (1, .int l1)] []
      refine J_aload_n (i := 0) (p := 0) C dX11_setPattern_58 rfl rfl rfl ?_
      refine Jc_getS (o2 := 1989) (r2 := 1989) C fp_RX11_49 rfl rfl rfl dX11_setPattern_59 rfl ?_
      refine J_iload_n (i := 1) (p := 1) C dX11_setPattern_62 rfl rfl rfl ?_
      obtain ⟨g_4, h⟩ := Ok.ofgd h
      obtain ⟨σx_1, e_σx_1, h⟩ := Ok.nm h
      refine Jc_putZ C id fp_RX11_306 fw_7_1 rfl g_4 rfl rfl e_σx_1 dX11_setPattern_63 rfl ?_
      refine J_aload_n (i := 0) (p := 0) C dX11_setPattern_66 rfl rfl rfl ?_
      refine Jc_getS (o2 := 1989) (r2 := 1989) C fp_RX11_49 rfl rfl rfl dX11_setPattern_67 rfl ?_
      refine J_aload_n (i := 0) (p := 0) C dX11_setPattern_70 rfl rfl rfl ?_
      refine Jc_getS (o2 := 1) (r2 := 1) C fp_RX11_10 rfl rfl rfl dX11_setPattern_71 rfl ?_
      refine Jc_cV (rest := []) (st9 := fun p_5 => [.int p_5]) C hR hX cv_RX11_309 rfl (Nat.le_of_ble_eq_true rfl) (k7_countFinds hl rfl (Ok.ofbnd h)) rfl rfl (Nat.le_of_ble_eq_true rfl) (Nat.le_of_ble_eq_true rfl) (Nat.le_of_ble_eq_true rfl) ⟨(Nat.le_of_ble_eq_true rfl), (Nat.le_of_ble_eq_true rfl)⟩ dX11_setPattern_74 rfl (fun E n9 w9 hx => JT_n hx) (fun _ => rfl) (fun p_5 h => ?_)
      have h : Ok _ _ := h
      change J X K 2 False QQ 0 0 2017 (jw K σx_1) 77 [(0, .ref (K.2.2 + 0)), (1, .int l1)] [.int p_5]
      rw [← hQQ]
      exact J_iret C hret (Nat.le_of_ble_eq_true rfl) (Nat.le_of_ble_eq_true rfl) ⟨_, h.osome, rfl, rfl, rfl⟩ dX11_setPattern_77
    · have h := h.neg c_2
      refine J.sub [] rfl ?_
      exact hj_22 σ h
def f7_before_b19 (a1 : Nat) (l2 : Int32) (σ : Sto) (l3_19 : Int32) : Option (Int32 ⊕ (Unit ⊕ Int32)) :=
  if l3_19 < 0 then
    some (.inr (Sum.inl ()))
  else
    bnd (f7_isFind σ a1 l3_19) fun p_2 =>
    if p_2 = 0 then
      stp (l3_19 + (-1 : Int32)) fun x3_1 =>
      some (.inl x3_1)
    else
      some (.inr (Sum.inr l3_19))
def f7_before_j19 (a1 : Nat) (l2 : Int32) (σ : Sto) (l3_19 : Int32) : Option (Int32) :=
  bnd (loopF (fun s_19 => f7_before_b19 a1 l2 σ s_19) FU l3_19) fun r_19 =>
    match r_19 with
    | .inl r_19x =>
      some (-1 : Int32)
    | .inr r_19y =>
      some r_19y
def f7_before (σ : Sto) (a1 : Nat) (l2 : Int32) : Option (Int32) :=
  stp (imin (l2 - (1 : Int32)) ((fI σ a1 1) - (fI σ 1990 1))) fun x3_2 =>
  f7_before_j19 a1 l2 σ x3_2
set_option maxHeartbeats 4000000 in
set_option maxRecDepth 100000 in
theorem k7_before {l : Launch} {K : JK} (hl : l.stackTraces = false) {σ : Sto} {a1 : Nat} {l2 : Int32} (h_a1 : kc a1 = 8) {Qf : Int32 → Prop} (h : Ok (f7_before σ a1 l2) Qf) : Con l K yX7_before (.code yX7_before cX7_before 4 (some .int) :: TB) 2 0 0 False [.ref (K.2.2 + 1989), .ref (K.2.2 + a1), .int l2] 2017 (jw K σ) (PR Qf (fun p => some (.int p)) (fun p => jw K σ)) PN := by
  refine Con.enter (own := RX7) hl (by decide) rfl (Nat.le_of_ble_eq_true rfl) ?_
  intro X hX hR C hret hnt
  generalize hQQ : jQ X K 0 0 (PR Qf (fun p => some (.int p)) (fun p => jw K σ)) PN False = QQ
  change J X K 4 False QQ 0 0 2017 (jw K σ) 0 [(0, .ref (K.2.2 + 1989)), (1, .ref (K.2.2 + a1)), (2, .int l2)] []
  have hj_19 : (∀ (l3_19 : Int32), Ok (f7_before_j19 a1 l2 σ l3_19) Qf → J X K 4 False QQ 0 0 2017 (jw K σ) 19 [(0, .ref (K.2.2 + 1989)), (1, .ref (K.2.2 + a1)), (3, .int l3_19)] []) := by
    intro l3_19 h
    unfold f7_before_j19 at h
    refine loop_gen (S := Int32) (P := fun s_19 => J X K 4 False QQ 0 0 2017 (jw K σ) 19 [(0, .ref (K.2.2 + 1989)), (1, .ref (K.2.2 + a1)), (3, .int s_19)] []) ?_ FU l3_19 (Ok.ofbnd h)
    intro B_19 hB_19 hE_19 s_19 h
    generalize s_19 = l3_19 at h ⊢
    have h : Ok (f7_before_b19 a1 l2 σ l3_19) B_19 := h
    change J X K 4 False QQ 0 0 2017 (jw K σ) 19 [(0, .ref (K.2.2 + 1989)), (1, .ref (K.2.2 + a1)), (3, .int l3_19)] []
    unfold f7_before_b19 at h
    refine J_iload_n (i := 3) (p := 2) C dX7_before_19 rfl rfl rfl ?_
    refine J_if_lt (t := 40) C dX7_before_20 (by decide) rfl (fun c_1 => ?_) (fun c_1 => ?_)
    · have h := h.pos c_1
      have h := hE_19 (Sum.inl ()) h.osome
      try dsimp only at h
      refine J_iconst (v := -1) C (by decide) dX7_before_40 rfl ?_
      rw [← hQQ]
      exact J_iret C hret (Nat.le_of_ble_eq_true rfl) (Nat.le_of_ble_eq_true rfl) ⟨_, h.osome, rfl, rfl, rfl⟩ dX7_before_41
    · have h := h.neg c_1
      refine J_aload_n (i := 0) (p := 0) C dX7_before_23 rfl rfl rfl ?_
      refine J_aload_n (i := 1) (p := 1) C dX7_before_24 rfl rfl rfl ?_
      refine J_iload_n (i := 3) (p := 2) C dX7_before_25 rfl rfl rfl ?_
      refine Jc_cV (rest := []) (st9 := fun p_2 => [.int p_2]) C hR hX cv_RX7_31 rfl (Nat.le_of_ble_eq_true rfl) (k7_isFind hl h_a1 (Ok.ofbnd h)) rfl rfl (Nat.le_of_ble_eq_true rfl) (Nat.le_of_ble_eq_true rfl) (Nat.le_of_ble_eq_true rfl) ⟨(Nat.le_of_ble_eq_true rfl), (Nat.le_of_ble_eq_true rfl)⟩ dX7_before_26 rfl (fun E n9 w9 hx => JT_n hx) (fun _ => rfl) (fun p_2 h => ?_)
      have h : Ok _ _ := h
      change J X K 4 False QQ 0 0 2017 (jw K σ) 29 [(0, .ref (K.2.2 + 1989)), (1, .ref (K.2.2 + a1)), (3, .int l3_19)] [.int p_2]
      refine J_if_eq (t := 34) C dX7_before_29 (by decide) rfl (fun c_3 => ?_) (fun c_3 => ?_)
      · have h := h.pos c_3
        obtain ⟨x3_1, e_x3_1, h⟩ := Ok.nm h
        refine J_iincE (i := 3) (p := 2) (lv' := [(3, .int x3_1), (0, .ref (K.2.2 + 1989)), (1, .ref (K.2.2 + a1))]) C e_x3_1 dX7_before_34 rfl (by decide) (Nat.le_of_ble_eq_true rfl) rfl rfl ?_
        refine J_goto (t := 19) C dX7_before_37 (by decide) ?_
        refine J.sub [1, 2, 0] rfl ?_
        exact hB_19 x3_1 h.osome
      · have h := h.neg c_3
        have h := hE_19 (Sum.inr l3_19) h.osome
        try dsimp only at h
        refine J_iload_n (i := 3) (p := 2) C dX7_before_32 rfl rfl rfl ?_
        rw [← hQQ]
        exact J_iret C hret (Nat.le_of_ble_eq_true rfl) (Nat.le_of_ble_eq_true rfl) ⟨_, h.osome, rfl, rfl, rfl⟩ dX7_before_33
  unfold f7_before at h
  refine J_iload_n (i := 2) (p := 2) C dX7_before_0 rfl rfl rfl ?_
  refine J_iconst (v := 1) C (by decide) dX7_before_1 rfl ?_
  refine J_isub C dX7_before_2 rfl ?_
  refine J_aload_n (i := 1) (p := 1) C dX7_before_3 rfl rfl rfl ?_
  refine Jc_getI C fp_RX7_28 h_a1 rfl dX7_before_4 rfl ?_
  refine J_aload_n (i := 0) (p := 0) C dX7_before_7 rfl rfl rfl ?_
  refine Jc_getS (o2 := 1) (r2 := 1990) C fp_RX7_14 rfl rfl rfl dX7_before_8 rfl ?_
  refine Jc_getI C fp_RX7_24 rfl rfl dX7_before_11 rfl ?_
  refine J_isub C dX7_before_14 rfl ?_
  refine J_mmin C hR mm_RX7_35 (Nat.le_of_ble_eq_true rfl) (Nat.le_of_ble_eq_true rfl) (Nat.le_of_ble_eq_true rfl) (Nat.le_of_ble_eq_true rfl) dX7_before_15 rfl ?_
  obtain ⟨x3_2, e_x3_2, h⟩ := Ok.nm h
  refine J_istoreE_n (i := 3) (lv' := [(3, .int x3_2), (0, .ref (K.2.2 + 1989)), (1, .ref (K.2.2 + a1)), (2, .int l2)]) C e_x3_2 dX7_before_18 rfl (Nat.le_of_ble_eq_true rfl) rfl rfl ?_
  refine J.sub [1, 2, 0] rfl ?_
  exact hj_19 x3_2 h
def f11_find_j56 (l1 : Int32) (l2 : Int32) (σ_56 : Sto) (s0_56 : Int32) : Option ((Int32 × Sto) ⊕ (Nat × Sto)) :=
  some (.inl (s0_56, σ_56))
def f11_find (σ : Sto) (l1 : Int32) (l2 : Int32) : Option ((Int32 × Sto) ⊕ (Nat × Sto)) :=
  bndX (f11_requirePlace σ l1) fun p_1 =>
  bnd (f7_isSet p_1) fun p_2 =>
  if p_2 = 0 then
    some (.inr (3, p_1))
  else
    if l2 = 0 then
      bnd (f7_before p_1 1 l1) fun p_5 =>
      f11_find_j56 l1 l2 p_1 p_5
    else
      bnd (f7_next p_1 1 l1) fun p_6 =>
      f11_find_j56 l1 l2 p_1 p_6
set_option maxHeartbeats 4000000 in
set_option maxRecDepth 100000 in
theorem k11_find {l : Launch} {K : JK} (hl : l.stackTraces = false) {σ : Sto} {l1 : Int32} {l2 : Int32}  {Qf : (Int32 × Sto) ⊕ (Nat × Sto) → Prop} (h : Ok (f11_find σ l1 l2) Qf) : Con l K yX11_find (.code yX11_find cX11_find 3 (some .int) :: TB) 7 2 12 False [.ref (K.2.2 + 0), .int l1, .int l2] 2017 (jw K σ) (PR (fun p => Qf (.inl p)) (fun p => some (.int p.1)) (fun p => jw K p.2)) (PX Qf (fun s => jw K s)) := by
  refine Con.enter (own := RX11) hl (by decide) rfl (Nat.le_of_ble_eq_true rfl) ?_
  intro X hX hR C hret hnt
  generalize hQQ : jQ X K 2 12 (PR (fun p => Qf (.inl p)) (fun p => some (.int p.1)) (fun p => jw K p.2)) (PX Qf (fun s => jw K s)) False = QQ
  change J X K 3 False QQ 0 0 2017 (jw K σ) 0 [(0, .ref (K.2.2 + 0)), (1, .int l1), (2, .int l2)] []
  have hj_56 : (∀ (σ_56 : Sto) (s0_56 : Int32), Ok (f11_find_j56 l1 l2 σ_56 s0_56) Qf → J X K 3 False QQ 1 6 2017 (jw K σ_56) 56 [] [.int s0_56]) := by
    intro σ_56 s0_56 h
    unfold f11_find_j56 at h
    rw [← hQQ]
    exact J_iret C hret (Nat.le_of_ble_eq_true rfl) (Nat.le_of_ble_eq_true rfl) ⟨_, h.osome, rfl, rfl, rfl⟩ dX11_find_56
  unfold f11_find at h
  refine J_aload_n (i := 0) (p := 0) C dX11_find_0 rfl rfl rfl ?_
  refine J_iload_n (i := 1) (p := 1) C dX11_find_1 rfl rfl rfl ?_
  refine Jc_cV (rest := []) (st9 := fun p_1 => []) C hR hX cv_RX11_264 rfl (Nat.le_of_ble_eq_true rfl) (k11_requirePlace hl  (Ok.ofbndX h)) rfl rfl (Nat.le_of_ble_eq_true rfl) (Nat.le_of_ble_eq_true rfl) (Nat.le_of_ble_eq_true rfl) ⟨(Nat.le_of_ble_eq_true rfl), (Nat.le_of_ble_eq_true rfl)⟩ dX11_find_2 rfl (fun E n9 w9 hx => by rw [← hQQ]; exact JT_x C hnt (Nat.le_of_ble_eq_true rfl) (Nat.le_of_ble_eq_true rfl) (fun c h => h) E n9 w9 hx) (fun _ => rfl) (fun p_1 h => ?_)
  have h : Ok _ _ := h
  change J X K 3 False QQ 1 6 2017 (jw K p_1) 5 [(0, .ref (K.2.2 + 0)), (1, .int l1), (2, .int l2)] []
  refine J_aload_n (i := 0) (p := 0) C dX11_find_5 rfl rfl rfl ?_
  refine Jc_getS (o2 := 1989) (r2 := 1989) C fp_RX11_49 rfl rfl rfl dX11_find_6 rfl ?_
  refine Jc_cV (rest := []) (st9 := fun p_2 => [.int p_2]) C hR hX cv_RX11_200 rfl (Nat.le_of_ble_eq_true rfl) (k7_isSet hl  (Ok.ofbnd h)) rfl rfl (Nat.le_of_ble_eq_true rfl) (Nat.le_of_ble_eq_true rfl) (Nat.le_of_ble_eq_true rfl) ⟨(Nat.le_of_ble_eq_true rfl), (Nat.le_of_ble_eq_true rfl)⟩ dX11_find_9 rfl (fun E n9 w9 hx => JT_n hx) (fun _ => rfl) (fun p_2 h => ?_)
  have h : Ok _ _ := h
  change J X K 3 False QQ 1 6 2017 (jw K p_1) 12 [(0, .ref (K.2.2 + 0)), (1, .int l1), (2, .int l2)] [.int p_2]
  refine J_if_ne (t := 25) C dX11_find_12 (by decide) rfl (fun c_3 => ?_) (fun c_3 => ?_)
  · have h := h.neg c_3
    refine J_iload_n (i := 2) (p := 2) C dX11_find_25 rfl rfl rfl ?_
    refine J_if_eq (t := 44) C dX11_find_26 (by decide) rfl (fun c_4 => ?_) (fun c_4 => ?_)
    · have h := h.pos c_4
      refine J_aload_n (i := 0) (p := 0) C dX11_find_44 rfl rfl rfl ?_
      refine Jc_getS (o2 := 1989) (r2 := 1989) C fp_RX11_49 rfl rfl rfl dX11_find_45 rfl ?_
      refine J_aload_n (i := 0) (p := 0) C dX11_find_48 rfl rfl rfl ?_
      refine Jc_getS (o2 := 1) (r2 := 1) C fp_RX11_10 rfl rfl rfl dX11_find_49 rfl ?_
      refine J_iload_n (i := 1) (p := 1) C dX11_find_52 rfl rfl rfl ?_
      refine Jc_cV (rest := []) (st9 := fun p_5 => [.int p_5]) C hR hX cv_RX11_313 rfl (Nat.le_of_ble_eq_true rfl) (k7_before hl rfl (Ok.ofbnd h)) rfl rfl (Nat.le_of_ble_eq_true rfl) (Nat.le_of_ble_eq_true rfl) (Nat.le_of_ble_eq_true rfl) ⟨(Nat.le_of_ble_eq_true rfl), (Nat.le_of_ble_eq_true rfl)⟩ dX11_find_53 rfl (fun E n9 w9 hx => JT_n hx) (fun _ => rfl) (fun p_5 h => ?_)
      have h : Ok _ _ := h
      change J X K 3 False QQ 1 6 2017 (jw K p_1) 56 [(0, .ref (K.2.2 + 0)), (1, .int l1), (2, .int l2)] [.int p_5]
      refine J.sub [] rfl ?_
      exact hj_56 p_1 p_5 h
    · have h := h.neg c_4
      refine J_aload_n (i := 0) (p := 0) C dX11_find_29 rfl rfl rfl ?_
      refine Jc_getS (o2 := 1989) (r2 := 1989) C fp_RX11_49 rfl rfl rfl dX11_find_30 rfl ?_
      refine J_aload_n (i := 0) (p := 0) C dX11_find_33 rfl rfl rfl ?_
      refine Jc_getS (o2 := 1) (r2 := 1) C fp_RX11_10 rfl rfl rfl dX11_find_34 rfl ?_
      refine J_iload_n (i := 1) (p := 1) C dX11_find_37 rfl rfl rfl ?_
      refine Jc_cV (rest := []) (st9 := fun p_6 => [.int p_6]) C hR hX cv_RX11_208 rfl (Nat.le_of_ble_eq_true rfl) (k7_next hl rfl (Ok.ofbnd h)) rfl rfl (Nat.le_of_ble_eq_true rfl) (Nat.le_of_ble_eq_true rfl) (Nat.le_of_ble_eq_true rfl) ⟨(Nat.le_of_ble_eq_true rfl), (Nat.le_of_ble_eq_true rfl)⟩ dX11_find_38 rfl (fun E n9 w9 hx => JT_n hx) (fun _ => rfl) (fun p_6 h => ?_)
      have h : Ok _ _ := h
      change J X K 3 False QQ 1 6 2017 (jw K p_1) 41 [(0, .ref (K.2.2 + 0)), (1, .int l1), (2, .int l2)] [.int p_6]
      refine J_goto (t := 56) C dX11_find_41 (by decide) ?_
      refine J.sub [] rfl ?_
      exact hj_56 p_1 p_6 h
  · have h := h.pos (Decidable.not_not.mp c_3)
    rw [← hQQ]
    exact J_throw (is := 203) (text := "there is no pattern") C hnt th_92 (by decide +kernel) dX11_find_15 dX11_find_18 dX11_find_19 dX11_find_21 dX11_find_24 (by rw [hR]; exact (Nat.le_of_ble_eq_true rfl)) (by rw [hR]; exact (Nat.le_of_ble_eq_true rfl)) (by rw [hR]; exact (Nat.le_of_ble_eq_true rfl)) (by rw [hR]; exact (Nat.le_of_ble_eq_true rfl)) (Nat.le_of_ble_eq_true rfl) (Nat.le_of_ble_eq_true rfl) ⟨3, p_1, h.osome, rfl, rfl, rfl⟩
def f8_hasCursorInLines_j36 (a0 : Nat) (l1 : Int32) (l2 : Int32) (σ : Sto) (l3_36 : Int32) : Option (Int32 ⊕ (Unit ⊕ Unit)) :=
  stp (l3_36 + (1 : Int32)) fun x3_1 =>
  some (.inl x3_1)
def f8_hasCursorInLines_b2 (a0 : Nat) (l1 : Int32) (l2 : Int32) (σ : Sto) (l3_2 : Int32) : Option (Int32 ⊕ (Unit ⊕ Unit)) :=
  if (fI σ a0 6) ≤ l3_2 then
    some (.inr (Sum.inl ()))
  else
    gd (inb l3_2 8) <|
    bnd (f8_lineWith σ a0 (aI σ (a0 + 4) (Int32.toNatClampNeg l3_2))) fun p_3 =>
    stp p_3 fun x4_2 =>
    if x4_2 < l1 then
      f8_hasCursorInLines_j36 a0 l1 l2 σ l3_2
    else
      if l2 < x4_2 then
        f8_hasCursorInLines_j36 a0 l1 l2 σ l3_2
      else
        some (.inr (Sum.inr ()))
def f8_hasCursorInLines_j2 (a0 : Nat) (l1 : Int32) (l2 : Int32) (σ : Sto) (l3_2 : Int32) : Option (Int32) :=
  bnd (loopF (fun s_2 => f8_hasCursorInLines_b2 a0 l1 l2 σ s_2) FU l3_2) fun r_2 =>
    match r_2 with
    | .inl r_2x =>
      some (0 : Int32)
    | .inr r_2y =>
      some (1 : Int32)
def f8_hasCursorInLines (σ : Sto) (a0 : Nat) (l1 : Int32) (l2 : Int32) : Option (Int32) :=
  stp (0 : Int32) fun x3_3 =>
  f8_hasCursorInLines_j2 a0 l1 l2 σ x3_3
set_option maxHeartbeats 4000000 in
set_option maxRecDepth 100000 in
theorem k8_hasCursorInLines {l : Launch} {K : JK} (hl : l.stackTraces = false) {σ : Sto} {a0 : Nat} {l1 : Int32} {l2 : Int32} (h_a0 : kc a0 = 8) {Qf : Int32 → Prop} (h : Ok (f8_hasCursorInLines σ a0 l1 l2) Qf) : Con l K yX8_hasCursorInLines (.code yX8_hasCursorInLines cX8_hasCursorInLines 5 (some .boolean) :: TB) 1 0 0 False [.ref (K.2.2 + a0), .int l1, .int l2] 2017 (jw K σ) (PR Qf (fun p => some (.int p)) (fun p => jw K σ)) PN := by
  refine Con.enter (own := RX8) hl (by decide) rfl (Nat.le_of_ble_eq_true rfl) ?_
  intro X hX hR C hret hnt
  generalize hQQ : jQ X K 0 0 (PR Qf (fun p => some (.int p)) (fun p => jw K σ)) PN False = QQ
  change J X K 5 False QQ 0 0 2017 (jw K σ) 0 [(0, .ref (K.2.2 + a0)), (1, .int l1), (2, .int l2)] []
  have hj_2 : (∀ (l3_2 : Int32), Ok (f8_hasCursorInLines_j2 a0 l1 l2 σ l3_2) Qf → J X K 5 False QQ 0 0 2017 (jw K σ) 2 [(0, .ref (K.2.2 + a0)), (1, .int l1), (2, .int l2), (3, .int l3_2)] []) := by
    intro l3_2 h
    unfold f8_hasCursorInLines_j2 at h
    refine loop_gen (S := Int32) (P := fun s_2 => J X K 5 False QQ 0 0 2017 (jw K σ) 2 [(0, .ref (K.2.2 + a0)), (1, .int l1), (2, .int l2), (3, .int s_2)] []) ?_ FU l3_2 (Ok.ofbnd h)
    intro B_2 hB_2 hE_2 s_2 h
    generalize s_2 = l3_2 at h ⊢
    have h : Ok (f8_hasCursorInLines_b2 a0 l1 l2 σ l3_2) B_2 := h
    change J X K 5 False QQ 0 0 2017 (jw K σ) 2 [(0, .ref (K.2.2 + a0)), (1, .int l1), (2, .int l2), (3, .int l3_2)] []
    have hj_36 : (∀ (l3_36 : Int32), Ok (f8_hasCursorInLines_j36 a0 l1 l2 σ l3_36) B_2 → J X K 5 False QQ 0 0 2017 (jw K σ) 36 [(0, .ref (K.2.2 + a0)), (1, .int l1), (2, .int l2), (3, .int l3_36)] []) := by
      intro l3_36 h
      unfold f8_hasCursorInLines_j36 at h
      obtain ⟨x3_1, e_x3_1, h⟩ := Ok.nm h
      refine J_iincE (i := 3) (p := 3) (lv' := [(3, .int x3_1), (0, .ref (K.2.2 + a0)), (1, .int l1), (2, .int l2)]) C e_x3_1 dX8_hasCursorInLines_36 rfl (by decide) (Nat.le_of_ble_eq_true rfl) rfl rfl ?_
      refine J_goto (t := 2) C dX8_hasCursorInLines_39 (by decide) ?_
      refine J.sub [1, 2, 3, 0] rfl ?_
      exact hB_2 x3_1 h.osome
    unfold f8_hasCursorInLines_b2 at h
    refine J_iload_n (i := 3) (p := 3) C dX8_hasCursorInLines_2 rfl rfl rfl ?_
    refine J_aload_n (i := 0) (p := 0) C dX8_hasCursorInLines_3 rfl rfl rfl ?_
    refine Jc_getI C fp_RX8_33 h_a0 rfl dX8_hasCursorInLines_4 rfl ?_
    refine J_icmp_ge (t := 42) C dX8_hasCursorInLines_7 (by decide) rfl (fun c_1 => ?_) (fun c_1 => ?_)
    · have h := h.pos c_1
      have h := hE_2 (Sum.inl ()) h.osome
      try dsimp only at h
      refine J_iconst (v := 0) C (by decide) dX8_hasCursorInLines_42 rfl ?_
      rw [← hQQ]
      exact J_zret C hret rfl (Nat.le_of_ble_eq_true rfl) (Nat.le_of_ble_eq_true rfl) ⟨_, h.osome, rfl, rfl, rfl⟩ dX8_hasCursorInLines_43
    · have h := h.neg c_1
      refine J_aload_n (i := 0) (p := 0) C dX8_hasCursorInLines_10 rfl rfl rfl ?_
      refine J_aload_n (i := 0) (p := 0) C dX8_hasCursorInLines_11 rfl rfl rfl ?_
      refine Jc_getS (o2 := 4) (r2 := a0 + 4) C fp_RX8_30 rfl h_a0 rfl dX8_hasCursorInLines_12 rfl ?_
      refine J_iload_n (i := 3) (p := 3) C dX8_hasCursorInLines_15 rfl rfl rfl ?_
      obtain ⟨g_2, h⟩ := Ok.ofgd h
      refine Jc_iald C (ks_8_5 h_a0) (ls_8_5 h_a0) g_2 dX8_hasCursorInLines_16 rfl ?_
      refine Jc_cV (rest := []) (st9 := fun p_3 => [.int p_3]) C hR hX cv_RX8_48 h_a0 (Nat.le_of_ble_eq_true rfl) (k8_lineWith hl h_a0 (Ok.ofbnd h)) rfl rfl (Nat.le_of_ble_eq_true rfl) (Nat.le_of_ble_eq_true rfl) (Nat.le_of_ble_eq_true rfl) ⟨(Nat.le_of_ble_eq_true rfl), (Nat.le_of_ble_eq_true rfl)⟩ dX8_hasCursorInLines_17 rfl (fun E n9 w9 hx => JT_n hx) (fun _ => rfl) (fun p_3 h => ?_)
      have h : Ok _ _ := h
      change J X K 5 False QQ 0 0 2017 (jw K σ) 20 [(0, .ref (K.2.2 + a0)), (1, .int l1), (2, .int l2), (3, .int l3_2)] [.int p_3]
      obtain ⟨x4_2, e_x4_2, h⟩ := Ok.nm h
      refine J_istoreE (i := 4) (lv' := [(4, .int x4_2), (0, .ref (K.2.2 + a0)), (1, .int l1), (2, .int l2), (3, .int l3_2)]) C e_x4_2 dX8_hasCursorInLines_20 (Nat.le_of_ble_eq_true rfl) rfl rfl ?_
      refine J_iload (i := 4) (p := 0) C dX8_hasCursorInLines_22 rfl rfl ?_
      refine J_iload_n (i := 1) (p := 2) C dX8_hasCursorInLines_24 rfl rfl rfl ?_
      refine J_icmp_lt (t := 36) C dX8_hasCursorInLines_25 (by decide) rfl (fun c_4 => ?_) (fun c_4 => ?_)
      · have h := h.pos c_4
        refine J.sub [1, 2, 3, 4] rfl ?_
        exact hj_36 l3_2 h
      · have h := h.neg c_4
        refine J_iload (i := 4) (p := 0) C dX8_hasCursorInLines_28 rfl rfl ?_
        refine J_iload_n (i := 2) (p := 3) C dX8_hasCursorInLines_30 rfl rfl rfl ?_
        refine J_icmp_gt (t := 36) C dX8_hasCursorInLines_31 (by decide) rfl (fun c_5 => ?_) (fun c_5 => ?_)
        · have h := h.pos c_5
          refine J.sub [1, 2, 3, 4] rfl ?_
          exact hj_36 l3_2 h
        · have h := h.neg c_5
          have h := hE_2 (Sum.inr ()) h.osome
          try dsimp only at h
          refine J_iconst (v := 1) C (by decide) dX8_hasCursorInLines_34 rfl ?_
          rw [← hQQ]
          exact J_zret C hret rfl (Nat.le_of_ble_eq_true rfl) (Nat.le_of_ble_eq_true rfl) ⟨_, h.osome, rfl, rfl, rfl⟩ dX8_hasCursorInLines_35
  unfold f8_hasCursorInLines at h
  refine J_iconst (v := 0) C (by decide) dX8_hasCursorInLines_0 rfl ?_
  obtain ⟨x3_3, e_x3_3, h⟩ := Ok.nm h
  refine J_istoreE_n (i := 3) (lv' := [(3, .int x3_3), (0, .ref (K.2.2 + a0)), (1, .int l1), (2, .int l2)]) C e_x3_3 dX8_hasCursorInLines_1 rfl (Nat.le_of_ble_eq_true rfl) rfl rfl ?_
  refine J.sub [1, 2, 3, 0] rfl ?_
  exact hj_2 x3_3 h
def f8_countHidden_j27 (a0 : Nat) (σ : Sto) (l2_27 : Int32) (s0_27 : Int32) (s1_27 : Int32) : Option ((Int32 × Int32) ⊕ Int32) :=
  stp (s0_27 + s1_27) fun x1_1 =>
  stp (l2_27 + (1 : Int32)) fun x2_2 =>
  some (.inl (x1_1, x2_2))
def f8_countHidden_b4 (a0 : Nat) (σ : Sto) (l1_4 : Int32) (l2_4 : Int32) : Option ((Int32 × Int32) ⊕ Int32) :=
  if (fI σ a0 4) ≤ l2_4 then
    some (.inr l1_4)
  else
    gd (okr (fR σ a0 3) 14) <|
    gd (inb l2_4 (ln ((fR σ a0 3) - 1))) <|
    if (aI σ ((fR σ a0 3) - 1) (Int32.toNatClampNeg l2_4)) = 0 then
      f8_countHidden_j27 a0 σ l2_4 l1_4 (0 : Int32)
    else
      f8_countHidden_j27 a0 σ l2_4 l1_4 (1 : Int32)
def f8_countHidden_j4 (a0 : Nat) (σ : Sto) (l1_4 : Int32) (l2_4 : Int32) : Option (Int32) :=
  bnd (loopF (fun s_4 => f8_countHidden_b4 a0 σ s_4.1 s_4.2) FU (l1_4, l2_4)) fun r_4 =>
    some r_4
def f8_countHidden (σ : Sto) (a0 : Nat) : Option (Int32) :=
  stp (0 : Int32) fun x1_3 =>
  stp (0 : Int32) fun x2_4 =>
  f8_countHidden_j4 a0 σ x1_3 x2_4
set_option maxHeartbeats 4000000 in
set_option maxRecDepth 100000 in
theorem k8_countHidden {l : Launch} {K : JK} (hl : l.stackTraces = false) {σ : Sto} {a0 : Nat} (h_a0 : kc a0 = 8) {Qf : Int32 → Prop} (h : Ok (f8_countHidden σ a0) Qf) : Con l K yX8_countHidden (.code yX8_countHidden cX8_countHidden 3 (some .int) :: TB) 0 0 0 False [.ref (K.2.2 + a0)] 2017 (jw K σ) (PR Qf (fun p => some (.int p)) (fun p => jw K σ)) PN := by
  refine Con.enter (own := RX8) hl (by decide) rfl (Nat.le_of_ble_eq_true rfl) ?_
  intro X hX hR C hret hnt
  generalize hQQ : jQ X K 0 0 (PR Qf (fun p => some (.int p)) (fun p => jw K σ)) PN False = QQ
  change J X K 3 False QQ 0 0 2017 (jw K σ) 0 [(0, .ref (K.2.2 + a0))] []
  have hj_4 : (∀ (l1_4 : Int32) (l2_4 : Int32), Ok (f8_countHidden_j4 a0 σ l1_4 l2_4) Qf → J X K 3 False QQ 0 0 2017 (jw K σ) 4 [(0, .ref (K.2.2 + a0)), (1, .int l1_4), (2, .int l2_4)] []) := by
    intro l1_4 l2_4 h
    unfold f8_countHidden_j4 at h
    refine loop_gen (S := Int32 × Int32) (P := fun s_4 => J X K 3 False QQ 0 0 2017 (jw K σ) 4 [(0, .ref (K.2.2 + a0)), (1, .int s_4.1), (2, .int s_4.2)] []) ?_ FU (l1_4, l2_4) (Ok.ofbnd h)
    intro B_4 hB_4 hE_4 s_4 h
    obtain ⟨l1_4, l2_4⟩ := s_4
    have h : Ok (f8_countHidden_b4 a0 σ l1_4 l2_4) B_4 := h
    change J X K 3 False QQ 0 0 2017 (jw K σ) 4 [(0, .ref (K.2.2 + a0)), (1, .int l1_4), (2, .int l2_4)] []
    have hj_27 : (∀ (l2_27 : Int32) (s0_27 : Int32) (s1_27 : Int32), Ok (f8_countHidden_j27 a0 σ l2_27 s0_27 s1_27) B_4 → J X K 3 False QQ 0 0 2017 (jw K σ) 27 [(0, .ref (K.2.2 + a0)), (2, .int l2_27)] [.int s1_27, .int s0_27]) := by
      intro l2_27 s0_27 s1_27 h
      unfold f8_countHidden_j27 at h
      refine J_iadd C dX8_countHidden_27 rfl ?_
      obtain ⟨x1_1, e_x1_1, h⟩ := Ok.nm h
      refine J_istoreE_n (i := 1) (lv' := [(1, .int x1_1), (0, .ref (K.2.2 + a0)), (2, .int l2_27)]) C e_x1_1 dX8_countHidden_28 rfl (Nat.le_of_ble_eq_true rfl) rfl rfl ?_
      obtain ⟨x2_2, e_x2_2, h⟩ := Ok.nm h
      refine J_iincE (i := 2) (p := 2) (lv' := [(2, .int x2_2), (1, .int x1_1), (0, .ref (K.2.2 + a0))]) C e_x2_2 dX8_countHidden_29 rfl (by decide) (Nat.le_of_ble_eq_true rfl) rfl rfl ?_
      refine J_goto (t := 4) C dX8_countHidden_32 (by decide) ?_
      refine J.sub [2, 1, 0] rfl ?_
      exact hB_4 (x1_1, x2_2) h.osome
    unfold f8_countHidden_b4 at h
    refine J_iload_n (i := 2) (p := 2) C dX8_countHidden_4 rfl rfl rfl ?_
    refine J_aload_n (i := 0) (p := 0) C dX8_countHidden_5 rfl rfl rfl ?_
    refine Jc_getI C fp_RX8_27 h_a0 rfl dX8_countHidden_6 rfl ?_
    refine J_icmp_ge (t := 35) C dX8_countHidden_9 (by decide) rfl (fun c_1 => ?_) (fun c_1 => ?_)
    · have h := h.pos c_1
      have h := hE_4 l1_4 h.osome
      try dsimp only at h
      refine J_iload_n (i := 1) (p := 1) C dX8_countHidden_35 rfl rfl rfl ?_
      rw [← hQQ]
      exact J_iret C hret (Nat.le_of_ble_eq_true rfl) (Nat.le_of_ble_eq_true rfl) ⟨_, h.osome, rfl, rfl, rfl⟩ dX8_countHidden_36
    · have h := h.neg c_1
      refine J_iload_n (i := 1) (p := 1) C dX8_countHidden_12 rfl rfl rfl ?_
      refine J_aload_n (i := 0) (p := 0) C dX8_countHidden_13 rfl rfl rfl ?_
      refine Jc_getD C fp_RX8_23 h_a0 rfl dX8_countHidden_14 rfl ?_
      refine J_iload_n (i := 2) (p := 2) C dX8_countHidden_17 rfl rfl rfl ?_
      obtain ⟨g_2, h⟩ := Ok.ofgd h
      rw [jv_pos (r := fR σ a0 3) (okr_spec g_2).1]
      obtain ⟨g_3, h⟩ := Ok.ofgd h
      refine Jc_zald C (okr_spec g_2).2 rfl g_3 dX8_countHidden_18 rfl ?_
      refine J_if_eq (t := 26) C dX8_countHidden_19 (by decide) rfl (fun c_4 => ?_) (fun c_4 => ?_)
      · have h := h.pos c_4
        refine J_iconst (v := 0) C (by decide) dX8_countHidden_26 rfl ?_
        refine J.sub [0, 2] rfl ?_
        exact hj_27 l2_4 l1_4 (0 : Int32) h
      · have h := h.neg c_4
        refine J_iconst (v := 1) C (by decide) dX8_countHidden_22 rfl ?_
        refine J_goto (t := 27) C dX8_countHidden_23 (by decide) ?_
        refine J.sub [0, 2] rfl ?_
        exact hj_27 l2_4 l1_4 (1 : Int32) h
  unfold f8_countHidden at h
  refine J_iconst (v := 0) C (by decide) dX8_countHidden_0 rfl ?_
  obtain ⟨x1_3, e_x1_3, h⟩ := Ok.nm h
  refine J_istoreE_n (i := 1) (lv' := [(1, .int x1_3), (0, .ref (K.2.2 + a0))]) C e_x1_3 dX8_countHidden_1 rfl (Nat.le_of_ble_eq_true rfl) rfl rfl ?_
  refine J_iconst (v := 0) C (by decide) dX8_countHidden_2 rfl ?_
  obtain ⟨x2_4, e_x2_4, h⟩ := Ok.nm h
  refine J_istoreE_n (i := 2) (lv' := [(2, .int x2_4), (1, .int x1_3), (0, .ref (K.2.2 + a0))]) C e_x2_4 dX8_countHidden_3 rfl (Nat.le_of_ble_eq_true rfl) rfl rfl ?_
  refine J.sub [2, 1, 0] rfl ?_
  exact hj_4 x1_3 x2_4 h
def f11_fold_b55 (l1 : Int32) (l2 : Int32) (σ_55 : Sto) (l3_55 : Int32) : Option ((Sto × Int32) ⊕ Sto) :=
  if l2 < l3_55 then
    some (.inr σ_55)
  else
    gd (okr (fR σ_55 1 3) 14) <|
    gd (inb l3_55 (ln ((fR σ_55 1 3) - 1))) <|
    stp (uA σ_55 ((fR σ_55 1 3) - 1) (Int32.toNatClampNeg l3_55) (vp_nar .boolean (1 : Int32))) fun σx_1 =>
    stp (l3_55 + (1 : Int32)) fun x3_2 =>
    some (.inl (σx_1, x3_2))
def f11_fold_j55 (l1 : Int32) (l2 : Int32) (σ_55 : Sto) (l3_55 : Int32) : Option ((Int32 × Sto) ⊕ (Nat × Sto)) :=
  bnd (loopF (fun s_55 => f11_fold_b55 l1 l2 s_55.1 s_55.2) FU (σ_55, l3_55)) fun r_55 =>
    bnd (f8_countHidden r_55 1) fun p_5 =>
    some (.inl (p_5, r_55))
def f11_fold (σ : Sto) (l1 : Int32) (l2 : Int32) : Option ((Int32 × Sto) ⊕ (Nat × Sto)) :=
  bndX (f11_requireLine σ l1) fun p_6 =>
  bndX (f11_requireLine p_6 l2) fun p_7 =>
  if l1 < l2 then
    bnd (f8_hasCursorInLines p_7 1 (l1 + (1 : Int32)) l2) fun p_9 =>
    if p_9 = 0 then
      stp (l1 + (1 : Int32)) fun x3_3 =>
      f11_fold_j55 l1 l2 p_7 x3_3
    else
      some (.inr (3, p_7))
  else
    some (.inr (2, p_7))
set_option maxHeartbeats 4000000 in
set_option maxRecDepth 100000 in
theorem k11_fold {l : Launch} {K : JK} (hl : l.stackTraces = false) {σ : Sto} {l1 : Int32} {l2 : Int32}  {Qf : (Int32 × Sto) ⊕ (Nat × Sto) → Prop} (h : Ok (f11_fold σ l1 l2) Qf) : Con l K yX11_fold (.code yX11_fold cX11_fold 4 (some .int) :: TB) 7 3 18 False [.ref (K.2.2 + 0), .int l1, .int l2] 2017 (jw K σ) (PR (fun p => Qf (.inl p)) (fun p => some (.int p.1)) (fun p => jw K p.2)) (PX Qf (fun s => jw K s)) := by
  refine Con.enter (own := RX11) hl (by decide) rfl (Nat.le_of_ble_eq_true rfl) ?_
  intro X hX hR C hret hnt
  generalize hQQ : jQ X K 3 18 (PR (fun p => Qf (.inl p)) (fun p => some (.int p.1)) (fun p => jw K p.2)) (PX Qf (fun s => jw K s)) False = QQ
  change J X K 4 False QQ 0 0 2017 (jw K σ) 0 [(0, .ref (K.2.2 + 0)), (1, .int l1), (2, .int l2)] []
  have hj_55 : (∀ (σ_55 : Sto) (l3_55 : Int32), Ok (f11_fold_j55 l1 l2 σ_55 l3_55) Qf → J X K 4 False QQ 2 12 2017 (jw K σ_55) 55 [(0, .ref (K.2.2 + 0)), (2, .int l2), (3, .int l3_55)] []) := by
    intro σ_55 l3_55 h
    unfold f11_fold_j55 at h
    refine loop_gen (S := Sto × Int32) (P := fun s_55 => J X K 4 False QQ 2 12 2017 (jw K s_55.1) 55 [(0, .ref (K.2.2 + 0)), (2, .int l2), (3, .int s_55.2)] []) ?_ FU (σ_55, l3_55) (Ok.ofbnd h)
    intro B_55 hB_55 hE_55 s_55 h
    obtain ⟨σ_55, l3_55⟩ := s_55
    have h : Ok (f11_fold_b55 l1 l2 σ_55 l3_55) B_55 := h
    change J X K 4 False QQ 2 12 2017 (jw K σ_55) 55 [(0, .ref (K.2.2 + 0)), (2, .int l2), (3, .int l3_55)] []
    unfold f11_fold_b55 at h
    refine J_iload_n (i := 3) (p := 2) C dX11_fold_55 rfl rfl rfl ?_
    refine J_iload_n (i := 2) (p := 1) C dX11_fold_56 rfl rfl rfl ?_
    refine J_icmp_gt (t := 76) C dX11_fold_57 (by decide) rfl (fun c_1 => ?_) (fun c_1 => ?_)
    · have h := h.pos c_1
      have h := hE_55 σ_55 h.osome
      try dsimp only at h
      refine J_aload_n (i := 0) (p := 0) C dX11_fold_76 rfl rfl rfl ?_
      refine Jc_getS (o2 := 1) (r2 := 1) C fp_RX11_10 rfl rfl rfl dX11_fold_77 rfl ?_
      refine Jc_cV (rest := []) (st9 := fun p_2 => [.int p_2]) C hR hX cv_RX11_327 rfl (Nat.le_of_ble_eq_true rfl) (k8_countHidden hl rfl (Ok.ofbnd h)) rfl rfl (Nat.le_of_ble_eq_true rfl) (Nat.le_of_ble_eq_true rfl) (Nat.le_of_ble_eq_true rfl) ⟨(Nat.le_of_ble_eq_true rfl), (Nat.le_of_ble_eq_true rfl)⟩ dX11_fold_80 rfl (fun E n9 w9 hx => JT_n hx) (fun _ => rfl) (fun p_2 h => ?_)
      have h : Ok _ _ := h
      change J X K 4 False QQ 2 12 2017 (jw K σ_55) 83 [(0, .ref (K.2.2 + 0)), (2, .int l2), (3, .int l3_55)] [.int p_2]
      rw [← hQQ]
      exact J_iret C hret (Nat.le_of_ble_eq_true rfl) (Nat.le_of_ble_eq_true rfl) ⟨_, h.osome, rfl, rfl, rfl⟩ dX11_fold_83
    · have h := h.neg c_1
      refine J_aload_n (i := 0) (p := 0) C dX11_fold_60 rfl rfl rfl ?_
      refine Jc_getS (o2 := 1) (r2 := 1) C fp_RX11_10 rfl rfl rfl dX11_fold_61 rfl ?_
      refine Jc_getD C fp_RX11_324 rfl rfl dX11_fold_64 rfl ?_
      refine J_iload_n (i := 3) (p := 2) C dX11_fold_67 rfl rfl rfl ?_
      refine J_iconst (v := 1) C (by decide) dX11_fold_68 rfl ?_
      obtain ⟨g_3, h⟩ := Ok.ofgd h
      rw [jv_pos (r := fR σ_55 1 3) (okr_spec g_3).1]
      obtain ⟨g_4, h⟩ := Ok.ofgd h
      obtain ⟨σx_1, e_σx_1, h⟩ := Ok.nm h
      refine Jc_zast C id (okr_spec g_3).2 rfl g_4 e_σx_1 dX11_fold_69 rfl ?_
      obtain ⟨x3_2, e_x3_2, h⟩ := Ok.nm h
      refine J_iincE (i := 3) (p := 2) (lv' := [(3, .int x3_2), (0, .ref (K.2.2 + 0)), (2, .int l2)]) C e_x3_2 dX11_fold_70 rfl (by decide) (Nat.le_of_ble_eq_true rfl) rfl rfl ?_
      refine J_goto (t := 55) C dX11_fold_73 (by decide) ?_
      refine J.sub [1, 2, 0] rfl ?_
      exact hB_55 (σx_1, x3_2) h.osome
  unfold f11_fold at h
  refine J_aload_n (i := 0) (p := 0) C dX11_fold_0 rfl rfl rfl ?_
  refine J_iload_n (i := 1) (p := 1) C dX11_fold_1 rfl rfl rfl ?_
  refine Jc_cV (rest := []) (st9 := fun p_6 => []) C hR hX cv_RX11_112 rfl (Nat.le_of_ble_eq_true rfl) (k11_requireLine hl  (Ok.ofbndX h)) rfl rfl (Nat.le_of_ble_eq_true rfl) (Nat.le_of_ble_eq_true rfl) (Nat.le_of_ble_eq_true rfl) ⟨(Nat.le_of_ble_eq_true rfl), (Nat.le_of_ble_eq_true rfl)⟩ dX11_fold_2 rfl (fun E n9 w9 hx => by rw [← hQQ]; exact JT_x C hnt (Nat.le_of_ble_eq_true rfl) (Nat.le_of_ble_eq_true rfl) (fun c h => h) E n9 w9 hx) (fun _ => rfl) (fun p_6 h => ?_)
  have h : Ok _ _ := h
  change J X K 4 False QQ 1 6 2017 (jw K p_6) 5 [(0, .ref (K.2.2 + 0)), (1, .int l1), (2, .int l2)] []
  refine J_aload_n (i := 0) (p := 0) C dX11_fold_5 rfl rfl rfl ?_
  refine J_iload_n (i := 2) (p := 2) C dX11_fold_6 rfl rfl rfl ?_
  refine Jc_cV (rest := []) (st9 := fun p_7 => []) C hR hX cv_RX11_112 rfl (Nat.le_of_ble_eq_true rfl) (k11_requireLine hl  (Ok.ofbndX h)) rfl rfl (Nat.le_of_ble_eq_true rfl) (Nat.le_of_ble_eq_true rfl) (Nat.le_of_ble_eq_true rfl) ⟨(Nat.le_of_ble_eq_true rfl), (Nat.le_of_ble_eq_true rfl)⟩ dX11_fold_7 rfl (fun E n9 w9 hx => by rw [← hQQ]; exact JT_x C hnt (Nat.le_of_ble_eq_true rfl) (Nat.le_of_ble_eq_true rfl) (fun c h => h) E n9 w9 hx) (fun _ => rfl) (fun p_7 h => ?_)
  have h : Ok _ _ := h
  change J X K 4 False QQ 2 12 2017 (jw K p_7) 10 [(0, .ref (K.2.2 + 0)), (1, .int l1), (2, .int l2)] []
  refine J_iload_n (i := 1) (p := 1) C dX11_fold_10 rfl rfl rfl ?_
  refine J_iload_n (i := 2) (p := 2) C dX11_fold_11 rfl rfl rfl ?_
  refine J_icmp_lt (t := 26) C dX11_fold_12 (by decide) rfl (fun c_8 => ?_) (fun c_8 => ?_)
  · have h := h.pos c_8
    refine J_aload_n (i := 0) (p := 0) C dX11_fold_26 rfl rfl rfl ?_
    refine Jc_getS (o2 := 1) (r2 := 1) C fp_RX11_10 rfl rfl rfl dX11_fold_27 rfl ?_
    refine J_iload_n (i := 1) (p := 1) C dX11_fold_30 rfl rfl rfl ?_
    refine J_iconst (v := 1) C (by decide) dX11_fold_31 rfl ?_
    refine J_iadd C dX11_fold_32 rfl ?_
    refine J_iload_n (i := 2) (p := 2) C dX11_fold_33 rfl rfl rfl ?_
    refine Jc_cV (rest := []) (st9 := fun p_9 => [.int p_9]) C hR hX cv_RX11_318 rfl (Nat.le_of_ble_eq_true rfl) (k8_hasCursorInLines hl rfl (Ok.ofbnd h)) rfl rfl (Nat.le_of_ble_eq_true rfl) (Nat.le_of_ble_eq_true rfl) (Nat.le_of_ble_eq_true rfl) ⟨(Nat.le_of_ble_eq_true rfl), (Nat.le_of_ble_eq_true rfl)⟩ dX11_fold_34 rfl (fun E n9 w9 hx => JT_n hx) (fun _ => rfl) (fun p_9 h => ?_)
    have h : Ok _ _ := h
    change J X K 4 False QQ 2 12 2017 (jw K p_7) 37 [(0, .ref (K.2.2 + 0)), (1, .int l1), (2, .int l2)] [.int p_9]
    refine J_if_eq (t := 51) C dX11_fold_37 (by decide) rfl (fun c_10 => ?_) (fun c_10 => ?_)
    · have h := h.pos c_10
      refine J_iload_n (i := 1) (p := 1) C dX11_fold_51 rfl rfl rfl ?_
      refine J_iconst (v := 1) C (by decide) dX11_fold_52 rfl ?_
      refine J_iadd C dX11_fold_53 rfl ?_
      obtain ⟨x3_3, e_x3_3, h⟩ := Ok.nm h
      refine J_istoreE_n (i := 3) (lv' := [(3, .int x3_3), (0, .ref (K.2.2 + 0)), (1, .int l1), (2, .int l2)]) C e_x3_3 dX11_fold_54 rfl (Nat.le_of_ble_eq_true rfl) rfl rfl ?_
      refine J.sub [1, 3, 0] rfl ?_
      exact hj_55 p_7 x3_3 h
    · have h := h.neg c_10
      rw [← hQQ]
      exact J_throwW (is := 322) (text := "a cursor is in one of the lines") C hnt th_92 (by decide +kernel) dX11_fold_40 dX11_fold_43 dX11_fold_44 dX11_fold_47 dX11_fold_50 (by rw [hR]; exact (Nat.le_of_ble_eq_true rfl)) (by rw [hR]; exact (Nat.le_of_ble_eq_true rfl)) (by rw [hR]; exact (Nat.le_of_ble_eq_true rfl)) (by rw [hR]; exact (Nat.le_of_ble_eq_true rfl)) (Nat.le_of_ble_eq_true rfl) (Nat.le_of_ble_eq_true rfl) ⟨3, p_7, h.osome, rfl, rfl, rfl⟩
  · have h := h.neg c_8
    rw [← hQQ]
    exact J_throwW (is := 316) (text := "from is not less than to") C hnt th_82 (by decide +kernel) dX11_fold_15 dX11_fold_18 dX11_fold_19 dX11_fold_22 dX11_fold_25 (by rw [hR]; exact (Nat.le_of_ble_eq_true rfl)) (by rw [hR]; exact (Nat.le_of_ble_eq_true rfl)) (by rw [hR]; exact (Nat.le_of_ble_eq_true rfl)) (by rw [hR]; exact (Nat.le_of_ble_eq_true rfl)) (Nat.le_of_ble_eq_true rfl) (Nat.le_of_ble_eq_true rfl) ⟨2, p_7, h.osome, rfl, rfl, rfl⟩
def f11_unfold (σ : Sto) (l1 : Int32) : Option ((Int32 × Sto) ⊕ (Nat × Sto)) :=
  bndX (f11_requireLine σ l1) fun p_1 =>
  gd (okr (fR p_1 1 3) 14) <|
  bnd (f11_openFold p_1 ((fR p_1 1 3) - 1) (fI p_1 1 4) l1) fun p_3 =>
  some (.inl (p_3.1, p_3.2))
set_option maxHeartbeats 4000000 in
set_option maxRecDepth 100000 in
theorem k11_unfold {l : Launch} {K : JK} (hl : l.stackTraces = false) {σ : Sto} {l1 : Int32}  {Qf : (Int32 × Sto) ⊕ (Nat × Sto) → Prop} (h : Ok (f11_unfold σ l1) Qf) : Con l K yX11_unfold (.code yX11_unfold cX11_unfold 2 (some .int) :: TB) 7 1 6 False [.ref (K.2.2 + 0), .int l1] 2017 (jw K σ) (PR (fun p => Qf (.inl p)) (fun p => some (.int p.1)) (fun p => jw K p.2)) (PX Qf (fun s => jw K s)) := by
  refine Con.enter (own := RX11) hl (by decide) rfl (Nat.le_of_ble_eq_true rfl) ?_
  intro X hX hR C hret hnt
  generalize hQQ : jQ X K 1 6 (PR (fun p => Qf (.inl p)) (fun p => some (.int p.1)) (fun p => jw K p.2)) (PX Qf (fun s => jw K s)) False = QQ
  change J X K 2 False QQ 0 0 2017 (jw K σ) 0 [(0, .ref (K.2.2 + 0)), (1, .int l1)] []
  unfold f11_unfold at h
  refine J_aload_n (i := 0) (p := 0) C dX11_unfold_0 rfl rfl rfl ?_
  refine J_iload_n (i := 1) (p := 1) C dX11_unfold_1 rfl rfl rfl ?_
  refine Jc_cV (rest := []) (st9 := fun p_1 => []) C hR hX cv_RX11_112 rfl (Nat.le_of_ble_eq_true rfl) (k11_requireLine hl  (Ok.ofbndX h)) rfl rfl (Nat.le_of_ble_eq_true rfl) (Nat.le_of_ble_eq_true rfl) (Nat.le_of_ble_eq_true rfl) ⟨(Nat.le_of_ble_eq_true rfl), (Nat.le_of_ble_eq_true rfl)⟩ dX11_unfold_2 rfl (fun E n9 w9 hx => by rw [← hQQ]; exact JT_x C hnt (Nat.le_of_ble_eq_true rfl) (Nat.le_of_ble_eq_true rfl) (fun c h => h) E n9 w9 hx) (fun _ => rfl) (fun p_1 h => ?_)
  have h : Ok _ _ := h
  change J X K 2 False QQ 1 6 2017 (jw K p_1) 5 [(0, .ref (K.2.2 + 0)), (1, .int l1)] []
  refine J_aload_n (i := 0) (p := 0) C dX11_unfold_5 rfl rfl rfl ?_
  refine Jc_getS (o2 := 1) (r2 := 1) C fp_RX11_10 rfl rfl rfl dX11_unfold_6 rfl ?_
  refine Jc_getD C fp_RX11_324 rfl rfl dX11_unfold_9 rfl ?_
  refine J_aload_n (i := 0) (p := 0) C dX11_unfold_12 rfl rfl rfl ?_
  refine Jc_getS (o2 := 1) (r2 := 1) C fp_RX11_10 rfl rfl rfl dX11_unfold_13 rfl ?_
  refine Jc_getI C fp_RX11_116 rfl rfl dX11_unfold_16 rfl ?_
  refine J_iload_n (i := 1) (p := 1) C dX11_unfold_19 rfl rfl rfl ?_
  obtain ⟨g_2, h⟩ := Ok.ofgd h
  rw [jv_pos (r := fR p_1 1 3) (okr_spec g_2).1]
  refine J_cS (rest := []) (st9 := fun p_3 => [.int p_3.1]) C hR hX cs_RX11_330 (k11_openFold hl (okr_spec g_2).2 (Ok.ofbnd h)) rfl rfl (Nat.le_of_ble_eq_true rfl) (Nat.le_of_ble_eq_true rfl) (Nat.le_of_ble_eq_true rfl) ⟨(Nat.le_of_ble_eq_true rfl), (Nat.le_of_ble_eq_true rfl)⟩ dX11_unfold_20 rfl (fun E n9 w9 hx => JT_n hx) (fun _ => rfl) (fun p_3 h => ?_)
  have h : Ok _ _ := h
  change J X K 2 False QQ 1 6 2017 (jw K p_3.2) 23 [(0, .ref (K.2.2 + 0)), (1, .int l1)] [.int p_3.1]
  rw [← hQQ]
  exact J_iret C hret (Nat.le_of_ble_eq_true rfl) (Nat.le_of_ble_eq_true rfl) ⟨_, h.osome, rfl, rfl, rfl⟩ dX11_unfold_23
def f11_isHidden (σ : Sto) (l1 : Int32) : Option ((Int32 × Sto) ⊕ (Nat × Sto)) :=
  bndX (f11_requireLine σ l1) fun p_1 =>
  gd (okr (fR p_1 1 3) 14) <|
  gd (inb l1 (ln ((fR p_1 1 3) - 1))) <|
  gd (isB (aI p_1 ((fR p_1 1 3) - 1) (Int32.toNatClampNeg l1))) <|
  some (.inl (aI p_1 ((fR p_1 1 3) - 1) (Int32.toNatClampNeg l1), p_1))
set_option maxHeartbeats 4000000 in
set_option maxRecDepth 100000 in
theorem k11_isHidden {l : Launch} {K : JK} (hl : l.stackTraces = false) {σ : Sto} {l1 : Int32}  {Qf : (Int32 × Sto) ⊕ (Nat × Sto) → Prop} (h : Ok (f11_isHidden σ l1) Qf) : Con l K yX11_isHidden (.code yX11_isHidden cX11_isHidden 2 (some .boolean) :: TB) 7 1 6 False [.ref (K.2.2 + 0), .int l1] 2017 (jw K σ) (PR (fun p => Qf (.inl p)) (fun p => some (.int p.1)) (fun p => jw K p.2)) (PX Qf (fun s => jw K s)) := by
  refine Con.enter (own := RX11) hl (by decide) rfl (Nat.le_of_ble_eq_true rfl) ?_
  intro X hX hR C hret hnt
  generalize hQQ : jQ X K 1 6 (PR (fun p => Qf (.inl p)) (fun p => some (.int p.1)) (fun p => jw K p.2)) (PX Qf (fun s => jw K s)) False = QQ
  change J X K 2 False QQ 0 0 2017 (jw K σ) 0 [(0, .ref (K.2.2 + 0)), (1, .int l1)] []
  unfold f11_isHidden at h
  refine J_aload_n (i := 0) (p := 0) C dX11_isHidden_0 rfl rfl rfl ?_
  refine J_iload_n (i := 1) (p := 1) C dX11_isHidden_1 rfl rfl rfl ?_
  refine Jc_cV (rest := []) (st9 := fun p_1 => []) C hR hX cv_RX11_112 rfl (Nat.le_of_ble_eq_true rfl) (k11_requireLine hl  (Ok.ofbndX h)) rfl rfl (Nat.le_of_ble_eq_true rfl) (Nat.le_of_ble_eq_true rfl) (Nat.le_of_ble_eq_true rfl) ⟨(Nat.le_of_ble_eq_true rfl), (Nat.le_of_ble_eq_true rfl)⟩ dX11_isHidden_2 rfl (fun E n9 w9 hx => by rw [← hQQ]; exact JT_x C hnt (Nat.le_of_ble_eq_true rfl) (Nat.le_of_ble_eq_true rfl) (fun c h => h) E n9 w9 hx) (fun _ => rfl) (fun p_1 h => ?_)
  have h : Ok _ _ := h
  change J X K 2 False QQ 1 6 2017 (jw K p_1) 5 [(0, .ref (K.2.2 + 0)), (1, .int l1)] []
  refine J_aload_n (i := 0) (p := 0) C dX11_isHidden_5 rfl rfl rfl ?_
  refine Jc_getS (o2 := 1) (r2 := 1) C fp_RX11_10 rfl rfl rfl dX11_isHidden_6 rfl ?_
  refine Jc_getD C fp_RX11_324 rfl rfl dX11_isHidden_9 rfl ?_
  refine J_iload_n (i := 1) (p := 1) C dX11_isHidden_12 rfl rfl rfl ?_
  obtain ⟨g_2, h⟩ := Ok.ofgd h
  rw [jv_pos (r := fR p_1 1 3) (okr_spec g_2).1]
  obtain ⟨g_3, h⟩ := Ok.ofgd h
  refine Jc_zald C (okr_spec g_2).2 rfl g_3 dX11_isHidden_13 rfl ?_
  obtain ⟨g_4, h⟩ := Ok.ofgd h
  rw [← hQQ]
  exact J_zret C hret (narB g_4).1 (Nat.le_of_ble_eq_true rfl) (Nat.le_of_ble_eq_true rfl) ⟨_, h.osome, rfl, rfl, rfl⟩ dX11_isHidden_14
def f11_record_j20 (l1 : Int32) (σ_20 : Sto) (l2_20 : Int32) : Option (Int32 × Sto) :=
  gd (isB l1) <|
  stp (uI σ_20 1992 5 l1) fun σx_1 =>
  some (l2_20, σx_1)
def f11_record (σ : Sto) (l1 : Int32) : Option (Int32 × Sto) :=
  stp (fI σ 1992 4) fun x2_2 =>
  if l1 = 0 then
    f11_record_j20 l1 σ x2_2
  else
    stp (uI σ 1992 4 (0 : Int32)) fun σx_3 =>
    f11_record_j20 l1 σx_3 x2_2
set_option maxHeartbeats 4000000 in
set_option maxRecDepth 100000 in
theorem k11_record {l : Launch} {K : JK} (hl : l.stackTraces = false) {σ : Sto} {l1 : Int32}  {Qf : Int32 × Sto → Prop} (h : Ok (f11_record σ l1) Qf) : Con l K yX11_record (.code yX11_record cX11_record 3 (some .int) :: TB) 0 0 0 False [.ref (K.2.2 + 0), .int l1] 2017 (jw K σ) (PR Qf (fun p => some (.int p.1)) (fun p => jw K p.2)) PN := by
  refine Con.enter (own := RX11) hl (by decide) rfl (Nat.le_of_ble_eq_true rfl) ?_
  intro X hX hR C hret hnt
  generalize hQQ : jQ X K 0 0 (PR Qf (fun p => some (.int p.1)) (fun p => jw K p.2)) PN False = QQ
  change J X K 3 False QQ 0 0 2017 (jw K σ) 0 [(0, .ref (K.2.2 + 0)), (1, .int l1)] []
  have hj_20 : (∀ (σ_20 : Sto) (l2_20 : Int32), Ok (f11_record_j20 l1 σ_20 l2_20) Qf → J X K 3 False QQ 0 0 2017 (jw K σ_20) 20 [(0, .ref (K.2.2 + 0)), (1, .int l1), (2, .int l2_20)] []) := by
    intro σ_20 l2_20 h
    unfold f11_record_j20 at h
    refine J_aload_n (i := 0) (p := 0) C dX11_record_20 rfl rfl rfl ?_
    refine Jc_getS (o2 := 1992) (r2 := 1992) C fp_RX11_56 rfl rfl rfl dX11_record_21 rfl ?_
    refine J_iload_n (i := 1) (p := 1) C dX11_record_24 rfl rfl rfl ?_
    obtain ⟨g_1, h⟩ := Ok.ofgd h
    obtain ⟨σx_1, e_σx_1, h⟩ := Ok.nm h
    refine Jc_putZ C id fp_RX11_345 fw_9_5 rfl g_1 rfl rfl e_σx_1 dX11_record_25 rfl ?_
    refine J_iload_n (i := 2) (p := 2) C dX11_record_28 rfl rfl rfl ?_
    rw [← hQQ]
    exact J_iret C hret (Nat.le_of_ble_eq_true rfl) (Nat.le_of_ble_eq_true rfl) ⟨_, h.osome, rfl, rfl, rfl⟩ dX11_record_29
  unfold f11_record at h
  refine J_aload_n (i := 0) (p := 0) C dX11_record_0 rfl rfl rfl ?_
  refine Jc_getS (o2 := 1992) (r2 := 1992) C fp_RX11_56 rfl rfl rfl dX11_record_1 rfl ?_
  refine Jc_getI C fp_RX11_344 rfl rfl dX11_record_4 rfl ?_
  obtain ⟨x2_2, e_x2_2, h⟩ := Ok.nm h
  refine J_istoreE_n (i := 2) (lv' := [(2, .int x2_2), (0, .ref (K.2.2 + 0)), (1, .int l1)]) C e_x2_2 dX11_record_7 rfl (Nat.le_of_ble_eq_true rfl) rfl rfl ?_
  refine J_iload_n (i := 1) (p := 2) C dX11_record_8 rfl rfl rfl ?_
  refine J_if_eq (t := 20) C dX11_record_9 (by decide) rfl (fun c_2 => ?_) (fun c_2 => ?_)
  · have h := h.pos c_2
    refine J.sub [1, 2, 0] rfl ?_
    exact hj_20 σ x2_2 h
  · have h := h.neg c_2
    refine J_aload_n (i := 0) (p := 1) C dX11_record_12 rfl rfl rfl ?_
    refine Jc_getS (o2 := 1992) (r2 := 1992) C fp_RX11_56 rfl rfl rfl dX11_record_13 rfl ?_
    refine J_iconst (v := 0) C (by decide) dX11_record_16 rfl ?_
    obtain ⟨σx_3, e_σx_3, h⟩ := Ok.nm h
    refine Jc_putI C id fp_RX11_344 fw_9_4 rfl rfl rfl e_σx_3 dX11_record_17 rfl ?_
    refine J.sub [1, 2, 0] rfl ?_
    exact hj_20 σx_3 x2_2 h
def f11_playStep (σ : Sto) (l1 : Int32) : Option (Int32 × Sto) :=
  gd (inb l1 40) <|
  stp (aI σ 1995 (Int32.toNatClampNeg l1)) fun x2_1 =>
  gd (inb l1 40) <|
  if Int32.toInt (aI σ 1993 (Int32.toNatClampNeg l1)) = 0 then
    bnd (f11_planAtCursors σ 1996 (l1 * (200 : Int32)) x2_1) fun p_4 =>
    bnd (f11_perform p_4) fun p_5 =>
    gd (isB p_5.1) <|
    some (p_5.1, p_5.2)
  else if Int32.toInt (aI σ 1993 (Int32.toNatClampNeg l1)) = 1 then
    bnd (f11_planErasing σ x2_1) fun p_8 =>
    bnd (f11_perform p_8) fun p_9 =>
    gd (isB p_9.1) <|
    some (p_9.1, p_9.2)
  else if Int32.toInt (aI σ 1993 (Int32.toNatClampNeg l1)) = 2 then
    gd (inb l1 40) <|
    bnd (f11_moveAll σ (aI σ 1994 (Int32.toNatClampNeg l1)) x2_1) fun p_13 =>
    some ((1 : Int32), p_13)
  else if Int32.toInt (aI σ 1993 (Int32.toNatClampNeg l1)) = 3 then
    bnd (f11_planPasting σ) fun p_15 =>
    bnd (f11_perform p_15) fun p_16 =>
    gd (isB p_16.1) <|
    some (p_16.1, p_16.2)
  else
    gd (inb l1 40) <|
    bnd (f11_moveAll σ (aI σ 1994 (Int32.toNatClampNeg l1)) x2_1) fun p_19 =>
    some ((1 : Int32), p_19)
set_option maxHeartbeats 4000000 in
set_option maxRecDepth 100000 in
theorem k11_playStep {l : Launch} {K : JK} (hl : l.stackTraces = false) {σ : Sto} {l1 : Int32}  {Qf : Int32 × Sto → Prop} (h : Ok (f11_playStep σ l1) Qf) : Con l K yX11_playStep (.code yX11_playStep cX11_playStep 3 (some .boolean) :: TB) 5 0 0 False [.ref (K.2.2 + 0), .int l1] 2017 (jw K σ) (PR Qf (fun p => some (.int p.1)) (fun p => jw K p.2)) PN := by
  refine Con.enter (own := RX11) hl (by decide) rfl (Nat.le_of_ble_eq_true rfl) ?_
  intro X hX hR C hret hnt
  generalize hQQ : jQ X K 0 0 (PR Qf (fun p => some (.int p.1)) (fun p => jw K p.2)) PN False = QQ
  change J X K 3 False QQ 0 0 2017 (jw K σ) 0 [(0, .ref (K.2.2 + 0)), (1, .int l1)] []
  unfold f11_playStep at h
  refine J_aload_n (i := 0) (p := 0) C dX11_playStep_0 rfl rfl rfl ?_
  refine Jc_getS (o2 := 1992) (r2 := 1992) C fp_RX11_56 rfl rfl rfl dX11_playStep_1 rfl ?_
  refine Jc_getS (o2 := 3) (r2 := 1995) C fp_RX11_444 rfl rfl rfl dX11_playStep_4 rfl ?_
  refine J_iload_n (i := 1) (p := 1) C dX11_playStep_7 rfl rfl rfl ?_
  obtain ⟨g_1, h⟩ := Ok.ofgd h
  refine Jc_iald C rfl rfl g_1 dX11_playStep_8 rfl ?_
  obtain ⟨x2_1, e_x2_1, h⟩ := Ok.nm h
  refine J_istoreE_n (i := 2) (lv' := [(2, .int x2_1), (0, .ref (K.2.2 + 0)), (1, .int l1)]) C e_x2_1 dX11_playStep_9 rfl (Nat.le_of_ble_eq_true rfl) rfl rfl ?_
  refine J_aload_n (i := 0) (p := 1) C dX11_playStep_10 rfl rfl rfl ?_
  refine Jc_getS (o2 := 1992) (r2 := 1992) C fp_RX11_56 rfl rfl rfl dX11_playStep_11 rfl ?_
  refine Jc_getS (o2 := 1) (r2 := 1993) C fp_RX11_447 rfl rfl rfl dX11_playStep_14 rfl ?_
  refine J_iload_n (i := 1) (p := 2) C dX11_playStep_17 rfl rfl rfl ?_
  obtain ⟨g_2, h⟩ := Ok.ofgd h
  refine Jc_iald C rfl rfl g_2 dX11_playStep_18 rfl ?_
  by_cases c_6 : Int32.toInt (aI σ 1993 (Int32.toNatClampNeg l1)) = 0
  · have h := h.pos c_6
    refine J_tab (t := 48) C 0 c_6 dX11_playStep_19 (by decide) (by decide) rfl (by decide) ?_
    refine J_aload_n (i := 0) (p := 1) C dX11_playStep_48 rfl rfl rfl ?_
    refine J_aload_n (i := 0) (p := 1) C dX11_playStep_49 rfl rfl rfl ?_
    refine Jc_getS (o2 := 1992) (r2 := 1992) C fp_RX11_56 rfl rfl rfl dX11_playStep_50 rfl ?_
    refine Jc_getS (o2 := 4) (r2 := 1996) C fp_RX11_450 rfl rfl rfl dX11_playStep_53 rfl ?_
    refine J_iload_n (i := 1) (p := 2) C dX11_playStep_56 rfl rfl rfl ?_
    refine J_sipush (v := 200) C (by decide) dX11_playStep_57 rfl ?_
    refine J_imul C dX11_playStep_60 rfl ?_
    refine J_iload_n (i := 2) (p := 0) C dX11_playStep_61 rfl rfl rfl ?_
    refine Jc_cV (rest := []) (st9 := fun p_4 => []) C hR hX cv_RX11_131 rfl (Nat.le_of_ble_eq_true rfl) (k11_planAtCursors hl rfl (Ok.ofbnd h)) rfl rfl (Nat.le_of_ble_eq_true rfl) (Nat.le_of_ble_eq_true rfl) (Nat.le_of_ble_eq_true rfl) ⟨(Nat.le_of_ble_eq_true rfl), (Nat.le_of_ble_eq_true rfl)⟩ dX11_playStep_62 rfl (fun E n9 w9 hx => JT_n hx) (fun _ => rfl) (fun p_4 h => ?_)
    have h : Ok _ _ := h
    change J X K 3 False QQ 0 0 2017 (jw K p_4) 65 [(2, .int x2_1), (0, .ref (K.2.2 + 0)), (1, .int l1)] []
    refine J_aload_n (i := 0) (p := 1) C dX11_playStep_65 rfl rfl rfl ?_
    refine Jc_cV (rest := []) (st9 := fun p_5 => [.int p_5.1]) C hR hX cv_RX11_134 rfl (Nat.le_of_ble_eq_true rfl) (k11_perform hl  (Ok.ofbnd h)) rfl rfl (Nat.le_of_ble_eq_true rfl) (Nat.le_of_ble_eq_true rfl) (Nat.le_of_ble_eq_true rfl) ⟨(Nat.le_of_ble_eq_true rfl), (Nat.le_of_ble_eq_true rfl)⟩ dX11_playStep_66 rfl (fun E n9 w9 hx => JT_n hx) (fun _ => rfl) (fun p_5 h => ?_)
    have h : Ok _ _ := h
    change J X K 3 False QQ 0 0 2017 (jw K p_5.2) 69 [(2, .int x2_1), (0, .ref (K.2.2 + 0)), (1, .int l1)] [.int p_5.1]
    obtain ⟨g_6, h⟩ := Ok.ofgd h
    rw [← hQQ]
    exact J_zret C hret (narB g_6).1 (Nat.le_of_ble_eq_true rfl) (Nat.le_of_ble_eq_true rfl) ⟨_, h.osome, rfl, rfl, rfl⟩ dX11_playStep_69
  · have h := h.neg c_6
    by_cases c_10 : Int32.toInt (aI σ 1993 (Int32.toNatClampNeg l1)) = 1
    · have h := h.pos c_10
      refine J_tab (t := 70) C 1 c_10 dX11_playStep_19 (by decide) (by decide) rfl (by decide) ?_
      refine J_aload_n (i := 0) (p := 1) C dX11_playStep_70 rfl rfl rfl ?_
      refine J_iload_n (i := 2) (p := 0) C dX11_playStep_71 rfl rfl rfl ?_
      refine Jc_cV (rest := []) (st9 := fun p_8 => []) C hR hX cv_RX11_147 rfl (Nat.le_of_ble_eq_true rfl) (k11_planErasing hl  (Ok.ofbnd h)) rfl rfl (Nat.le_of_ble_eq_true rfl) (Nat.le_of_ble_eq_true rfl) (Nat.le_of_ble_eq_true rfl) ⟨(Nat.le_of_ble_eq_true rfl), (Nat.le_of_ble_eq_true rfl)⟩ dX11_playStep_72 rfl (fun E n9 w9 hx => JT_n hx) (fun _ => rfl) (fun p_8 h => ?_)
      have h : Ok _ _ := h
      change J X K 3 False QQ 0 0 2017 (jw K p_8) 75 [(2, .int x2_1), (0, .ref (K.2.2 + 0)), (1, .int l1)] []
      refine J_aload_n (i := 0) (p := 1) C dX11_playStep_75 rfl rfl rfl ?_
      refine Jc_cV (rest := []) (st9 := fun p_9 => [.int p_9.1]) C hR hX cv_RX11_134 rfl (Nat.le_of_ble_eq_true rfl) (k11_perform hl  (Ok.ofbnd h)) rfl rfl (Nat.le_of_ble_eq_true rfl) (Nat.le_of_ble_eq_true rfl) (Nat.le_of_ble_eq_true rfl) ⟨(Nat.le_of_ble_eq_true rfl), (Nat.le_of_ble_eq_true rfl)⟩ dX11_playStep_76 rfl (fun E n9 w9 hx => JT_n hx) (fun _ => rfl) (fun p_9 h => ?_)
      have h : Ok _ _ := h
      change J X K 3 False QQ 0 0 2017 (jw K p_9.2) 79 [(2, .int x2_1), (0, .ref (K.2.2 + 0)), (1, .int l1)] [.int p_9.1]
      obtain ⟨g_10, h⟩ := Ok.ofgd h
      rw [← hQQ]
      exact J_zret C hret (narB g_10).1 (Nat.le_of_ble_eq_true rfl) (Nat.le_of_ble_eq_true rfl) ⟨_, h.osome, rfl, rfl, rfl⟩ dX11_playStep_79
    · have h := h.neg c_10
      by_cases c_13 : Int32.toInt (aI σ 1993 (Int32.toNatClampNeg l1)) = 2
      · have h := h.pos c_13
        refine J_tab (t := 89) C 2 c_13 dX11_playStep_19 (by decide) (by decide) rfl (by decide) ?_
        refine J_aload_n (i := 0) (p := 1) C dX11_playStep_89 rfl rfl rfl ?_
        refine J_aload_n (i := 0) (p := 1) C dX11_playStep_90 rfl rfl rfl ?_
        refine Jc_getS (o2 := 1992) (r2 := 1992) C fp_RX11_56 rfl rfl rfl dX11_playStep_91 rfl ?_
        refine Jc_getS (o2 := 2) (r2 := 1994) C fp_RX11_451 rfl rfl rfl dX11_playStep_94 rfl ?_
        refine J_iload_n (i := 1) (p := 2) C dX11_playStep_97 rfl rfl rfl ?_
        obtain ⟨g_12, h⟩ := Ok.ofgd h
        refine Jc_iald C rfl rfl g_12 dX11_playStep_98 rfl ?_
        refine J_iload_n (i := 2) (p := 0) C dX11_playStep_99 rfl rfl rfl ?_
        refine Jc_cV (rest := []) (st9 := fun p_13 => []) C hR hX cv_RX11_280 rfl (Nat.le_of_ble_eq_true rfl) (k11_moveAll hl  (Ok.ofbnd h)) rfl rfl (Nat.le_of_ble_eq_true rfl) (Nat.le_of_ble_eq_true rfl) (Nat.le_of_ble_eq_true rfl) ⟨(Nat.le_of_ble_eq_true rfl), (Nat.le_of_ble_eq_true rfl)⟩ dX11_playStep_100 rfl (fun E n9 w9 hx => JT_n hx) (fun _ => rfl) (fun p_13 h => ?_)
        have h : Ok _ _ := h
        change J X K 3 False QQ 0 0 2017 (jw K p_13) 103 [(2, .int x2_1), (0, .ref (K.2.2 + 0)), (1, .int l1)] []
        refine J_iconst (v := 1) C (by decide) dX11_playStep_103 rfl ?_
        rw [← hQQ]
        exact J_zret C hret rfl (Nat.le_of_ble_eq_true rfl) (Nat.le_of_ble_eq_true rfl) ⟨_, h.osome, rfl, rfl, rfl⟩ dX11_playStep_104
      · have h := h.neg c_13
        by_cases c_17 : Int32.toInt (aI σ 1993 (Int32.toNatClampNeg l1)) = 3
        · have h := h.pos c_17
          refine J_tab (t := 80) C 3 c_17 dX11_playStep_19 (by decide) (by decide) rfl (by decide) ?_
          refine J_aload_n (i := 0) (p := 1) C dX11_playStep_80 rfl rfl rfl ?_
          refine Jc_cV (rest := []) (st9 := fun p_15 => []) C hR hX cv_RX11_162 rfl (Nat.le_of_ble_eq_true rfl) (k11_planPasting hl  (Ok.ofbnd h)) rfl rfl (Nat.le_of_ble_eq_true rfl) (Nat.le_of_ble_eq_true rfl) (Nat.le_of_ble_eq_true rfl) ⟨(Nat.le_of_ble_eq_true rfl), (Nat.le_of_ble_eq_true rfl)⟩ dX11_playStep_81 rfl (fun E n9 w9 hx => JT_n hx) (fun _ => rfl) (fun p_15 h => ?_)
          have h : Ok _ _ := h
          change J X K 3 False QQ 0 0 2017 (jw K p_15) 84 [(2, .int x2_1), (0, .ref (K.2.2 + 0)), (1, .int l1)] []
          refine J_aload_n (i := 0) (p := 1) C dX11_playStep_84 rfl rfl rfl ?_
          refine Jc_cV (rest := []) (st9 := fun p_16 => [.int p_16.1]) C hR hX cv_RX11_134 rfl (Nat.le_of_ble_eq_true rfl) (k11_perform hl  (Ok.ofbnd h)) rfl rfl (Nat.le_of_ble_eq_true rfl) (Nat.le_of_ble_eq_true rfl) (Nat.le_of_ble_eq_true rfl) ⟨(Nat.le_of_ble_eq_true rfl), (Nat.le_of_ble_eq_true rfl)⟩ dX11_playStep_85 rfl (fun E n9 w9 hx => JT_n hx) (fun _ => rfl) (fun p_16 h => ?_)
          have h : Ok _ _ := h
          change J X K 3 False QQ 0 0 2017 (jw K p_16.2) 88 [(2, .int x2_1), (0, .ref (K.2.2 + 0)), (1, .int l1)] [.int p_16.1]
          obtain ⟨g_17, h⟩ := Ok.ofgd h
          rw [← hQQ]
          exact J_zret C hret (narB g_17).1 (Nat.le_of_ble_eq_true rfl) (Nat.le_of_ble_eq_true rfl) ⟨_, h.osome, rfl, rfl, rfl⟩ dX11_playStep_88
        · have h := h.neg c_17
          refine J_tabO (t := 89) C dX11_playStep_19 (by omega) (by decide) ?_
          refine J_aload_n (i := 0) (p := 1) C dX11_playStep_89 rfl rfl rfl ?_
          refine J_aload_n (i := 0) (p := 1) C dX11_playStep_90 rfl rfl rfl ?_
          refine Jc_getS (o2 := 1992) (r2 := 1992) C fp_RX11_56 rfl rfl rfl dX11_playStep_91 rfl ?_
          refine Jc_getS (o2 := 2) (r2 := 1994) C fp_RX11_451 rfl rfl rfl dX11_playStep_94 rfl ?_
          refine J_iload_n (i := 1) (p := 2) C dX11_playStep_97 rfl rfl rfl ?_
          obtain ⟨g_18, h⟩ := Ok.ofgd h
          refine Jc_iald C rfl rfl g_18 dX11_playStep_98 rfl ?_
          refine J_iload_n (i := 2) (p := 0) C dX11_playStep_99 rfl rfl rfl ?_
          refine Jc_cV (rest := []) (st9 := fun p_19 => []) C hR hX cv_RX11_280 rfl (Nat.le_of_ble_eq_true rfl) (k11_moveAll hl  (Ok.ofbnd h)) rfl rfl (Nat.le_of_ble_eq_true rfl) (Nat.le_of_ble_eq_true rfl) (Nat.le_of_ble_eq_true rfl) ⟨(Nat.le_of_ble_eq_true rfl), (Nat.le_of_ble_eq_true rfl)⟩ dX11_playStep_100 rfl (fun E n9 w9 hx => JT_n hx) (fun _ => rfl) (fun p_19 h => ?_)
          have h : Ok _ _ := h
          change J X K 3 False QQ 0 0 2017 (jw K p_19) 103 [(2, .int x2_1), (0, .ref (K.2.2 + 0)), (1, .int l1)] []
          refine J_iconst (v := 1) C (by decide) dX11_playStep_103 rfl ?_
          rw [← hQQ]
          exact J_zret C hret rfl (Nat.le_of_ble_eq_true rfl) (Nat.le_of_ble_eq_true rfl) ⟨_, h.osome, rfl, rfl, rfl⟩ dX11_playStep_104
def f11_play_j158 (l1 : Int32) (σ_158 : Sto) (l3_158 : Int32) : Option ((Int32 × Sto) ⊕ (Nat × Sto)) :=
  some (.inl (l3_158, σ_158))
def f11_play_j147 (l1 : Int32) (σ_147 : Sto) (l2_147 : Int32) (l3_147 : Int32) : Option ((Int32 × Sto) ⊕ (Nat × Sto)) :=
  if l2_147 = 0 then
    f11_play_j158 l1 σ_147 l3_147
  else
    bnd (f4_closeGroup σ_147) fun p_2 =>
    f11_play_j158 l1 p_2 l3_147
def f11_play_j141 (l1 : Int32) (l2_75 : Int32) (σ_141 : Sto) (l3_141 : Int32) (l4_141 : Int32) (l5_141 : Int32) : Option ((Sto × Int32 × Int32 × Int32) ⊕ (Sto × Int32)) :=
  stp (l5_141 + (1 : Int32)) fun x5_1 =>
  some (.inl (σ_141, l3_141, l4_141, x5_1))
def f11_play_j133 (l1 : Int32) (l2_75 : Int32) (l5_89 : Int32) (σ_133 : Sto) (l4_133 : Int32) (l6_133 : Int32) (s0_133 : Int32) (s1_133 : Int32) : Option ((Sto × Int32 × Int32 × Int32) ⊕ (Sto × Int32 × Int32)) :=
  stp (s0_133 + s1_133) fun x3_2 =>
  stp (l6_133 + (1 : Int32)) fun x6_3 =>
  some (.inl (σ_133, x3_2, l4_133, x6_3))
def f11_play_j120 (l1 : Int32) (l2_75 : Int32) (l5_89 : Int32) (σ_120 : Sto) (l3_120 : Int32) (l6_120 : Int32) (s0_120 : Int32) : Option ((Sto × Int32 × Int32 × Int32) ⊕ (Sto × Int32 × Int32)) :=
  stp s0_120 fun x4_4 =>
  if x4_4 = 0 then
    f11_play_j133 l1 l2_75 l5_89 σ_120 x4_4 l6_120 l3_120 (1 : Int32)
  else
    f11_play_j133 l1 l2_75 l5_89 σ_120 x4_4 l6_120 l3_120 (0 : Int32)
def f11_play_b89 (l1 : Int32) (l2_75 : Int32) (σ_89 : Sto) (l3_89 : Int32) (l4_89 : Int32) (l5_89 : Int32) (l6_89 : Int32) : Option ((Sto × Int32 × Int32 × Int32) ⊕ (Sto × Int32 × Int32)) :=
  if (fI σ_89 1992 4) ≤ l6_89 then
    some (.inr (σ_89, l3_89, l4_89))
  else
    if l4_89 = 0 then
      bnd (f11_playStep σ_89 l6_89) fun p_6 =>
      if p_6.1 = 0 then
        f11_play_j120 l1 l2_75 l5_89 p_6.2 l3_89 l6_89 (1 : Int32)
      else
        f11_play_j120 l1 l2_75 l5_89 p_6.2 l3_89 l6_89 (0 : Int32)
    else
      some (.inr (σ_89, l3_89, l4_89))
def f11_play_j89 (l1 : Int32) (l2_75 : Int32) (σ_89 : Sto) (l3_89 : Int32) (l4_89 : Int32) (l5_89 : Int32) (l6_89 : Int32) : Option ((Sto × Int32 × Int32 × Int32) ⊕ (Sto × Int32)) :=
  bnd (loopF (fun s_89 => f11_play_b89 l1 l2_75 s_89.1 s_89.2.1 s_89.2.2.1 l5_89 s_89.2.2.2) FU (σ_89, l3_89, l4_89, l6_89)) fun r_89 =>
    f11_play_j141 l1 l2_75 r_89.1 r_89.2.1 r_89.2.2 l5_89
def f11_play_b75 (l1 : Int32) (σ_75 : Sto) (l2_75 : Int32) (l3_75 : Int32) (l4_75 : Int32) (l5_75 : Int32) : Option ((Sto × Int32 × Int32 × Int32) ⊕ (Sto × Int32)) :=
  if l1 ≤ l5_75 then
    some (.inr (σ_75, l3_75))
  else
    if l4_75 = 0 then
      stp (0 : Int32) fun x6_5 =>
      f11_play_j89 l1 l2_75 σ_75 l3_75 l4_75 l5_75 x6_5
    else
      some (.inr (σ_75, l3_75))
def f11_play_j75 (l1 : Int32) (σ_75 : Sto) (l2_75 : Int32) (l3_75 : Int32) (l4_75 : Int32) (l5_75 : Int32) : Option ((Int32 × Sto) ⊕ (Nat × Sto)) :=
  bnd (loopF (fun s_75 => f11_play_b75 l1 s_75.1 l2_75 s_75.2.1 s_75.2.2.1 s_75.2.2.2) FU (σ_75, l3_75, l4_75, l5_75)) fun r_75 =>
    f11_play_j147 l1 r_75.1 l2_75 r_75.2
def f11_play_j58 (l1 : Int32) (σ_58 : Sto) (s0_58 : Int32) : Option ((Int32 × Sto) ⊕ (Nat × Sto)) :=
  stp s0_58 fun x2_6 =>
  stp (uI σ_58 24 3 (1 : Int32)) fun σx_7 =>
  stp (0 : Int32) fun x3_8 =>
  stp (0 : Int32) fun x4_9 =>
  stp (0 : Int32) fun x5_10 =>
  f11_play_j75 l1 σx_7 x2_6 x3_8 x4_9 x5_10
def f11_play_j11 (l1 : Int32) (σ_11 : Sto) : Option ((Int32 × Sto) ⊕ (Nat × Sto)) :=
  some (.inr (2, σ_11))
def f11_play (σ : Sto) (l1 : Int32) : Option ((Int32 × Sto) ⊕ (Nat × Sto)) :=
  if l1 < (1 : Int32) then
    f11_play_j11 l1 σ
  else
    if l1 ≤ (20 : Int32) then
      if (fI σ 1992 5) = 0 then
        if (fI σ 24 3) = 0 then
          f11_play_j58 l1 σ (1 : Int32)
        else
          f11_play_j58 l1 σ (0 : Int32)
      else
        some (.inr (3, σ))
    else
      f11_play_j11 l1 σ
set_option maxHeartbeats 4000000 in
set_option maxRecDepth 100000 in
theorem k11_play {l : Launch} {K : JK} (hl : l.stackTraces = false) {σ : Sto} {l1 : Int32}  {Qf : (Int32 × Sto) ⊕ (Nat × Sto) → Prop} (h : Ok (f11_play σ l1) Qf) : Con l K yX11_play (.code yX11_play cX11_play 7 (some .int) :: TB) 6 1 6 False [.ref (K.2.2 + 0), .int l1] 2017 (jw K σ) (PR (fun p => Qf (.inl p)) (fun p => some (.int p.1)) (fun p => jw K p.2)) (PX Qf (fun s => jw K s)) := by
  refine Con.enter (own := RX11) hl (by decide) rfl (Nat.le_of_ble_eq_true rfl) ?_
  intro X hX hR C hret hnt
  generalize hQQ : jQ X K 1 6 (PR (fun p => Qf (.inl p)) (fun p => some (.int p.1)) (fun p => jw K p.2)) (PX Qf (fun s => jw K s)) False = QQ
  change J X K 7 False QQ 0 0 2017 (jw K σ) 0 [(0, .ref (K.2.2 + 0)), (1, .int l1)] []
  have hj_158 : (∀ (σ_158 : Sto) (l3_158 : Int32), Ok (f11_play_j158 l1 σ_158 l3_158) Qf → J X K 7 False QQ 0 0 2017 (jw K σ_158) 158 [(3, .int l3_158)] []) := by
    intro σ_158 l3_158 h
    unfold f11_play_j158 at h
    refine J_iload_n (i := 3) (p := 0) C dX11_play_158 rfl rfl rfl ?_
    rw [← hQQ]
    exact J_iret C hret (Nat.le_of_ble_eq_true rfl) (Nat.le_of_ble_eq_true rfl) ⟨_, h.osome, rfl, rfl, rfl⟩ dX11_play_159
  have hj_147 : (∀ (σ_147 : Sto) (l2_147 : Int32) (l3_147 : Int32), Ok (f11_play_j147 l1 σ_147 l2_147 l3_147) Qf → J X K 7 False QQ 0 0 2017 (jw K σ_147) 147 [(0, .ref (K.2.2 + 0)), (2, .int l2_147), (3, .int l3_147)] []) := by
    intro σ_147 l2_147 l3_147 h
    unfold f11_play_j147 at h
    refine J_iload_n (i := 2) (p := 1) C dX11_play_147 rfl rfl rfl ?_
    refine J_if_eq (t := 158) C dX11_play_148 (by decide) rfl (fun c_1 => ?_) (fun c_1 => ?_)
    · have h := h.pos c_1
      refine J.sub [2] rfl ?_
      exact hj_158 σ_147 l3_147 h
    · have h := h.neg c_1
      refine J_aload_n (i := 0) (p := 0) C dX11_play_151 rfl rfl rfl ?_
      refine Jc_getS (o2 := 24) (r2 := 24) C fp_RX11_42 rfl rfl rfl dX11_play_152 rfl ?_
      refine Jc_cV (rest := []) (st9 := fun p_2 => []) C hR hX cv_RX11_218 rfl (Nat.le_of_ble_eq_true rfl) (k4_closeGroup hl  (Ok.ofbnd h)) rfl rfl (Nat.le_of_ble_eq_true rfl) (Nat.le_of_ble_eq_true rfl) (Nat.le_of_ble_eq_true rfl) ⟨(Nat.le_of_ble_eq_true rfl), (Nat.le_of_ble_eq_true rfl)⟩ dX11_play_155 rfl (fun E n9 w9 hx => JT_n hx) (fun _ => rfl) (fun p_2 h => ?_)
      have h : Ok _ _ := h
      change J X K 7 False QQ 0 0 2017 (jw K p_2) 158 [(0, .ref (K.2.2 + 0)), (2, .int l2_147), (3, .int l3_147)] []
      refine J.sub [2] rfl ?_
      exact hj_158 p_2 l3_147 h
  have hj_75 : (∀ (σ_75 : Sto) (l2_75 : Int32) (l3_75 : Int32) (l4_75 : Int32) (l5_75 : Int32), Ok (f11_play_j75 l1 σ_75 l2_75 l3_75 l4_75 l5_75) Qf → J X K 7 False QQ 0 0 2017 (jw K σ_75) 75 [(0, .ref (K.2.2 + 0)), (1, .int l1), (2, .int l2_75), (3, .int l3_75), (4, .int l4_75), (5, .int l5_75)] []) := by
    intro σ_75 l2_75 l3_75 l4_75 l5_75 h
    unfold f11_play_j75 at h
    refine loop_gen (S := Sto × Int32 × Int32 × Int32) (P := fun s_75 => J X K 7 False QQ 0 0 2017 (jw K s_75.1) 75 [(0, .ref (K.2.2 + 0)), (1, .int l1), (2, .int l2_75), (3, .int s_75.2.1), (4, .int s_75.2.2.1), (5, .int s_75.2.2.2)] []) ?_ FU (σ_75, l3_75, l4_75, l5_75) (Ok.ofbnd h)
    intro B_75 hB_75 hE_75 s_75 h
    obtain ⟨σ_75, l3_75, l4_75, l5_75⟩ := s_75
    have h : Ok (f11_play_b75 l1 σ_75 l2_75 l3_75 l4_75 l5_75) B_75 := h
    change J X K 7 False QQ 0 0 2017 (jw K σ_75) 75 [(0, .ref (K.2.2 + 0)), (1, .int l1), (2, .int l2_75), (3, .int l3_75), (4, .int l4_75), (5, .int l5_75)] []
    have hj_141 : (∀ (σ_141 : Sto) (l3_141 : Int32) (l4_141 : Int32) (l5_141 : Int32), Ok (f11_play_j141 l1 l2_75 σ_141 l3_141 l4_141 l5_141) B_75 → J X K 7 False QQ 0 0 2017 (jw K σ_141) 141 [(0, .ref (K.2.2 + 0)), (1, .int l1), (2, .int l2_75), (3, .int l3_141), (4, .int l4_141), (5, .int l5_141)] []) := by
      intro σ_141 l3_141 l4_141 l5_141 h
      unfold f11_play_j141 at h
      obtain ⟨x5_1, e_x5_1, h⟩ := Ok.nm h
      refine J_iincE (i := 5) (p := 5) (lv' := [(5, .int x5_1), (0, .ref (K.2.2 + 0)), (1, .int l1), (2, .int l2_75), (3, .int l3_141), (4, .int l4_141)]) C e_x5_1 dX11_play_141 rfl (by decide) (Nat.le_of_ble_eq_true rfl) rfl rfl ?_
      refine J_goto (t := 75) C dX11_play_144 (by decide) ?_
      refine J.sub [1, 2, 3, 4, 5, 0] rfl ?_
      exact hB_75 (σ_141, l3_141, l4_141, x5_1) h.osome
    have hj_89 : (∀ (σ_89 : Sto) (l3_89 : Int32) (l4_89 : Int32) (l5_89 : Int32) (l6_89 : Int32), Ok (f11_play_j89 l1 l2_75 σ_89 l3_89 l4_89 l5_89 l6_89) B_75 → J X K 7 False QQ 0 0 2017 (jw K σ_89) 89 [(0, .ref (K.2.2 + 0)), (1, .int l1), (2, .int l2_75), (3, .int l3_89), (4, .int l4_89), (5, .int l5_89), (6, .int l6_89)] []) := by
      intro σ_89 l3_89 l4_89 l5_89 l6_89 h
      unfold f11_play_j89 at h
      refine loop_gen (S := Sto × Int32 × Int32 × Int32) (P := fun s_89 => J X K 7 False QQ 0 0 2017 (jw K s_89.1) 89 [(0, .ref (K.2.2 + 0)), (1, .int l1), (2, .int l2_75), (3, .int s_89.2.1), (4, .int s_89.2.2.1), (5, .int l5_89), (6, .int s_89.2.2.2)] []) ?_ FU (σ_89, l3_89, l4_89, l6_89) (Ok.ofbnd h)
      intro B_89 hB_89 hE_89 s_89 h
      obtain ⟨σ_89, l3_89, l4_89, l6_89⟩ := s_89
      have h : Ok (f11_play_b89 l1 l2_75 σ_89 l3_89 l4_89 l5_89 l6_89) B_89 := h
      change J X K 7 False QQ 0 0 2017 (jw K σ_89) 89 [(0, .ref (K.2.2 + 0)), (1, .int l1), (2, .int l2_75), (3, .int l3_89), (4, .int l4_89), (5, .int l5_89), (6, .int l6_89)] []
      have hj_133 : (∀ (σ_133 : Sto) (l4_133 : Int32) (l6_133 : Int32) (s0_133 : Int32) (s1_133 : Int32), Ok (f11_play_j133 l1 l2_75 l5_89 σ_133 l4_133 l6_133 s0_133 s1_133) B_89 → J X K 7 False QQ 0 0 2017 (jw K σ_133) 133 [(0, .ref (K.2.2 + 0)), (1, .int l1), (2, .int l2_75), (4, .int l4_133), (5, .int l5_89), (6, .int l6_133)] [.int s1_133, .int s0_133]) := by
        intro σ_133 l4_133 l6_133 s0_133 s1_133 h
        unfold f11_play_j133 at h
        refine J_iadd C dX11_play_133 rfl ?_
        obtain ⟨x3_2, e_x3_2, h⟩ := Ok.nm h
        refine J_istoreE_n (i := 3) (lv' := [(3, .int x3_2), (0, .ref (K.2.2 + 0)), (1, .int l1), (2, .int l2_75), (4, .int l4_133), (5, .int l5_89), (6, .int l6_133)]) C e_x3_2 dX11_play_134 rfl (Nat.le_of_ble_eq_true rfl) rfl rfl ?_
        obtain ⟨x6_3, e_x6_3, h⟩ := Ok.nm h
        refine J_iincE (i := 6) (p := 6) (lv' := [(6, .int x6_3), (3, .int x3_2), (0, .ref (K.2.2 + 0)), (1, .int l1), (2, .int l2_75), (4, .int l4_133), (5, .int l5_89)]) C e_x6_3 dX11_play_135 rfl (by decide) (Nat.le_of_ble_eq_true rfl) rfl rfl ?_
        refine J_goto (t := 89) C dX11_play_138 (by decide) ?_
        refine J.sub [2, 3, 4, 1, 5, 6, 0] rfl ?_
        exact hB_89 (σ_133, x3_2, l4_133, x6_3) h.osome
      have hj_120 : (∀ (σ_120 : Sto) (l3_120 : Int32) (l6_120 : Int32) (s0_120 : Int32), Ok (f11_play_j120 l1 l2_75 l5_89 σ_120 l3_120 l6_120 s0_120) B_89 → J X K 7 False QQ 0 0 2017 (jw K σ_120) 120 [(0, .ref (K.2.2 + 0)), (1, .int l1), (2, .int l2_75), (3, .int l3_120), (5, .int l5_89), (6, .int l6_120)] [.int s0_120]) := by
        intro σ_120 l3_120 l6_120 s0_120 h
        unfold f11_play_j120 at h
        obtain ⟨x4_4, e_x4_4, h⟩ := Ok.nm h
        refine J_istoreE (i := 4) (lv' := [(4, .int x4_4), (0, .ref (K.2.2 + 0)), (1, .int l1), (2, .int l2_75), (3, .int l3_120), (5, .int l5_89), (6, .int l6_120)]) C e_x4_4 dX11_play_120 (Nat.le_of_ble_eq_true rfl) rfl rfl ?_
        refine J_iload_n (i := 3) (p := 4) C dX11_play_122 rfl rfl rfl ?_
        refine J_iload (i := 4) (p := 0) C dX11_play_123 rfl rfl ?_
        refine J_if_eq (t := 132) C dX11_play_125 (by decide) rfl (fun c_3 => ?_) (fun c_3 => ?_)
        · have h := h.pos c_3
          refine J_iconst (v := 1) C (by decide) dX11_play_132 rfl ?_
          refine J.sub [1, 2, 3, 0, 5, 6] rfl ?_
          exact hj_133 σ_120 x4_4 l6_120 l3_120 (1 : Int32) h
        · have h := h.neg c_3
          refine J_iconst (v := 0) C (by decide) dX11_play_128 rfl ?_
          refine J_goto (t := 133) C dX11_play_129 (by decide) ?_
          refine J.sub [1, 2, 3, 0, 5, 6] rfl ?_
          exact hj_133 σ_120 x4_4 l6_120 l3_120 (0 : Int32) h
      unfold f11_play_b89 at h
      refine J_iload (i := 6) (p := 6) C dX11_play_89 rfl rfl ?_
      refine J_aload_n (i := 0) (p := 0) C dX11_play_91 rfl rfl rfl ?_
      refine Jc_getS (o2 := 1992) (r2 := 1992) C fp_RX11_56 rfl rfl rfl dX11_play_92 rfl ?_
      refine Jc_getI C fp_RX11_344 rfl rfl dX11_play_95 rfl ?_
      refine J_icmp_ge (t := 141) C dX11_play_98 (by decide) rfl (fun c_4 => ?_) (fun c_4 => ?_)
      · have h := h.pos c_4
        have h := hE_89 (σ_89, l3_89, l4_89) h.osome
        try dsimp only at h
        refine J.sub [0, 1, 2, 3, 4, 5] rfl ?_
        exact hj_141 σ_89 l3_89 l4_89 l5_89 h
      · have h := h.neg c_4
        refine J_iload (i := 4) (p := 4) C dX11_play_101 rfl rfl ?_
        refine J_if_ne (t := 141) C dX11_play_103 (by decide) rfl (fun c_5 => ?_) (fun c_5 => ?_)
        · have h := h.neg c_5
          have h := hE_89 (σ_89, l3_89, l4_89) h.osome
          try dsimp only at h
          refine J.sub [0, 1, 2, 3, 4, 5] rfl ?_
          exact hj_141 σ_89 l3_89 l4_89 l5_89 h
        · have h := h.pos (Decidable.not_not.mp c_5)
          refine J_aload_n (i := 0) (p := 0) C dX11_play_106 rfl rfl rfl ?_
          refine J_iload (i := 6) (p := 6) C dX11_play_107 rfl rfl ?_
          refine Jc_cV (rest := []) (st9 := fun p_6 => [.int p_6.1]) C hR hX cv_RX11_352 rfl (Nat.le_of_ble_eq_true rfl) (k11_playStep hl  (Ok.ofbnd h)) rfl rfl (Nat.le_of_ble_eq_true rfl) (Nat.le_of_ble_eq_true rfl) (Nat.le_of_ble_eq_true rfl) ⟨(Nat.le_of_ble_eq_true rfl), (Nat.le_of_ble_eq_true rfl)⟩ dX11_play_109 rfl (fun E n9 w9 hx => JT_n hx) (fun _ => rfl) (fun p_6 h => ?_)
          have h : Ok _ _ := h
          change J X K 7 False QQ 0 0 2017 (jw K p_6.2) 112 [(0, .ref (K.2.2 + 0)), (1, .int l1), (2, .int l2_75), (3, .int l3_89), (4, .int l4_89), (5, .int l5_89), (6, .int l6_89)] [.int p_6.1]
          refine J_if_ne (t := 119) C dX11_play_112 (by decide) rfl (fun c_7 => ?_) (fun c_7 => ?_)
          · have h := h.neg c_7
            refine J_iconst (v := 0) C (by decide) dX11_play_119 rfl ?_
            refine J.sub [0, 1, 2, 3, 5, 6] rfl ?_
            exact hj_120 p_6.2 l3_89 l6_89 (0 : Int32) h
          · have h := h.pos (Decidable.not_not.mp c_7)
            refine J_iconst (v := 1) C (by decide) dX11_play_115 rfl ?_
            refine J_goto (t := 120) C dX11_play_116 (by decide) ?_
            refine J.sub [0, 1, 2, 3, 5, 6] rfl ?_
            exact hj_120 p_6.2 l3_89 l6_89 (1 : Int32) h
    unfold f11_play_b75 at h
    refine J_iload (i := 5) (p := 5) C dX11_play_75 rfl rfl ?_
    refine J_iload_n (i := 1) (p := 1) C dX11_play_77 rfl rfl rfl ?_
    refine J_icmp_ge (t := 147) C dX11_play_78 (by decide) rfl (fun c_8 => ?_) (fun c_8 => ?_)
    · have h := h.pos c_8
      have h := hE_75 (σ_75, l3_75) h.osome
      try dsimp only at h
      refine J.sub [0, 2, 3] rfl ?_
      exact hj_147 σ_75 l2_75 l3_75 h
    · have h := h.neg c_8
      refine J_iload (i := 4) (p := 4) C dX11_play_81 rfl rfl ?_
      refine J_if_ne (t := 147) C dX11_play_83 (by decide) rfl (fun c_9 => ?_) (fun c_9 => ?_)
      · have h := h.neg c_9
        have h := hE_75 (σ_75, l3_75) h.osome
        try dsimp only at h
        refine J.sub [0, 2, 3] rfl ?_
        exact hj_147 σ_75 l2_75 l3_75 h
      · have h := h.pos (Decidable.not_not.mp c_9)
        refine J_iconst (v := 0) C (by decide) dX11_play_86 rfl ?_
        obtain ⟨x6_5, e_x6_5, h⟩ := Ok.nm h
        refine J_istoreE (i := 6) (lv' := [(6, .int x6_5), (0, .ref (K.2.2 + 0)), (1, .int l1), (2, .int l2_75), (3, .int l3_75), (4, .int l4_75), (5, .int l5_75)]) C e_x6_5 dX11_play_87 (Nat.le_of_ble_eq_true rfl) rfl rfl ?_
        refine J.sub [1, 2, 3, 4, 5, 6, 0] rfl ?_
        exact hj_89 σ_75 l3_75 l4_75 l5_75 x6_5 h
  have hj_58 : (∀ (σ_58 : Sto) (s0_58 : Int32), Ok (f11_play_j58 l1 σ_58 s0_58) Qf → J X K 7 False QQ 0 0 2017 (jw K σ_58) 58 [(0, .ref (K.2.2 + 0)), (1, .int l1)] [.int s0_58]) := by
    intro σ_58 s0_58 h
    unfold f11_play_j58 at h
    obtain ⟨x2_6, e_x2_6, h⟩ := Ok.nm h
    refine J_istoreE_n (i := 2) (lv' := [(2, .int x2_6), (0, .ref (K.2.2 + 0)), (1, .int l1)]) C e_x2_6 dX11_play_58 rfl (Nat.le_of_ble_eq_true rfl) rfl rfl ?_
    refine J_aload_n (i := 0) (p := 1) C dX11_play_59 rfl rfl rfl ?_
    refine Jc_getS (o2 := 24) (r2 := 24) C fp_RX11_42 rfl rfl rfl dX11_play_60 rfl ?_
    refine J_iconst (v := 1) C (by decide) dX11_play_63 rfl ?_
    obtain ⟨σx_7, e_σx_7, h⟩ := Ok.nm h
    refine Jc_putZ C id fp_RX11_249 fw_4_3 rfl rfl rfl rfl e_σx_7 dX11_play_64 rfl ?_
    refine J_iconst (v := 0) C (by decide) dX11_play_67 rfl ?_
    obtain ⟨x3_8, e_x3_8, h⟩ := Ok.nm h
    refine J_istoreE_n (i := 3) (lv' := [(3, .int x3_8), (2, .int x2_6), (0, .ref (K.2.2 + 0)), (1, .int l1)]) C e_x3_8 dX11_play_68 rfl (Nat.le_of_ble_eq_true rfl) rfl rfl ?_
    refine J_iconst (v := 0) C (by decide) dX11_play_69 rfl ?_
    obtain ⟨x4_9, e_x4_9, h⟩ := Ok.nm h
    refine J_istoreE (i := 4) (lv' := [(4, .int x4_9), (3, .int x3_8), (2, .int x2_6), (0, .ref (K.2.2 + 0)), (1, .int l1)]) C e_x4_9 dX11_play_70 (Nat.le_of_ble_eq_true rfl) rfl rfl ?_
    refine J_iconst (v := 0) C (by decide) dX11_play_72 rfl ?_
    obtain ⟨x5_10, e_x5_10, h⟩ := Ok.nm h
    refine J_istoreE (i := 5) (lv' := [(5, .int x5_10), (4, .int x4_9), (3, .int x3_8), (2, .int x2_6), (0, .ref (K.2.2 + 0)), (1, .int l1)]) C e_x5_10 dX11_play_73 (Nat.le_of_ble_eq_true rfl) rfl rfl ?_
    refine J.sub [4, 5, 3, 2, 1, 0] rfl ?_
    exact hj_75 σx_7 x2_6 x3_8 x4_9 x5_10 h
  have hj_11 : (∀ (σ_11 : Sto), Ok (f11_play_j11 l1 σ_11) Qf → J X K 7 False QQ 0 0 2017 (jw K σ_11) 11 [] []) := by
    intro σ_11 h
    unfold f11_play_j11 at h
    rw [← hQQ]
    exact J_throwW (is := 348) (text := "times is out of range") C hnt th_82 (by decide +kernel) dX11_play_11 dX11_play_14 dX11_play_15 dX11_play_18 dX11_play_21 (by rw [hR]; exact (Nat.le_of_ble_eq_true rfl)) (by rw [hR]; exact (Nat.le_of_ble_eq_true rfl)) (by rw [hR]; exact (Nat.le_of_ble_eq_true rfl)) (by rw [hR]; exact (Nat.le_of_ble_eq_true rfl)) (Nat.le_of_ble_eq_true rfl) (Nat.le_of_ble_eq_true rfl) ⟨2, σ_11, h.osome, rfl, rfl, rfl⟩
  unfold f11_play at h
  refine J_iload_n (i := 1) (p := 1) C dX11_play_0 rfl rfl rfl ?_
  refine J_iconst (v := 1) C (by decide) dX11_play_1 rfl ?_
  refine J_icmp_lt (t := 11) C dX11_play_2 (by decide) rfl (fun c_10 => ?_) (fun c_10 => ?_)
  · have h := h.pos c_10
    refine J.sub [] rfl ?_
    exact hj_11 σ h
  · have h := h.neg c_10
    refine J_iload_n (i := 1) (p := 1) C dX11_play_5 rfl rfl rfl ?_
    refine J_bipush (v := 20) C (by decide) dX11_play_6 rfl ?_
    refine J_icmp_le (t := 22) C dX11_play_8 (by decide) rfl (fun c_11 => ?_) (fun c_11 => ?_)
    · have h := h.pos c_11
      refine J_aload_n (i := 0) (p := 0) C dX11_play_22 rfl rfl rfl ?_
      refine Jc_getS (o2 := 1992) (r2 := 1992) C fp_RX11_56 rfl rfl rfl dX11_play_23 rfl ?_
      refine Jc_getI C fp_RX11_345 rfl rfl dX11_play_26 rfl ?_
      refine J_if_eq (t := 43) C dX11_play_29 (by decide) rfl (fun c_12 => ?_) (fun c_12 => ?_)
      · have h := h.pos c_12
        refine J_aload_n (i := 0) (p := 0) C dX11_play_43 rfl rfl rfl ?_
        refine Jc_getS (o2 := 24) (r2 := 24) C fp_RX11_42 rfl rfl rfl dX11_play_44 rfl ?_
        refine Jc_getI C fp_RX11_249 rfl rfl dX11_play_47 rfl ?_
        refine J_if_ne (t := 57) C dX11_play_50 (by decide) rfl (fun c_13 => ?_) (fun c_13 => ?_)
        · have h := h.neg c_13
          refine J_iconst (v := 0) C (by decide) dX11_play_57 rfl ?_
          exact hj_58 σ (0 : Int32) h
        · have h := h.pos (Decidable.not_not.mp c_13)
          refine J_iconst (v := 1) C (by decide) dX11_play_53 rfl ?_
          refine J_goto (t := 58) C dX11_play_54 (by decide) ?_
          exact hj_58 σ (1 : Int32) h
      · have h := h.neg c_12
        rw [← hQQ]
        exact J_throwW (is := 350) (text := "it records") C hnt th_92 (by decide +kernel) dX11_play_32 dX11_play_35 dX11_play_36 dX11_play_39 dX11_play_42 (by rw [hR]; exact (Nat.le_of_ble_eq_true rfl)) (by rw [hR]; exact (Nat.le_of_ble_eq_true rfl)) (by rw [hR]; exact (Nat.le_of_ble_eq_true rfl)) (by rw [hR]; exact (Nat.le_of_ble_eq_true rfl)) (Nat.le_of_ble_eq_true rfl) (Nat.le_of_ble_eq_true rfl) ⟨3, σ, h.osome, rfl, rfl, rfl⟩
    · have h := h.neg c_11
      refine J.sub [] rfl ?_
      exact hj_11 σ h
def f8_countMarks_j26 (a0 : Nat) (σ : Sto) (l2_26 : Int32) (s0_26 : Int32) (s1_26 : Int32) : Option ((Int32 × Int32) ⊕ Int32) :=
  stp (s0_26 + s1_26) fun x1_1 =>
  stp (l2_26 + (1 : Int32)) fun x2_2 =>
  some (.inl (x1_1, x2_2))
def f8_countMarks_b4 (a0 : Nat) (σ : Sto) (l1_4 : Int32) (l2_4 : Int32) : Option ((Int32 × Int32) ⊕ Int32) :=
  if (16 : Int32) ≤ l2_4 then
    some (.inr l1_4)
  else
    gd (inb l2_4 16) <|
    if (aI σ (a0 + 5) (Int32.toNatClampNeg l2_4)) = (-1 : Int32) then
      f8_countMarks_j26 a0 σ l2_4 l1_4 (0 : Int32)
    else
      f8_countMarks_j26 a0 σ l2_4 l1_4 (1 : Int32)
def f8_countMarks_j4 (a0 : Nat) (σ : Sto) (l1_4 : Int32) (l2_4 : Int32) : Option (Int32) :=
  bnd (loopF (fun s_4 => f8_countMarks_b4 a0 σ s_4.1 s_4.2) FU (l1_4, l2_4)) fun r_4 =>
    some r_4
def f8_countMarks (σ : Sto) (a0 : Nat) : Option (Int32) :=
  stp (0 : Int32) fun x1_3 =>
  stp (0 : Int32) fun x2_4 =>
  f8_countMarks_j4 a0 σ x1_3 x2_4
set_option maxHeartbeats 4000000 in
set_option maxRecDepth 100000 in
theorem k8_countMarks {l : Launch} {K : JK} (hl : l.stackTraces = false) {σ : Sto} {a0 : Nat} (h_a0 : kc a0 = 8) {Qf : Int32 → Prop} (h : Ok (f8_countMarks σ a0) Qf) : Con l K yX8_countMarks (.code yX8_countMarks cX8_countMarks 3 (some .int) :: TB) 0 0 0 False [.ref (K.2.2 + a0)] 2017 (jw K σ) (PR Qf (fun p => some (.int p)) (fun p => jw K σ)) PN := by
  refine Con.enter (own := RX8) hl (by decide) rfl (Nat.le_of_ble_eq_true rfl) ?_
  intro X hX hR C hret hnt
  generalize hQQ : jQ X K 0 0 (PR Qf (fun p => some (.int p)) (fun p => jw K σ)) PN False = QQ
  change J X K 3 False QQ 0 0 2017 (jw K σ) 0 [(0, .ref (K.2.2 + a0))] []
  have hj_4 : (∀ (l1_4 : Int32) (l2_4 : Int32), Ok (f8_countMarks_j4 a0 σ l1_4 l2_4) Qf → J X K 3 False QQ 0 0 2017 (jw K σ) 4 [(0, .ref (K.2.2 + a0)), (1, .int l1_4), (2, .int l2_4)] []) := by
    intro l1_4 l2_4 h
    unfold f8_countMarks_j4 at h
    refine loop_gen (S := Int32 × Int32) (P := fun s_4 => J X K 3 False QQ 0 0 2017 (jw K σ) 4 [(0, .ref (K.2.2 + a0)), (1, .int s_4.1), (2, .int s_4.2)] []) ?_ FU (l1_4, l2_4) (Ok.ofbnd h)
    intro B_4 hB_4 hE_4 s_4 h
    obtain ⟨l1_4, l2_4⟩ := s_4
    have h : Ok (f8_countMarks_b4 a0 σ l1_4 l2_4) B_4 := h
    change J X K 3 False QQ 0 0 2017 (jw K σ) 4 [(0, .ref (K.2.2 + a0)), (1, .int l1_4), (2, .int l2_4)] []
    have hj_26 : (∀ (l2_26 : Int32) (s0_26 : Int32) (s1_26 : Int32), Ok (f8_countMarks_j26 a0 σ l2_26 s0_26 s1_26) B_4 → J X K 3 False QQ 0 0 2017 (jw K σ) 26 [(0, .ref (K.2.2 + a0)), (2, .int l2_26)] [.int s1_26, .int s0_26]) := by
      intro l2_26 s0_26 s1_26 h
      unfold f8_countMarks_j26 at h
      refine J_iadd C dX8_countMarks_26 rfl ?_
      obtain ⟨x1_1, e_x1_1, h⟩ := Ok.nm h
      refine J_istoreE_n (i := 1) (lv' := [(1, .int x1_1), (0, .ref (K.2.2 + a0)), (2, .int l2_26)]) C e_x1_1 dX8_countMarks_27 rfl (Nat.le_of_ble_eq_true rfl) rfl rfl ?_
      obtain ⟨x2_2, e_x2_2, h⟩ := Ok.nm h
      refine J_iincE (i := 2) (p := 2) (lv' := [(2, .int x2_2), (1, .int x1_1), (0, .ref (K.2.2 + a0))]) C e_x2_2 dX8_countMarks_28 rfl (by decide) (Nat.le_of_ble_eq_true rfl) rfl rfl ?_
      refine J_goto (t := 4) C dX8_countMarks_31 (by decide) ?_
      refine J.sub [2, 1, 0] rfl ?_
      exact hB_4 (x1_1, x2_2) h.osome
    unfold f8_countMarks_b4 at h
    refine J_iload_n (i := 2) (p := 2) C dX8_countMarks_4 rfl rfl rfl ?_
    refine J_bipush (v := 16) C (by decide) dX8_countMarks_5 rfl ?_
    refine J_icmp_ge (t := 34) C dX8_countMarks_7 (by decide) rfl (fun c_1 => ?_) (fun c_1 => ?_)
    · have h := h.pos c_1
      have h := hE_4 l1_4 h.osome
      try dsimp only at h
      refine J_iload_n (i := 1) (p := 1) C dX8_countMarks_34 rfl rfl rfl ?_
      rw [← hQQ]
      exact J_iret C hret (Nat.le_of_ble_eq_true rfl) (Nat.le_of_ble_eq_true rfl) ⟨_, h.osome, rfl, rfl, rfl⟩ dX8_countMarks_35
    · have h := h.neg c_1
      refine J_iload_n (i := 1) (p := 1) C dX8_countMarks_10 rfl rfl rfl ?_
      refine J_aload_n (i := 0) (p := 0) C dX8_countMarks_11 rfl rfl rfl ?_
      refine Jc_getS (o2 := 5) (r2 := a0 + 5) C fp_RX8_36 rfl h_a0 rfl dX8_countMarks_12 rfl ?_
      refine J_iload_n (i := 2) (p := 2) C dX8_countMarks_15 rfl rfl rfl ?_
      obtain ⟨g_2, h⟩ := Ok.ofgd h
      refine Jc_iald C (ks_8_7 h_a0) (ls_8_7 h_a0) g_2 dX8_countMarks_16 rfl ?_
      refine J_iconst (v := -1) C (by decide) dX8_countMarks_17 rfl ?_
      refine J_icmp_eq (t := 25) C dX8_countMarks_18 (by decide) rfl (fun c_3 => ?_) (fun c_3 => ?_)
      · have h := h.pos c_3
        refine J_iconst (v := 0) C (by decide) dX8_countMarks_25 rfl ?_
        refine J.sub [0, 2] rfl ?_
        exact hj_26 l2_4 l1_4 (0 : Int32) h
      · have h := h.neg c_3
        refine J_iconst (v := 1) C (by decide) dX8_countMarks_21 rfl ?_
        refine J_goto (t := 26) C dX8_countMarks_22 (by decide) ?_
        refine J.sub [0, 2] rfl ?_
        exact hj_26 l2_4 l1_4 (1 : Int32) h
  unfold f8_countMarks at h
  refine J_iconst (v := 0) C (by decide) dX8_countMarks_0 rfl ?_
  obtain ⟨x1_3, e_x1_3, h⟩ := Ok.nm h
  refine J_istoreE_n (i := 1) (lv' := [(1, .int x1_3), (0, .ref (K.2.2 + a0))]) C e_x1_3 dX8_countMarks_1 rfl (Nat.le_of_ble_eq_true rfl) rfl rfl ?_
  refine J_iconst (v := 0) C (by decide) dX8_countMarks_2 rfl ?_
  obtain ⟨x2_4, e_x2_4, h⟩ := Ok.nm h
  refine J_istoreE_n (i := 2) (lv' := [(2, .int x2_4), (1, .int x1_3), (0, .ref (K.2.2 + a0))]) C e_x2_4 dX8_countMarks_3 rfl (Nat.le_of_ble_eq_true rfl) rfl rfl ?_
  refine J.sub [2, 1, 0] rfl ?_
  exact hj_4 x1_3 x2_4 h
def f8_countWords_j40 (a0 : Nat) (σ : Sto) (l3_40 : Int32) (l4_40 : Int32) (s0_40 : Int32) (s1_40 : Int32) : Option ((Int32 × Int32 × Int32) ⊕ Int32) :=
  stp (s0_40 + s1_40) fun x1_1 =>
  stp l4_40 fun x2_2 =>
  stp (l3_40 + (1 : Int32)) fun x3_3 =>
  some (.inl (x1_1, x2_2, x3_3))
def f8_countWords_j39 (a0 : Nat) (σ : Sto) (l3_39 : Int32) (l4_39 : Int32) (s0_39 : Int32) : Option ((Int32 × Int32 × Int32) ⊕ Int32) :=
  f8_countWords_j40 a0 σ l3_39 l4_39 s0_39 (0 : Int32)
def f8_countWords_b6 (a0 : Nat) (σ : Sto) (l1_6 : Int32) (l2_6 : Int32) (l3_6 : Int32) : Option ((Int32 × Int32 × Int32) ⊕ Int32) :=
  if (fI σ a0 1) ≤ l3_6 then
    some (.inr l1_6)
  else
    gd (okr (fR σ a0 0) 13) <|
    gd (inb l3_6 (ln ((fR σ a0 0) - 1))) <|
    bnd (f11_isOfWord (aI σ ((fR σ a0 0) - 1) (Int32.toNatClampNeg l3_6))) fun p_4 =>
    stp p_4 fun x4_4 =>
    if x4_4 = 0 then
      f8_countWords_j39 a0 σ l3_6 x4_4 l1_6
    else
      if l2_6 = 0 then
        f8_countWords_j40 a0 σ l3_6 x4_4 l1_6 (1 : Int32)
      else
        f8_countWords_j39 a0 σ l3_6 x4_4 l1_6
def f8_countWords_j6 (a0 : Nat) (σ : Sto) (l1_6 : Int32) (l2_6 : Int32) (l3_6 : Int32) : Option (Int32) :=
  bnd (loopF (fun s_6 => f8_countWords_b6 a0 σ s_6.1 s_6.2.1 s_6.2.2) FU (l1_6, l2_6, l3_6)) fun r_6 =>
    some r_6
def f8_countWords (σ : Sto) (a0 : Nat) : Option (Int32) :=
  stp (0 : Int32) fun x1_5 =>
  stp (0 : Int32) fun x2_6 =>
  stp (0 : Int32) fun x3_7 =>
  f8_countWords_j6 a0 σ x1_5 x2_6 x3_7
set_option maxHeartbeats 4000000 in
set_option maxRecDepth 100000 in
theorem k8_countWords {l : Launch} {K : JK} (hl : l.stackTraces = false) {σ : Sto} {a0 : Nat} (h_a0 : kc a0 = 8) {Qf : Int32 → Prop} (h : Ok (f8_countWords σ a0) Qf) : Con l K yX8_countWords (.code yX8_countWords cX8_countWords 5 (some .int) :: TB) 1 0 0 False [.ref (K.2.2 + a0)] 2017 (jw K σ) (PR Qf (fun p => some (.int p)) (fun p => jw K σ)) PN := by
  refine Con.enter (own := RX8) hl (by decide) rfl (Nat.le_of_ble_eq_true rfl) ?_
  intro X hX hR C hret hnt
  generalize hQQ : jQ X K 0 0 (PR Qf (fun p => some (.int p)) (fun p => jw K σ)) PN False = QQ
  change J X K 5 False QQ 0 0 2017 (jw K σ) 0 [(0, .ref (K.2.2 + a0))] []
  have hj_6 : (∀ (l1_6 : Int32) (l2_6 : Int32) (l3_6 : Int32), Ok (f8_countWords_j6 a0 σ l1_6 l2_6 l3_6) Qf → J X K 5 False QQ 0 0 2017 (jw K σ) 6 [(0, .ref (K.2.2 + a0)), (1, .int l1_6), (2, .int l2_6), (3, .int l3_6)] []) := by
    intro l1_6 l2_6 l3_6 h
    unfold f8_countWords_j6 at h
    refine loop_gen (S := Int32 × Int32 × Int32) (P := fun s_6 => J X K 5 False QQ 0 0 2017 (jw K σ) 6 [(0, .ref (K.2.2 + a0)), (1, .int s_6.1), (2, .int s_6.2.1), (3, .int s_6.2.2)] []) ?_ FU (l1_6, l2_6, l3_6) (Ok.ofbnd h)
    intro B_6 hB_6 hE_6 s_6 h
    obtain ⟨l1_6, l2_6, l3_6⟩ := s_6
    have h : Ok (f8_countWords_b6 a0 σ l1_6 l2_6 l3_6) B_6 := h
    change J X K 5 False QQ 0 0 2017 (jw K σ) 6 [(0, .ref (K.2.2 + a0)), (1, .int l1_6), (2, .int l2_6), (3, .int l3_6)] []
    have hj_40 : (∀ (l3_40 : Int32) (l4_40 : Int32) (s0_40 : Int32) (s1_40 : Int32), Ok (f8_countWords_j40 a0 σ l3_40 l4_40 s0_40 s1_40) B_6 → J X K 5 False QQ 0 0 2017 (jw K σ) 40 [(0, .ref (K.2.2 + a0)), (3, .int l3_40), (4, .int l4_40)] [.int s1_40, .int s0_40]) := by
      intro l3_40 l4_40 s0_40 s1_40 h
      unfold f8_countWords_j40 at h
      refine J_iadd C dX8_countWords_40 rfl ?_
      obtain ⟨x1_1, e_x1_1, h⟩ := Ok.nm h
      refine J_istoreE_n (i := 1) (lv' := [(1, .int x1_1), (0, .ref (K.2.2 + a0)), (3, .int l3_40), (4, .int l4_40)]) C e_x1_1 dX8_countWords_41 rfl (Nat.le_of_ble_eq_true rfl) rfl rfl ?_
      refine J_iload (i := 4) (p := 3) C dX8_countWords_42 rfl rfl ?_
      obtain ⟨x2_2, e_x2_2, h⟩ := Ok.nm h
      refine J_istoreE_n (i := 2) (lv' := [(2, .int x2_2), (1, .int x1_1), (0, .ref (K.2.2 + a0)), (3, .int l3_40), (4, .int l4_40)]) C e_x2_2 dX8_countWords_44 rfl (Nat.le_of_ble_eq_true rfl) rfl rfl ?_
      obtain ⟨x3_3, e_x3_3, h⟩ := Ok.nm h
      refine J_iincE (i := 3) (p := 3) (lv' := [(3, .int x3_3), (2, .int x2_2), (1, .int x1_1), (0, .ref (K.2.2 + a0)), (4, .int l4_40)]) C e_x3_3 dX8_countWords_45 rfl (by decide) (Nat.le_of_ble_eq_true rfl) rfl rfl ?_
      refine J_goto (t := 6) C dX8_countWords_48 (by decide) ?_
      refine J.sub [3, 2, 1, 0] rfl ?_
      exact hB_6 (x1_1, x2_2, x3_3) h.osome
    have hj_39 : (∀ (l3_39 : Int32) (l4_39 : Int32) (s0_39 : Int32), Ok (f8_countWords_j39 a0 σ l3_39 l4_39 s0_39) B_6 → J X K 5 False QQ 0 0 2017 (jw K σ) 39 [(0, .ref (K.2.2 + a0)), (3, .int l3_39), (4, .int l4_39)] [.int s0_39]) := by
      intro l3_39 l4_39 s0_39 h
      unfold f8_countWords_j39 at h
      refine J_iconst (v := 0) C (by decide) dX8_countWords_39 rfl ?_
      exact hj_40 l3_39 l4_39 s0_39 (0 : Int32) h
    unfold f8_countWords_b6 at h
    refine J_iload_n (i := 3) (p := 3) C dX8_countWords_6 rfl rfl rfl ?_
    refine J_aload_n (i := 0) (p := 0) C dX8_countWords_7 rfl rfl rfl ?_
    refine Jc_getI C fp_RX8_15 h_a0 rfl dX8_countWords_8 rfl ?_
    refine J_icmp_ge (t := 51) C dX8_countWords_11 (by decide) rfl (fun c_1 => ?_) (fun c_1 => ?_)
    · have h := h.pos c_1
      have h := hE_6 l1_6 h.osome
      try dsimp only at h
      refine J_iload_n (i := 1) (p := 1) C dX8_countWords_51 rfl rfl rfl ?_
      rw [← hQQ]
      exact J_iret C hret (Nat.le_of_ble_eq_true rfl) (Nat.le_of_ble_eq_true rfl) ⟨_, h.osome, rfl, rfl, rfl⟩ dX8_countWords_52
    · have h := h.neg c_1
      refine J_aload_n (i := 0) (p := 0) C dX8_countWords_14 rfl rfl rfl ?_
      refine Jc_getD C fp_RX8_9 h_a0 rfl dX8_countWords_15 rfl ?_
      refine J_iload_n (i := 3) (p := 3) C dX8_countWords_18 rfl rfl rfl ?_
      obtain ⟨g_2, h⟩ := Ok.ofgd h
      rw [jv_pos (r := fR σ a0 0) (okr_spec g_2).1]
      obtain ⟨g_3, h⟩ := Ok.ofgd h
      refine Jc_bald C (okr_spec g_2).2 rfl g_3 dX8_countWords_19 rfl ?_
      refine J_cSN (rest := []) (st9 := fun p_4 => [.int p_4]) C hR hX cn_RX8_73 (k11_isOfWord hl  (Ok.ofbnd h)) rfl rfl (Nat.le_of_ble_eq_true rfl) (Nat.le_of_ble_eq_true rfl) (Nat.le_of_ble_eq_true rfl) ⟨(Nat.le_of_ble_eq_true rfl), (Nat.le_of_ble_eq_true rfl)⟩ dX8_countWords_20 rfl (fun E n9 w9 hx => JT_n hx) (fun _ => rfl) (fun p_4 h => ?_)
      have h : Ok _ _ := h
      change J X K 5 False QQ 0 0 2017 (jw K σ) 23 [(0, .ref (K.2.2 + a0)), (1, .int l1_6), (2, .int l2_6), (3, .int l3_6)] [.int p_4]
      obtain ⟨x4_4, e_x4_4, h⟩ := Ok.nm h
      refine J_istoreE (i := 4) (lv' := [(4, .int x4_4), (0, .ref (K.2.2 + a0)), (1, .int l1_6), (2, .int l2_6), (3, .int l3_6)]) C e_x4_4 dX8_countWords_23 (Nat.le_of_ble_eq_true rfl) rfl rfl ?_
      refine J_iload_n (i := 1) (p := 2) C dX8_countWords_25 rfl rfl rfl ?_
      refine J_iload (i := 4) (p := 0) C dX8_countWords_26 rfl rfl ?_
      refine J_if_eq (t := 39) C dX8_countWords_28 (by decide) rfl (fun c_5 => ?_) (fun c_5 => ?_)
      · have h := h.pos c_5
        refine J.sub [1, 4, 0] rfl ?_
        exact hj_39 l3_6 x4_4 l1_6 h
      · have h := h.neg c_5
        refine J_iload_n (i := 2) (p := 3) C dX8_countWords_31 rfl rfl rfl ?_
        refine J_if_ne (t := 39) C dX8_countWords_32 (by decide) rfl (fun c_6 => ?_) (fun c_6 => ?_)
        · have h := h.neg c_6
          refine J.sub [1, 4, 0] rfl ?_
          exact hj_39 l3_6 x4_4 l1_6 h
        · have h := h.pos (Decidable.not_not.mp c_6)
          refine J_iconst (v := 1) C (by decide) dX8_countWords_35 rfl ?_
          refine J_goto (t := 40) C dX8_countWords_36 (by decide) ?_
          refine J.sub [1, 4, 0] rfl ?_
          exact hj_40 l3_6 x4_4 l1_6 (1 : Int32) h
  unfold f8_countWords at h
  refine J_iconst (v := 0) C (by decide) dX8_countWords_0 rfl ?_
  obtain ⟨x1_5, e_x1_5, h⟩ := Ok.nm h
  refine J_istoreE_n (i := 1) (lv' := [(1, .int x1_5), (0, .ref (K.2.2 + a0))]) C e_x1_5 dX8_countWords_1 rfl (Nat.le_of_ble_eq_true rfl) rfl rfl ?_
  refine J_iconst (v := 0) C (by decide) dX8_countWords_2 rfl ?_
  obtain ⟨x2_6, e_x2_6, h⟩ := Ok.nm h
  refine J_istoreE_n (i := 2) (lv' := [(2, .int x2_6), (1, .int x1_5), (0, .ref (K.2.2 + a0))]) C e_x2_6 dX8_countWords_3 rfl (Nat.le_of_ble_eq_true rfl) rfl rfl ?_
  refine J_iconst (v := 0) C (by decide) dX8_countWords_4 rfl ?_
  obtain ⟨x3_7, e_x3_7, h⟩ := Ok.nm h
  refine J_istoreE_n (i := 3) (lv' := [(3, .int x3_7), (2, .int x2_6), (1, .int x1_5), (0, .ref (K.2.2 + a0))]) C e_x3_7 dX8_countWords_5 rfl (Nat.le_of_ble_eq_true rfl) rfl rfl ?_
  refine J.sub [3, 2, 1, 0] rfl ?_
  exact hj_6 x1_5 x2_6 x3_7 h
def f11_count (σ : Sto) (l1 : Int32) : Option ((Int32 × Sto) ⊕ (Nat × Sto)) :=
  if Int32.toInt l1 = 0 then
    some (.inl (fI σ 1 1, σ))
  else if Int32.toInt l1 = 1 then
    some (.inl (fI σ 1 4, σ))
  else if Int32.toInt l1 = 2 then
    some (.inl (fI σ 1 6, σ))
  else if Int32.toInt l1 = 3 then
    bnd (f8_countMarks σ 1) fun p_5 =>
    some (.inl (p_5, σ))
  else if Int32.toInt l1 = 4 then
    bnd (f8_countHidden σ 1) fun p_7 =>
    some (.inl (p_7, σ))
  else if Int32.toInt l1 = 5 then
    some (.inl (fI σ 8 1, σ))
  else if Int32.toInt l1 = 6 then
    some (.inl (fI σ 11 1, σ))
  else if Int32.toInt l1 = 7 then
    bnd (f8_countWords σ 1) fun p_11 =>
    some (.inl (p_11, σ))
  else
    some (.inr (2, σ))
set_option maxHeartbeats 4000000 in
set_option maxRecDepth 100000 in
theorem k11_count {l : Launch} {K : JK} (hl : l.stackTraces = false) {σ : Sto} {l1 : Int32}  {Qf : (Int32 × Sto) ⊕ (Nat × Sto) → Prop} (h : Ok (f11_count σ l1) Qf) : Con l K yX11_count (.code yX11_count cX11_count 2 (some .int) :: TB) 6 1 6 False [.ref (K.2.2 + 0), .int l1] 2017 (jw K σ) (PR (fun p => Qf (.inl p)) (fun p => some (.int p.1)) (fun p => jw K p.2)) (PX Qf (fun s => jw K s)) := by
  refine Con.enter (own := RX11) hl (by decide) rfl (Nat.le_of_ble_eq_true rfl) ?_
  intro X hX hR C hret hnt
  generalize hQQ : jQ X K 1 6 (PR (fun p => Qf (.inl p)) (fun p => some (.int p.1)) (fun p => jw K p.2)) (PX Qf (fun s => jw K s)) False = QQ
  change J X K 2 False QQ 0 0 2017 (jw K σ) 0 [(0, .ref (K.2.2 + 0)), (1, .int l1)] []
  unfold f11_count at h
  refine J_iload_n (i := 1) (p := 1) C dX11_count_0 rfl rfl rfl ?_
  by_cases c_1 : Int32.toInt l1 = 0
  · have h := h.pos c_1
    refine J_tab (t := 48) C 0 c_1 dX11_count_1 (by decide) (by decide) rfl (by decide) ?_
    refine J_aload_n (i := 0) (p := 0) C dX11_count_48 rfl rfl rfl ?_
    refine Jc_getS (o2 := 1) (r2 := 1) C fp_RX11_10 rfl rfl rfl dX11_count_49 rfl ?_
    refine Jc_getI C fp_RX11_144 rfl rfl dX11_count_52 rfl ?_
    rw [← hQQ]
    exact J_iret C hret (Nat.le_of_ble_eq_true rfl) (Nat.le_of_ble_eq_true rfl) ⟨_, h.osome, rfl, rfl, rfl⟩ dX11_count_55
  · have h := h.neg c_1
    by_cases c_2 : Int32.toInt l1 = 1
    · have h := h.pos c_2
      refine J_tab (t := 56) C 1 c_2 dX11_count_1 (by decide) (by decide) rfl (by decide) ?_
      refine J_aload_n (i := 0) (p := 0) C dX11_count_56 rfl rfl rfl ?_
      refine Jc_getS (o2 := 1) (r2 := 1) C fp_RX11_10 rfl rfl rfl dX11_count_57 rfl ?_
      refine Jc_getI C fp_RX11_116 rfl rfl dX11_count_60 rfl ?_
      rw [← hQQ]
      exact J_iret C hret (Nat.le_of_ble_eq_true rfl) (Nat.le_of_ble_eq_true rfl) ⟨_, h.osome, rfl, rfl, rfl⟩ dX11_count_63
    · have h := h.neg c_2
      by_cases c_3 : Int32.toInt l1 = 2
      · have h := h.pos c_3
        refine J_tab (t := 64) C 2 c_3 dX11_count_1 (by decide) (by decide) rfl (by decide) ?_
        refine J_aload_n (i := 0) (p := 0) C dX11_count_64 rfl rfl rfl ?_
        refine Jc_getS (o2 := 1) (r2 := 1) C fp_RX11_10 rfl rfl rfl dX11_count_65 rfl ?_
        refine Jc_getI C fp_RX11_267 rfl rfl dX11_count_68 rfl ?_
        rw [← hQQ]
        exact J_iret C hret (Nat.le_of_ble_eq_true rfl) (Nat.le_of_ble_eq_true rfl) ⟨_, h.osome, rfl, rfl, rfl⟩ dX11_count_71
      · have h := h.neg c_3
        by_cases c_5 : Int32.toInt l1 = 3
        · have h := h.pos c_5
          refine J_tab (t := 72) C 3 c_5 dX11_count_1 (by decide) (by decide) rfl (by decide) ?_
          refine J_aload_n (i := 0) (p := 0) C dX11_count_72 rfl rfl rfl ?_
          refine Jc_getS (o2 := 1) (r2 := 1) C fp_RX11_10 rfl rfl rfl dX11_count_73 rfl ?_
          refine Jc_cV (rest := []) (st9 := fun p_5 => [.int p_5]) C hR hX cv_RX11_355 rfl (Nat.le_of_ble_eq_true rfl) (k8_countMarks hl rfl (Ok.ofbnd h)) rfl rfl (Nat.le_of_ble_eq_true rfl) (Nat.le_of_ble_eq_true rfl) (Nat.le_of_ble_eq_true rfl) ⟨(Nat.le_of_ble_eq_true rfl), (Nat.le_of_ble_eq_true rfl)⟩ dX11_count_76 rfl (fun E n9 w9 hx => JT_n hx) (fun _ => rfl) (fun p_5 h => ?_)
          have h : Ok _ _ := h
          change J X K 2 False QQ 0 0 2017 (jw K σ) 79 [(0, .ref (K.2.2 + 0)), (1, .int l1)] [.int p_5]
          rw [← hQQ]
          exact J_iret C hret (Nat.le_of_ble_eq_true rfl) (Nat.le_of_ble_eq_true rfl) ⟨_, h.osome, rfl, rfl, rfl⟩ dX11_count_79
        · have h := h.neg c_5
          by_cases c_7 : Int32.toInt l1 = 4
          · have h := h.pos c_7
            refine J_tab (t := 80) C 4 c_7 dX11_count_1 (by decide) (by decide) rfl (by decide) ?_
            refine J_aload_n (i := 0) (p := 0) C dX11_count_80 rfl rfl rfl ?_
            refine Jc_getS (o2 := 1) (r2 := 1) C fp_RX11_10 rfl rfl rfl dX11_count_81 rfl ?_
            refine Jc_cV (rest := []) (st9 := fun p_7 => [.int p_7]) C hR hX cv_RX11_327 rfl (Nat.le_of_ble_eq_true rfl) (k8_countHidden hl rfl (Ok.ofbnd h)) rfl rfl (Nat.le_of_ble_eq_true rfl) (Nat.le_of_ble_eq_true rfl) (Nat.le_of_ble_eq_true rfl) ⟨(Nat.le_of_ble_eq_true rfl), (Nat.le_of_ble_eq_true rfl)⟩ dX11_count_84 rfl (fun E n9 w9 hx => JT_n hx) (fun _ => rfl) (fun p_7 h => ?_)
            have h : Ok _ _ := h
            change J X K 2 False QQ 0 0 2017 (jw K σ) 87 [(0, .ref (K.2.2 + 0)), (1, .int l1)] [.int p_7]
            rw [← hQQ]
            exact J_iret C hret (Nat.le_of_ble_eq_true rfl) (Nat.le_of_ble_eq_true rfl) ⟨_, h.osome, rfl, rfl, rfl⟩ dX11_count_87
          · have h := h.neg c_7
            by_cases c_8 : Int32.toInt l1 = 5
            · have h := h.pos c_8
              refine J_tab (t := 88) C 5 c_8 dX11_count_1 (by decide) (by decide) rfl (by decide) ?_
              refine J_aload_n (i := 0) (p := 0) C dX11_count_88 rfl rfl rfl ?_
              refine Jc_getS (o2 := 8) (r2 := 8) C fp_RX11_21 rfl rfl rfl dX11_count_89 rfl ?_
              refine Jc_getI C fp_RX11_89 rfl rfl dX11_count_92 rfl ?_
              rw [← hQQ]
              exact J_iret C hret (Nat.le_of_ble_eq_true rfl) (Nat.le_of_ble_eq_true rfl) ⟨_, h.osome, rfl, rfl, rfl⟩ dX11_count_95
            · have h := h.neg c_8
              by_cases c_9 : Int32.toInt l1 = 6
              · have h := h.pos c_9
                refine J_tab (t := 96) C 6 c_9 dX11_count_1 (by decide) (by decide) rfl (by decide) ?_
                refine J_aload_n (i := 0) (p := 0) C dX11_count_96 rfl rfl rfl ?_
                refine Jc_getS (o2 := 10) (r2 := 10) C fp_RX11_28 rfl rfl rfl dX11_count_97 rfl ?_
                refine Jc_getS (o2 := 1) (r2 := 11) C fp_RX11_358 rfl rfl rfl dX11_count_100 rfl ?_
                refine Jc_getI C fp_RX11_89 rfl rfl dX11_count_103 rfl ?_
                rw [← hQQ]
                exact J_iret C hret (Nat.le_of_ble_eq_true rfl) (Nat.le_of_ble_eq_true rfl) ⟨_, h.osome, rfl, rfl, rfl⟩ dX11_count_106
              · have h := h.neg c_9
                by_cases c_11 : Int32.toInt l1 = 7
                · have h := h.pos c_11
                  refine J_tab (t := 107) C 7 c_11 dX11_count_1 (by decide) (by decide) rfl (by decide) ?_
                  refine J_aload_n (i := 0) (p := 0) C dX11_count_107 rfl rfl rfl ?_
                  refine Jc_getS (o2 := 1) (r2 := 1) C fp_RX11_10 rfl rfl rfl dX11_count_108 rfl ?_
                  refine Jc_cV (rest := []) (st9 := fun p_11 => [.int p_11]) C hR hX cv_RX11_360 rfl (Nat.le_of_ble_eq_true rfl) (k8_countWords hl rfl (Ok.ofbnd h)) rfl rfl (Nat.le_of_ble_eq_true rfl) (Nat.le_of_ble_eq_true rfl) (Nat.le_of_ble_eq_true rfl) ⟨(Nat.le_of_ble_eq_true rfl), (Nat.le_of_ble_eq_true rfl)⟩ dX11_count_111 rfl (fun E n9 w9 hx => JT_n hx) (fun _ => rfl) (fun p_11 h => ?_)
                  have h : Ok _ _ := h
                  change J X K 2 False QQ 0 0 2017 (jw K σ) 114 [(0, .ref (K.2.2 + 0)), (1, .int l1)] [.int p_11]
                  rw [← hQQ]
                  exact J_iret C hret (Nat.le_of_ble_eq_true rfl) (Nat.le_of_ble_eq_true rfl) ⟨_, h.osome, rfl, rfl, rfl⟩ dX11_count_114
                · have h := h.neg c_11
                  refine J_tabO (t := 115) C dX11_count_1 (by omega) (by decide) ?_
                  rw [← hQQ]
                  exact J_throwW (is := 262) (text := "what is out of range") C hnt th_82 (by decide +kernel) dX11_count_115 dX11_count_118 dX11_count_119 dX11_count_122 dX11_count_125 (by rw [hR]; exact (Nat.le_of_ble_eq_true rfl)) (by rw [hR]; exact (Nat.le_of_ble_eq_true rfl)) (by rw [hR]; exact (Nat.le_of_ble_eq_true rfl)) (by rw [hR]; exact (Nat.le_of_ble_eq_true rfl)) (Nat.le_of_ble_eq_true rfl) (Nat.le_of_ble_eq_true rfl) ⟨2, σ, h.osome, rfl, rfl, rfl⟩
def f11_letterAt_j15 (l1 : Int32) (σ_15 : Sto) : Option ((Int32 × Sto) ⊕ (Nat × Sto)) :=
  some (.inr (1, σ_15))
def f11_letterAt (σ : Sto) (l1 : Int32) : Option ((Int32 × Sto) ⊕ (Nat × Sto)) :=
  if l1 < 0 then
    f11_letterAt_j15 l1 σ
  else
    if l1 < (fI σ 1 1) then
      gd (okr (fR σ 1 0) 13) <|
      gd (inb l1 (ln ((fR σ 1 0) - 1))) <|
      some (.inl (aI σ ((fR σ 1 0) - 1) (Int32.toNatClampNeg l1), σ))
    else
      f11_letterAt_j15 l1 σ
set_option maxHeartbeats 4000000 in
set_option maxRecDepth 100000 in
theorem k11_letterAt {l : Launch} {K : JK} (hl : l.stackTraces = false) {σ : Sto} {l1 : Int32}  {Qf : (Int32 × Sto) ⊕ (Nat × Sto) → Prop} (h : Ok (f11_letterAt σ l1) Qf) : Con l K yX11_letterAt (.code yX11_letterAt cX11_letterAt 2 (some .int) :: TB) 6 1 6 False [.ref (K.2.2 + 0), .int l1] 2017 (jw K σ) (PR (fun p => Qf (.inl p)) (fun p => some (.int p.1)) (fun p => jw K p.2)) (PX Qf (fun s => jw K s)) := by
  refine Con.enter (own := RX11) hl (by decide) rfl (Nat.le_of_ble_eq_true rfl) ?_
  intro X hX hR C hret hnt
  generalize hQQ : jQ X K 1 6 (PR (fun p => Qf (.inl p)) (fun p => some (.int p.1)) (fun p => jw K p.2)) (PX Qf (fun s => jw K s)) False = QQ
  change J X K 2 False QQ 0 0 2017 (jw K σ) 0 [(0, .ref (K.2.2 + 0)), (1, .int l1)] []
  have hj_15 : (∀ (σ_15 : Sto), Ok (f11_letterAt_j15 l1 σ_15) Qf → J X K 2 False QQ 0 0 2017 (jw K σ_15) 15 [] []) := by
    intro σ_15 h
    unfold f11_letterAt_j15 at h
    rw [← hQQ]
    exact J_throwW (is := 363) (text := "there is no such letter") C hnt th_119 (by decide +kernel) dX11_letterAt_15 dX11_letterAt_18 dX11_letterAt_19 dX11_letterAt_22 dX11_letterAt_25 (by rw [hR]; exact (Nat.le_of_ble_eq_true rfl)) (by rw [hR]; exact (Nat.le_of_ble_eq_true rfl)) (by rw [hR]; exact (Nat.le_of_ble_eq_true rfl)) (by rw [hR]; exact (Nat.le_of_ble_eq_true rfl)) (Nat.le_of_ble_eq_true rfl) (Nat.le_of_ble_eq_true rfl) ⟨1, σ_15, h.osome, rfl, rfl, rfl⟩
  unfold f11_letterAt at h
  refine J_iload_n (i := 1) (p := 1) C dX11_letterAt_0 rfl rfl rfl ?_
  refine J_if_lt (t := 15) C dX11_letterAt_1 (by decide) rfl (fun c_1 => ?_) (fun c_1 => ?_)
  · have h := h.pos c_1
    refine J.sub [] rfl ?_
    exact hj_15 σ h
  · have h := h.neg c_1
    refine J_iload_n (i := 1) (p := 1) C dX11_letterAt_4 rfl rfl rfl ?_
    refine J_aload_n (i := 0) (p := 0) C dX11_letterAt_5 rfl rfl rfl ?_
    refine Jc_getS (o2 := 1) (r2 := 1) C fp_RX11_10 rfl rfl rfl dX11_letterAt_6 rfl ?_
    refine Jc_getI C fp_RX11_144 rfl rfl dX11_letterAt_9 rfl ?_
    refine J_icmp_lt (t := 26) C dX11_letterAt_12 (by decide) rfl (fun c_2 => ?_) (fun c_2 => ?_)
    · have h := h.pos c_2
      refine J_aload_n (i := 0) (p := 0) C dX11_letterAt_26 rfl rfl rfl ?_
      refine Jc_getS (o2 := 1) (r2 := 1) C fp_RX11_10 rfl rfl rfl dX11_letterAt_27 rfl ?_
      refine Jc_getD C fp_RX11_104 rfl rfl dX11_letterAt_30 rfl ?_
      refine J_iload_n (i := 1) (p := 1) C dX11_letterAt_33 rfl rfl rfl ?_
      obtain ⟨g_3, h⟩ := Ok.ofgd h
      rw [jv_pos (r := fR σ 1 0) (okr_spec g_3).1]
      obtain ⟨g_4, h⟩ := Ok.ofgd h
      refine Jc_bald C (okr_spec g_3).2 rfl g_4 dX11_letterAt_34 rfl ?_
      rw [← hQQ]
      exact J_iret C hret (Nat.le_of_ble_eq_true rfl) (Nat.le_of_ble_eq_true rfl) ⟨_, h.osome, rfl, rfl, rfl⟩ dX11_letterAt_35
    · have h := h.neg c_2
      refine J.sub [] rfl ?_
      exact hj_15 σ h
def f11_lineOf (σ : Sto) (l1 : Int32) : Option ((Int32 × Sto) ⊕ (Nat × Sto)) :=
  bndX (f11_requirePlace σ l1) fun p_1 =>
  bnd (f8_lineWith p_1 1 l1) fun p_2 =>
  some (.inl (p_2, p_1))
set_option maxHeartbeats 4000000 in
set_option maxRecDepth 100000 in
theorem k11_lineOf {l : Launch} {K : JK} (hl : l.stackTraces = false) {σ : Sto} {l1 : Int32}  {Qf : (Int32 × Sto) ⊕ (Nat × Sto) → Prop} (h : Ok (f11_lineOf σ l1) Qf) : Con l K yX11_lineOf (.code yX11_lineOf cX11_lineOf 2 (some .int) :: TB) 7 1 6 False [.ref (K.2.2 + 0), .int l1] 2017 (jw K σ) (PR (fun p => Qf (.inl p)) (fun p => some (.int p.1)) (fun p => jw K p.2)) (PX Qf (fun s => jw K s)) := by
  refine Con.enter (own := RX11) hl (by decide) rfl (Nat.le_of_ble_eq_true rfl) ?_
  intro X hX hR C hret hnt
  generalize hQQ : jQ X K 1 6 (PR (fun p => Qf (.inl p)) (fun p => some (.int p.1)) (fun p => jw K p.2)) (PX Qf (fun s => jw K s)) False = QQ
  change J X K 2 False QQ 0 0 2017 (jw K σ) 0 [(0, .ref (K.2.2 + 0)), (1, .int l1)] []
  unfold f11_lineOf at h
  refine J_aload_n (i := 0) (p := 0) C dX11_lineOf_0 rfl rfl rfl ?_
  refine J_iload_n (i := 1) (p := 1) C dX11_lineOf_1 rfl rfl rfl ?_
  refine Jc_cV (rest := []) (st9 := fun p_1 => []) C hR hX cv_RX11_264 rfl (Nat.le_of_ble_eq_true rfl) (k11_requirePlace hl  (Ok.ofbndX h)) rfl rfl (Nat.le_of_ble_eq_true rfl) (Nat.le_of_ble_eq_true rfl) (Nat.le_of_ble_eq_true rfl) ⟨(Nat.le_of_ble_eq_true rfl), (Nat.le_of_ble_eq_true rfl)⟩ dX11_lineOf_2 rfl (fun E n9 w9 hx => by rw [← hQQ]; exact JT_x C hnt (Nat.le_of_ble_eq_true rfl) (Nat.le_of_ble_eq_true rfl) (fun c h => h) E n9 w9 hx) (fun _ => rfl) (fun p_1 h => ?_)
  have h : Ok _ _ := h
  change J X K 2 False QQ 1 6 2017 (jw K p_1) 5 [(0, .ref (K.2.2 + 0)), (1, .int l1)] []
  refine J_aload_n (i := 0) (p := 0) C dX11_lineOf_5 rfl rfl rfl ?_
  refine Jc_getS (o2 := 1) (r2 := 1) C fp_RX11_10 rfl rfl rfl dX11_lineOf_6 rfl ?_
  refine J_iload_n (i := 1) (p := 1) C dX11_lineOf_9 rfl rfl rfl ?_
  refine Jc_cV (rest := []) (st9 := fun p_2 => [.int p_2]) C hR hX cv_RX11_365 rfl (Nat.le_of_ble_eq_true rfl) (k8_lineWith hl rfl (Ok.ofbnd h)) rfl rfl (Nat.le_of_ble_eq_true rfl) (Nat.le_of_ble_eq_true rfl) (Nat.le_of_ble_eq_true rfl) ⟨(Nat.le_of_ble_eq_true rfl), (Nat.le_of_ble_eq_true rfl)⟩ dX11_lineOf_10 rfl (fun E n9 w9 hx => JT_n hx) (fun _ => rfl) (fun p_2 h => ?_)
  have h : Ok _ _ := h
  change J X K 2 False QQ 1 6 2017 (jw K p_1) 13 [(0, .ref (K.2.2 + 0)), (1, .int l1)] [.int p_2]
  rw [← hQQ]
  exact J_iret C hret (Nat.le_of_ble_eq_true rfl) (Nat.le_of_ble_eq_true rfl) ⟨_, h.osome, rfl, rfl, rfl⟩ dX11_lineOf_13
def f11_columnOf (σ : Sto) (l1 : Int32) : Option ((Int32 × Sto) ⊕ (Nat × Sto)) :=
  bndX (f11_requirePlace σ l1) fun p_1 =>
  bnd (f8_columnWith p_1 1 l1 (fI p_1 0 10)) fun p_2 =>
  some (.inl (p_2, p_1))
set_option maxHeartbeats 4000000 in
set_option maxRecDepth 100000 in
theorem k11_columnOf {l : Launch} {K : JK} (hl : l.stackTraces = false) {σ : Sto} {l1 : Int32}  {Qf : (Int32 × Sto) ⊕ (Nat × Sto) → Prop} (h : Ok (f11_columnOf σ l1) Qf) : Con l K yX11_columnOf (.code yX11_columnOf cX11_columnOf 2 (some .int) :: TB) 7 1 6 False [.ref (K.2.2 + 0), .int l1] 2017 (jw K σ) (PR (fun p => Qf (.inl p)) (fun p => some (.int p.1)) (fun p => jw K p.2)) (PX Qf (fun s => jw K s)) := by
  refine Con.enter (own := RX11) hl (by decide) rfl (Nat.le_of_ble_eq_true rfl) ?_
  intro X hX hR C hret hnt
  generalize hQQ : jQ X K 1 6 (PR (fun p => Qf (.inl p)) (fun p => some (.int p.1)) (fun p => jw K p.2)) (PX Qf (fun s => jw K s)) False = QQ
  change J X K 2 False QQ 0 0 2017 (jw K σ) 0 [(0, .ref (K.2.2 + 0)), (1, .int l1)] []
  unfold f11_columnOf at h
  refine J_aload_n (i := 0) (p := 0) C dX11_columnOf_0 rfl rfl rfl ?_
  refine J_iload_n (i := 1) (p := 1) C dX11_columnOf_1 rfl rfl rfl ?_
  refine Jc_cV (rest := []) (st9 := fun p_1 => []) C hR hX cv_RX11_264 rfl (Nat.le_of_ble_eq_true rfl) (k11_requirePlace hl  (Ok.ofbndX h)) rfl rfl (Nat.le_of_ble_eq_true rfl) (Nat.le_of_ble_eq_true rfl) (Nat.le_of_ble_eq_true rfl) ⟨(Nat.le_of_ble_eq_true rfl), (Nat.le_of_ble_eq_true rfl)⟩ dX11_columnOf_2 rfl (fun E n9 w9 hx => by rw [← hQQ]; exact JT_x C hnt (Nat.le_of_ble_eq_true rfl) (Nat.le_of_ble_eq_true rfl) (fun c h => h) E n9 w9 hx) (fun _ => rfl) (fun p_1 h => ?_)
  have h : Ok _ _ := h
  change J X K 2 False QQ 1 6 2017 (jw K p_1) 5 [(0, .ref (K.2.2 + 0)), (1, .int l1)] []
  refine J_aload_n (i := 0) (p := 0) C dX11_columnOf_5 rfl rfl rfl ?_
  refine Jc_getS (o2 := 1) (r2 := 1) C fp_RX11_10 rfl rfl rfl dX11_columnOf_6 rfl ?_
  refine J_iload_n (i := 1) (p := 1) C dX11_columnOf_9 rfl rfl rfl ?_
  refine J_aload_n (i := 0) (p := 0) C dX11_columnOf_10 rfl rfl rfl ?_
  refine Jc_getI C fp_RX11_74 rfl rfl dX11_columnOf_11 rfl ?_
  refine Jc_cV (rest := []) (st9 := fun p_2 => [.int p_2]) C hR hX cv_RX11_368 rfl (Nat.le_of_ble_eq_true rfl) (k8_columnWith hl rfl (Ok.ofbnd h)) rfl rfl (Nat.le_of_ble_eq_true rfl) (Nat.le_of_ble_eq_true rfl) (Nat.le_of_ble_eq_true rfl) ⟨(Nat.le_of_ble_eq_true rfl), (Nat.le_of_ble_eq_true rfl)⟩ dX11_columnOf_14 rfl (fun E n9 w9 hx => JT_n hx) (fun _ => rfl) (fun p_2 h => ?_)
  have h : Ok _ _ := h
  change J X K 2 False QQ 1 6 2017 (jw K p_1) 17 [(0, .ref (K.2.2 + 0)), (1, .int l1)] [.int p_2]
  rw [← hQQ]
  exact J_iret C hret (Nat.le_of_ble_eq_true rfl) (Nat.le_of_ble_eq_true rfl) ⟨_, h.osome, rfl, rfl, rfl⟩ dX11_columnOf_17
def f11_placeAt (σ : Sto) (l1 : Int32) (l2 : Int32) : Option ((Int32 × Sto) ⊕ (Nat × Sto)) :=
  bndX (f11_requireLine σ l1) fun p_1 =>
  if 0 ≤ l2 then
    bnd (f8_placeWith p_1 1 l1 l2 (fI p_1 0 10)) fun p_3 =>
    some (.inl (p_3, p_1))
  else
    some (.inr (2, p_1))
set_option maxHeartbeats 4000000 in
set_option maxRecDepth 100000 in
theorem k11_placeAt {l : Launch} {K : JK} (hl : l.stackTraces = false) {σ : Sto} {l1 : Int32} {l2 : Int32}  {Qf : (Int32 × Sto) ⊕ (Nat × Sto) → Prop} (h : Ok (f11_placeAt σ l1 l2) Qf) : Con l K yX11_placeAt (.code yX11_placeAt cX11_placeAt 3 (some .int) :: TB) 7 2 12 False [.ref (K.2.2 + 0), .int l1, .int l2] 2017 (jw K σ) (PR (fun p => Qf (.inl p)) (fun p => some (.int p.1)) (fun p => jw K p.2)) (PX Qf (fun s => jw K s)) := by
  refine Con.enter (own := RX11) hl (by decide) rfl (Nat.le_of_ble_eq_true rfl) ?_
  intro X hX hR C hret hnt
  generalize hQQ : jQ X K 2 12 (PR (fun p => Qf (.inl p)) (fun p => some (.int p.1)) (fun p => jw K p.2)) (PX Qf (fun s => jw K s)) False = QQ
  change J X K 3 False QQ 0 0 2017 (jw K σ) 0 [(0, .ref (K.2.2 + 0)), (1, .int l1), (2, .int l2)] []
  unfold f11_placeAt at h
  refine J_aload_n (i := 0) (p := 0) C dX11_placeAt_0 rfl rfl rfl ?_
  refine J_iload_n (i := 1) (p := 1) C dX11_placeAt_1 rfl rfl rfl ?_
  refine Jc_cV (rest := []) (st9 := fun p_1 => []) C hR hX cv_RX11_112 rfl (Nat.le_of_ble_eq_true rfl) (k11_requireLine hl  (Ok.ofbndX h)) rfl rfl (Nat.le_of_ble_eq_true rfl) (Nat.le_of_ble_eq_true rfl) (Nat.le_of_ble_eq_true rfl) ⟨(Nat.le_of_ble_eq_true rfl), (Nat.le_of_ble_eq_true rfl)⟩ dX11_placeAt_2 rfl (fun E n9 w9 hx => by rw [← hQQ]; exact JT_x C hnt (Nat.le_of_ble_eq_true rfl) (Nat.le_of_ble_eq_true rfl) (fun c h => h) E n9 w9 hx) (fun _ => rfl) (fun p_1 h => ?_)
  have h : Ok _ _ := h
  change J X K 3 False QQ 1 6 2017 (jw K p_1) 5 [(0, .ref (K.2.2 + 0)), (1, .int l1), (2, .int l2)] []
  refine J_iload_n (i := 2) (p := 2) C dX11_placeAt_5 rfl rfl rfl ?_
  refine J_if_ge (t := 20) C dX11_placeAt_6 (by decide) rfl (fun c_2 => ?_) (fun c_2 => ?_)
  · have h := h.pos c_2
    refine J_aload_n (i := 0) (p := 0) C dX11_placeAt_20 rfl rfl rfl ?_
    refine Jc_getS (o2 := 1) (r2 := 1) C fp_RX11_10 rfl rfl rfl dX11_placeAt_21 rfl ?_
    refine J_iload_n (i := 1) (p := 1) C dX11_placeAt_24 rfl rfl rfl ?_
    refine J_iload_n (i := 2) (p := 2) C dX11_placeAt_25 rfl rfl rfl ?_
    refine J_aload_n (i := 0) (p := 0) C dX11_placeAt_26 rfl rfl rfl ?_
    refine Jc_getI C fp_RX11_74 rfl rfl dX11_placeAt_27 rfl ?_
    refine Jc_cV (rest := []) (st9 := fun p_3 => [.int p_3]) C hR hX cv_RX11_373 rfl (Nat.le_of_ble_eq_true rfl) (k8_placeWith hl rfl (Ok.ofbnd h)) rfl rfl (Nat.le_of_ble_eq_true rfl) (Nat.le_of_ble_eq_true rfl) (Nat.le_of_ble_eq_true rfl) ⟨(Nat.le_of_ble_eq_true rfl), (Nat.le_of_ble_eq_true rfl)⟩ dX11_placeAt_30 rfl (fun E n9 w9 hx => JT_n hx) (fun _ => rfl) (fun p_3 h => ?_)
    have h : Ok _ _ := h
    change J X K 3 False QQ 1 6 2017 (jw K p_1) 33 [(0, .ref (K.2.2 + 0)), (1, .int l1), (2, .int l2)] [.int p_3]
    rw [← hQQ]
    exact J_iret C hret (Nat.le_of_ble_eq_true rfl) (Nat.le_of_ble_eq_true rfl) ⟨_, h.osome, rfl, rfl, rfl⟩ dX11_placeAt_33
  · have h := h.neg c_2
    rw [← hQQ]
    exact J_throwW (is := 371) (text := "column is below 0") C hnt th_82 (by decide +kernel) dX11_placeAt_9 dX11_placeAt_12 dX11_placeAt_13 dX11_placeAt_16 dX11_placeAt_19 (by rw [hR]; exact (Nat.le_of_ble_eq_true rfl)) (by rw [hR]; exact (Nat.le_of_ble_eq_true rfl)) (by rw [hR]; exact (Nat.le_of_ble_eq_true rfl)) (by rw [hR]; exact (Nat.le_of_ble_eq_true rfl)) (Nat.le_of_ble_eq_true rfl) (Nat.le_of_ble_eq_true rfl) ⟨2, p_1, h.osome, rfl, rfl, rfl⟩
def f8_become (σ : Sto) (a0 : Nat) (a1 : Nat) : Option (Sto) :=
  gd (okr (fR σ a1 0) 13) <|
  gd (okr (fR σ a0 0) 13) <|
  gd (cpok (0 : Int32) (0 : Int32) (fI σ a1 1) (ln ((fR σ a1 0) - 1)) (ln ((fR σ a0 0) - 1))) <|
  gd (fitB (aI σ ((fR σ a1 0) - 1)) (Int32.toNatClampNeg (0 : Int32)) (Int32.toNatClampNeg (fI σ a1 1))) <|
  stp (rA σ ((fR σ a0 0) - 1) (va_cpy (aI σ ((fR σ a1 0) - 1)) (aI σ ((fR σ a0 0) - 1)) (Int32.toNatClampNeg (0 : Int32)) (Int32.toNatClampNeg (0 : Int32)) (Int32.toNatClampNeg (fI σ a1 1)))) fun σx_1 =>
  gd (okr (fR σx_1 a1 2) 12) <|
  gd (okr (fR σx_1 a0 2) 12) <|
  gd (cpok (0 : Int32) (0 : Int32) (fI σx_1 a1 4) (ln ((fR σx_1 a1 2) - 1)) (ln ((fR σx_1 a0 2) - 1))) <|
  stp (rA σx_1 ((fR σx_1 a0 2) - 1) (va_cpy (aI σx_1 ((fR σx_1 a1 2) - 1)) (aI σx_1 ((fR σx_1 a0 2) - 1)) (Int32.toNatClampNeg (0 : Int32)) (Int32.toNatClampNeg (0 : Int32)) (Int32.toNatClampNeg (fI σx_1 a1 4)))) fun σx_2 =>
  gd (okr (fR σx_2 a1 3) 14) <|
  gd (okr (fR σx_2 a0 3) 14) <|
  gd (cpok (0 : Int32) (0 : Int32) (fI σx_2 a1 4) (ln ((fR σx_2 a1 3) - 1)) (ln ((fR σx_2 a0 3) - 1))) <|
  gd (fitZ (aI σx_2 ((fR σx_2 a1 3) - 1)) (Int32.toNatClampNeg (0 : Int32)) (Int32.toNatClampNeg (fI σx_2 a1 4))) <|
  stp (rA σx_2 ((fR σx_2 a0 3) - 1) (va_cpy (aI σx_2 ((fR σx_2 a1 3) - 1)) (aI σx_2 ((fR σx_2 a0 3) - 1)) (Int32.toNatClampNeg (0 : Int32)) (Int32.toNatClampNeg (0 : Int32)) (Int32.toNatClampNeg (fI σx_2 a1 4)))) fun σx_3 =>
  gd (cpok (0 : Int32) (0 : Int32) (fI σx_3 a1 6) 8 8) <|
  stp (rA σx_3 (a0 + 4) (va_cpy (aI σx_3 (a1 + 4)) (aI σx_3 (a0 + 4)) (Int32.toNatClampNeg (0 : Int32)) (Int32.toNatClampNeg (0 : Int32)) (Int32.toNatClampNeg (fI σx_3 a1 6)))) fun σx_4 =>
  gd (cpok (0 : Int32) (0 : Int32) (16 : Int32) 16 16) <|
  stp (rA σx_4 (a0 + 5) (va_cpy (aI σx_4 (a1 + 5)) (aI σx_4 (a0 + 5)) (Int32.toNatClampNeg (0 : Int32)) (Int32.toNatClampNeg (0 : Int32)) (Int32.toNatClampNeg (16 : Int32)))) fun σx_5 =>
  gd (cpok (0 : Int32) (0 : Int32) (16 : Int32) 16 16) <|
  gd (fitZ (aI σx_5 (a1 + 6)) (Int32.toNatClampNeg (0 : Int32)) (Int32.toNatClampNeg (16 : Int32))) <|
  stp (rA σx_5 (a0 + 6) (va_cpy (aI σx_5 (a1 + 6)) (aI σx_5 (a0 + 6)) (Int32.toNatClampNeg (0 : Int32)) (Int32.toNatClampNeg (0 : Int32)) (Int32.toNatClampNeg (16 : Int32)))) fun σx_6 =>
  stp (uI σx_6 a0 1 (fI σx_6 a1 1)) fun σx_7 =>
  stp (uI σx_7 a0 4 (fI σx_7 a1 4)) fun σx_8 =>
  stp (uI σx_8 a0 6 (fI σx_8 a1 6)) fun σx_9 =>
  some σx_9
set_option maxHeartbeats 4000000 in
set_option maxRecDepth 100000 in
theorem k8_become {l : Launch} {K : JK} (hl : l.stackTraces = false) {σ : Sto} {a0 : Nat} {a1 : Nat} (h_a0 : kc a0 = 8) (h_a1 : kc a1 = 8) {Qf : Sto → Prop} (h : Ok (f8_become σ a0 a1) Qf) : Con l K yX8_become (.code yX8_become cX8_become 2 none :: TB) 1 0 0 False [.ref (K.2.2 + a0), .ref (K.2.2 + a1)] 2017 (jw K σ) (PR Qf (fun p => none) (fun p => jw K p)) PN := by
  refine Con.enter (own := RX8) hl (by decide) rfl (Nat.le_of_ble_eq_true rfl) ?_
  intro X hX hR C hret hnt
  generalize hQQ : jQ X K 0 0 (PR Qf (fun p => none) (fun p => jw K p)) PN False = QQ
  change J X K 2 False QQ 0 0 2017 (jw K σ) 0 [(0, .ref (K.2.2 + a0)), (1, .ref (K.2.2 + a1))] []
  unfold f8_become at h
  refine J_aload_n (i := 1) (p := 1) C dX8_become_0 rfl rfl rfl ?_
  refine Jc_getD C fp_RX8_9 h_a1 rfl dX8_become_1 rfl ?_
  refine J_iconst (v := 0) C (by decide) dX8_become_4 rfl ?_
  refine J_aload_n (i := 0) (p := 0) C dX8_become_5 rfl rfl rfl ?_
  refine Jc_getD C fp_RX8_9 h_a0 rfl dX8_become_6 rfl ?_
  refine J_iconst (v := 0) C (by decide) dX8_become_9 rfl ?_
  refine J_aload_n (i := 1) (p := 1) C dX8_become_10 rfl rfl rfl ?_
  refine Jc_getI C fp_RX8_15 h_a1 rfl dX8_become_11 rfl ?_
  obtain ⟨g_1, h⟩ := Ok.ofgd h
  rw [jv_pos (r := fR σ a1 0) (okr_spec g_1).1]
  obtain ⟨g_2, h⟩ := Ok.ofgd h
  rw [jv_pos (r := fR σ a0 0) (okr_spec g_2).1]
  obtain ⟨g_3, h⟩ := Ok.ofgd h
  obtain ⟨g_4, h⟩ := Ok.ofgd h
  obtain ⟨σx_1, e_σx_1, h⟩ := Ok.nm h
  refine Jc_copyB C id ac_RX8_42 ac_nat ac_st ac_ini (okr_spec g_1).2 (okr_spec g_2).2 rfl rfl g_3 e_σx_1 (fitB_spec g_4) (by rw [hR]; exact (Nat.le_of_ble_eq_true rfl)) (by rw [hR]; exact (Nat.le_of_ble_eq_true rfl)) dX8_become_14 rfl ?_
  refine J_aload_n (i := 1) (p := 1) C dX8_become_17 rfl rfl rfl ?_
  refine Jc_getD C fp_RX8_19 h_a1 rfl dX8_become_18 rfl ?_
  refine J_iconst (v := 0) C (by decide) dX8_become_21 rfl ?_
  refine J_aload_n (i := 0) (p := 0) C dX8_become_22 rfl rfl rfl ?_
  refine Jc_getD C fp_RX8_19 h_a0 rfl dX8_become_23 rfl ?_
  refine J_iconst (v := 0) C (by decide) dX8_become_26 rfl ?_
  refine J_aload_n (i := 1) (p := 1) C dX8_become_27 rfl rfl rfl ?_
  refine Jc_getI C fp_RX8_27 h_a1 rfl dX8_become_28 rfl ?_
  obtain ⟨g_5, h⟩ := Ok.ofgd h
  rw [jv_pos (r := fR σx_1 a1 2) (okr_spec g_5).1]
  obtain ⟨g_6, h⟩ := Ok.ofgd h
  rw [jv_pos (r := fR σx_1 a0 2) (okr_spec g_6).1]
  obtain ⟨g_7, h⟩ := Ok.ofgd h
  obtain ⟨σx_2, e_σx_2, h⟩ := Ok.nm h
  refine Jc_copyI C id ac_RX8_42 ac_nat ac_st ac_ini (okr_spec g_5).2 (okr_spec g_6).2 rfl rfl g_7 e_σx_2 (fun _ _ => rfl) (by rw [hR]; exact (Nat.le_of_ble_eq_true rfl)) (by rw [hR]; exact (Nat.le_of_ble_eq_true rfl)) dX8_become_31 rfl ?_
  refine J_aload_n (i := 1) (p := 1) C dX8_become_34 rfl rfl rfl ?_
  refine Jc_getD C fp_RX8_23 h_a1 rfl dX8_become_35 rfl ?_
  refine J_iconst (v := 0) C (by decide) dX8_become_38 rfl ?_
  refine J_aload_n (i := 0) (p := 0) C dX8_become_39 rfl rfl rfl ?_
  refine Jc_getD C fp_RX8_23 h_a0 rfl dX8_become_40 rfl ?_
  refine J_iconst (v := 0) C (by decide) dX8_become_43 rfl ?_
  refine J_aload_n (i := 1) (p := 1) C dX8_become_44 rfl rfl rfl ?_
  refine Jc_getI C fp_RX8_27 h_a1 rfl dX8_become_45 rfl ?_
  obtain ⟨g_8, h⟩ := Ok.ofgd h
  rw [jv_pos (r := fR σx_2 a1 3) (okr_spec g_8).1]
  obtain ⟨g_9, h⟩ := Ok.ofgd h
  rw [jv_pos (r := fR σx_2 a0 3) (okr_spec g_9).1]
  obtain ⟨g_10, h⟩ := Ok.ofgd h
  obtain ⟨g_11, h⟩ := Ok.ofgd h
  obtain ⟨σx_3, e_σx_3, h⟩ := Ok.nm h
  refine Jc_copyZ C id ac_RX8_42 ac_nat ac_st ac_ini (okr_spec g_8).2 (okr_spec g_9).2 rfl rfl g_10 e_σx_3 (fitZ_spec g_11) (by rw [hR]; exact (Nat.le_of_ble_eq_true rfl)) (by rw [hR]; exact (Nat.le_of_ble_eq_true rfl)) dX8_become_48 rfl ?_
  refine J_aload_n (i := 1) (p := 1) C dX8_become_51 rfl rfl rfl ?_
  refine Jc_getS (o2 := 4) (r2 := a1 + 4) C fp_RX8_30 rfl h_a1 rfl dX8_become_52 rfl ?_
  refine J_iconst (v := 0) C (by decide) dX8_become_55 rfl ?_
  refine J_aload_n (i := 0) (p := 0) C dX8_become_56 rfl rfl rfl ?_
  refine Jc_getS (o2 := 4) (r2 := a0 + 4) C fp_RX8_30 rfl h_a0 rfl dX8_become_57 rfl ?_
  refine J_iconst (v := 0) C (by decide) dX8_become_60 rfl ?_
  refine J_aload_n (i := 1) (p := 1) C dX8_become_61 rfl rfl rfl ?_
  refine Jc_getI C fp_RX8_33 h_a1 rfl dX8_become_62 rfl ?_
  obtain ⟨g_12, h⟩ := Ok.ofgd h
  obtain ⟨σx_4, e_σx_4, h⟩ := Ok.nm h
  refine Jc_copyI C id ac_RX8_42 ac_nat ac_st ac_ini (ks_8_5 h_a1) (ks_8_5 h_a0) (ls_8_5 h_a1) (ls_8_5 h_a0) g_12 e_σx_4 (fun _ _ => rfl) (by rw [hR]; exact (Nat.le_of_ble_eq_true rfl)) (by rw [hR]; exact (Nat.le_of_ble_eq_true rfl)) dX8_become_65 rfl ?_
  refine J_aload_n (i := 1) (p := 1) C dX8_become_68 rfl rfl rfl ?_
  refine Jc_getS (o2 := 5) (r2 := a1 + 5) C fp_RX8_36 rfl h_a1 rfl dX8_become_69 rfl ?_
  refine J_iconst (v := 0) C (by decide) dX8_become_72 rfl ?_
  refine J_aload_n (i := 0) (p := 0) C dX8_become_73 rfl rfl rfl ?_
  refine Jc_getS (o2 := 5) (r2 := a0 + 5) C fp_RX8_36 rfl h_a0 rfl dX8_become_74 rfl ?_
  refine J_iconst (v := 0) C (by decide) dX8_become_77 rfl ?_
  refine J_bipush (v := 16) C (by decide) dX8_become_78 rfl ?_
  obtain ⟨g_13, h⟩ := Ok.ofgd h
  obtain ⟨σx_5, e_σx_5, h⟩ := Ok.nm h
  refine Jc_copyI C id ac_RX8_42 ac_nat ac_st ac_ini (ks_8_7 h_a1) (ks_8_7 h_a0) (ls_8_7 h_a1) (ls_8_7 h_a0) g_13 e_σx_5 (fun _ _ => rfl) (by rw [hR]; exact (Nat.le_of_ble_eq_true rfl)) (by rw [hR]; exact (Nat.le_of_ble_eq_true rfl)) dX8_become_80 rfl ?_
  refine J_aload_n (i := 1) (p := 1) C dX8_become_83 rfl rfl rfl ?_
  refine Jc_getS (o2 := 6) (r2 := a1 + 6) C fp_RX8_39 rfl h_a1 rfl dX8_become_84 rfl ?_
  refine J_iconst (v := 0) C (by decide) dX8_become_87 rfl ?_
  refine J_aload_n (i := 0) (p := 0) C dX8_become_88 rfl rfl rfl ?_
  refine Jc_getS (o2 := 6) (r2 := a0 + 6) C fp_RX8_39 rfl h_a0 rfl dX8_become_89 rfl ?_
  refine J_iconst (v := 0) C (by decide) dX8_become_92 rfl ?_
  refine J_bipush (v := 16) C (by decide) dX8_become_93 rfl ?_
  obtain ⟨g_14, h⟩ := Ok.ofgd h
  obtain ⟨g_15, h⟩ := Ok.ofgd h
  obtain ⟨σx_6, e_σx_6, h⟩ := Ok.nm h
  refine Jc_copyZ C id ac_RX8_42 ac_nat ac_st ac_ini (ks_8_8 h_a1) (ks_8_8 h_a0) (ls_8_8 h_a1) (ls_8_8 h_a0) g_14 e_σx_6 (fitZ_spec g_15) (by rw [hR]; exact (Nat.le_of_ble_eq_true rfl)) (by rw [hR]; exact (Nat.le_of_ble_eq_true rfl)) dX8_become_95 rfl ?_
  refine J_aload_n (i := 0) (p := 0) C dX8_become_98 rfl rfl rfl ?_
  refine J_aload_n (i := 1) (p := 1) C dX8_become_99 rfl rfl rfl ?_
  refine Jc_getI C fp_RX8_15 h_a1 rfl dX8_become_100 rfl ?_
  obtain ⟨σx_7, e_σx_7, h⟩ := Ok.nm h
  refine Jc_putI C id fp_RX8_15 fw_8_1 rfl h_a0 rfl e_σx_7 dX8_become_103 rfl ?_
  refine J_aload_n (i := 0) (p := 0) C dX8_become_106 rfl rfl rfl ?_
  refine J_aload_n (i := 1) (p := 1) C dX8_become_107 rfl rfl rfl ?_
  refine Jc_getI C fp_RX8_27 h_a1 rfl dX8_become_108 rfl ?_
  obtain ⟨σx_8, e_σx_8, h⟩ := Ok.nm h
  refine Jc_putI C id fp_RX8_27 fw_8_4 rfl h_a0 rfl e_σx_8 dX8_become_111 rfl ?_
  refine J_aload_n (i := 0) (p := 0) C dX8_become_114 rfl rfl rfl ?_
  refine J_aload_n (i := 1) (p := 1) C dX8_become_115 rfl rfl rfl ?_
  refine Jc_getI C fp_RX8_33 h_a1 rfl dX8_become_116 rfl ?_
  obtain ⟨σx_9, e_σx_9, h⟩ := Ok.nm h
  refine Jc_putI C id fp_RX8_33 fw_8_6 rfl h_a0 rfl e_σx_9 dX8_become_119 rfl ?_
  rw [← hQQ]
  exact J_vret C hret (Nat.le_of_ble_eq_true rfl) (Nat.le_of_ble_eq_true rfl) ⟨_, h.osome, rfl, rfl, rfl⟩ dX8_become_122
def f11_keep (σ : Sto) : Option (Int32 × Sto) :=
  bnd (f8_become σ 1998 1) fun p_1 =>
  some (fI p_1 1 4, p_1)
set_option maxHeartbeats 4000000 in
set_option maxRecDepth 100000 in
theorem k11_keep {l : Launch} {K : JK} (hl : l.stackTraces = false) {σ : Sto}   {Qf : Int32 × Sto → Prop} (h : Ok (f11_keep σ) Qf) : Con l K yX11_keep (.code yX11_keep cX11_keep 1 (some .int) :: TB) 2 0 0 False [.ref (K.2.2 + 0)] 2017 (jw K σ) (PR Qf (fun p => some (.int p.1)) (fun p => jw K p.2)) PN := by
  refine Con.enter (own := RX11) hl (by decide) rfl (Nat.le_of_ble_eq_true rfl) ?_
  intro X hX hR C hret hnt
  generalize hQQ : jQ X K 0 0 (PR Qf (fun p => some (.int p.1)) (fun p => jw K p.2)) PN False = QQ
  change J X K 1 False QQ 0 0 2017 (jw K σ) 0 [(0, .ref (K.2.2 + 0))] []
  unfold f11_keep at h
  refine J_aload_n (i := 0) (p := 0) C dX11_keep_0 rfl rfl rfl ?_
  refine Jc_getS (o2 := 1997) (r2 := 1997) C fp_RX11_63 rfl rfl rfl dX11_keep_1 rfl ?_
  refine Jc_getS (o2 := 1) (r2 := 1998) C fp_RX11_379 rfl rfl rfl dX11_keep_4 rfl ?_
  refine J_aload_n (i := 0) (p := 0) C dX11_keep_7 rfl rfl rfl ?_
  refine Jc_getS (o2 := 1) (r2 := 1) C fp_RX11_10 rfl rfl rfl dX11_keep_8 rfl ?_
  refine Jc_cV (rest := []) (st9 := fun p_1 => []) C hR hX cv_RX11_382 rfl (Nat.le_of_ble_eq_true rfl) (k8_become hl rfl rfl (Ok.ofbnd h)) rfl rfl (Nat.le_of_ble_eq_true rfl) (Nat.le_of_ble_eq_true rfl) (Nat.le_of_ble_eq_true rfl) ⟨(Nat.le_of_ble_eq_true rfl), (Nat.le_of_ble_eq_true rfl)⟩ dX11_keep_11 rfl (fun E n9 w9 hx => JT_n hx) (fun _ => rfl) (fun p_1 h => ?_)
  have h : Ok _ _ := h
  change J X K 1 False QQ 0 0 2017 (jw K p_1) 14 [(0, .ref (K.2.2 + 0))] []
  refine J_aload_n (i := 0) (p := 0) C dX11_keep_14 rfl rfl rfl ?_
  refine Jc_getS (o2 := 1) (r2 := 1) C fp_RX11_10 rfl rfl rfl dX11_keep_15 rfl ?_
  refine Jc_getI C fp_RX11_116 rfl rfl dX11_keep_18 rfl ?_
  rw [← hQQ]
  exact J_iret C hret (Nat.le_of_ble_eq_true rfl) (Nat.le_of_ble_eq_true rfl) ⟨_, h.osome, rfl, rfl, rfl⟩ dX11_keep_21
def f8_sumOf_b5 (a0 : Nat) (l1 : Int32) (l2 : Int32) (σ : Sto) (l3_5 : Int32) (l4_5 : Int32) : Option ((Int32 × Int32) ⊕ Int32) :=
  if l2 ≤ l4_5 then
    some (.inr l3_5)
  else
    gd (okr (fR σ a0 0) 13) <|
    gd (inb l4_5 (ln ((fR σ a0 0) - 1))) <|
    stp (((31 : Int32) * l3_5) + (aI σ ((fR σ a0 0) - 1) (Int32.toNatClampNeg l4_5))) fun x3_1 =>
    stp (l4_5 + (1 : Int32)) fun x4_2 =>
    some (.inl (x3_1, x4_2))
def f8_sumOf_j5 (a0 : Nat) (l1 : Int32) (l2 : Int32) (σ : Sto) (l3_5 : Int32) (l4_5 : Int32) : Option (Int32) :=
  bnd (loopF (fun s_5 => f8_sumOf_b5 a0 l1 l2 σ s_5.1 s_5.2) FU (l3_5, l4_5)) fun r_5 =>
    some r_5
def f8_sumOf (σ : Sto) (a0 : Nat) (l1 : Int32) (l2 : Int32) : Option (Int32) :=
  stp (0 : Int32) fun x3_3 =>
  stp l1 fun x4_4 =>
  f8_sumOf_j5 a0 l1 l2 σ x3_3 x4_4
set_option maxHeartbeats 4000000 in
set_option maxRecDepth 100000 in
theorem k8_sumOf {l : Launch} {K : JK} (hl : l.stackTraces = false) {σ : Sto} {a0 : Nat} {l1 : Int32} {l2 : Int32} (h_a0 : kc a0 = 8) {Qf : Int32 → Prop} (h : Ok (f8_sumOf σ a0 l1 l2) Qf) : Con l K yX8_sumOf (.code yX8_sumOf cX8_sumOf 5 (some .int) :: TB) 0 0 0 False [.ref (K.2.2 + a0), .int l1, .int l2] 2017 (jw K σ) (PR Qf (fun p => some (.int p)) (fun p => jw K σ)) PN := by
  refine Con.enter (own := RX8) hl (by decide) rfl (Nat.le_of_ble_eq_true rfl) ?_
  intro X hX hR C hret hnt
  generalize hQQ : jQ X K 0 0 (PR Qf (fun p => some (.int p)) (fun p => jw K σ)) PN False = QQ
  change J X K 5 False QQ 0 0 2017 (jw K σ) 0 [(0, .ref (K.2.2 + a0)), (1, .int l1), (2, .int l2)] []
  have hj_5 : (∀ (l3_5 : Int32) (l4_5 : Int32), Ok (f8_sumOf_j5 a0 l1 l2 σ l3_5 l4_5) Qf → J X K 5 False QQ 0 0 2017 (jw K σ) 5 [(0, .ref (K.2.2 + a0)), (2, .int l2), (3, .int l3_5), (4, .int l4_5)] []) := by
    intro l3_5 l4_5 h
    unfold f8_sumOf_j5 at h
    refine loop_gen (S := Int32 × Int32) (P := fun s_5 => J X K 5 False QQ 0 0 2017 (jw K σ) 5 [(0, .ref (K.2.2 + a0)), (2, .int l2), (3, .int s_5.1), (4, .int s_5.2)] []) ?_ FU (l3_5, l4_5) (Ok.ofbnd h)
    intro B_5 hB_5 hE_5 s_5 h
    obtain ⟨l3_5, l4_5⟩ := s_5
    have h : Ok (f8_sumOf_b5 a0 l1 l2 σ l3_5 l4_5) B_5 := h
    change J X K 5 False QQ 0 0 2017 (jw K σ) 5 [(0, .ref (K.2.2 + a0)), (2, .int l2), (3, .int l3_5), (4, .int l4_5)] []
    unfold f8_sumOf_b5 at h
    refine J_iload (i := 4) (p := 3) C dX8_sumOf_5 rfl rfl ?_
    refine J_iload_n (i := 2) (p := 1) C dX8_sumOf_7 rfl rfl rfl ?_
    refine J_icmp_ge (t := 30) C dX8_sumOf_8 (by decide) rfl (fun c_1 => ?_) (fun c_1 => ?_)
    · have h := h.pos c_1
      have h := hE_5 l3_5 h.osome
      try dsimp only at h
      refine J_iload_n (i := 3) (p := 2) C dX8_sumOf_30 rfl rfl rfl ?_
      rw [← hQQ]
      exact J_iret C hret (Nat.le_of_ble_eq_true rfl) (Nat.le_of_ble_eq_true rfl) ⟨_, h.osome, rfl, rfl, rfl⟩ dX8_sumOf_31
    · have h := h.neg c_1
      refine J_bipush (v := 31) C (by decide) dX8_sumOf_11 rfl ?_
      refine J_iload_n (i := 3) (p := 2) C dX8_sumOf_13 rfl rfl rfl ?_
      refine J_imul C dX8_sumOf_14 rfl ?_
      refine J_aload_n (i := 0) (p := 0) C dX8_sumOf_15 rfl rfl rfl ?_
      refine Jc_getD C fp_RX8_9 h_a0 rfl dX8_sumOf_16 rfl ?_
      refine J_iload (i := 4) (p := 3) C dX8_sumOf_19 rfl rfl ?_
      obtain ⟨g_2, h⟩ := Ok.ofgd h
      rw [jv_pos (r := fR σ a0 0) (okr_spec g_2).1]
      obtain ⟨g_3, h⟩ := Ok.ofgd h
      refine Jc_bald C (okr_spec g_2).2 rfl g_3 dX8_sumOf_21 rfl ?_
      refine J_iadd C dX8_sumOf_22 rfl ?_
      obtain ⟨x3_1, e_x3_1, h⟩ := Ok.nm h
      refine J_istoreE_n (i := 3) (lv' := [(3, .int x3_1), (0, .ref (K.2.2 + a0)), (2, .int l2), (4, .int l4_5)]) C e_x3_1 dX8_sumOf_23 rfl (Nat.le_of_ble_eq_true rfl) rfl rfl ?_
      obtain ⟨x4_2, e_x4_2, h⟩ := Ok.nm h
      refine J_iincE (i := 4) (p := 3) (lv' := [(4, .int x4_2), (3, .int x3_1), (0, .ref (K.2.2 + a0)), (2, .int l2)]) C e_x4_2 dX8_sumOf_24 rfl (by decide) (Nat.le_of_ble_eq_true rfl) rfl rfl ?_
      refine J_goto (t := 5) C dX8_sumOf_27 (by decide) ?_
      refine J.sub [2, 3, 1, 0] rfl ?_
      exact hB_5 (x3_1, x4_2) h.osome
  unfold f8_sumOf at h
  refine J_iconst (v := 0) C (by decide) dX8_sumOf_0 rfl ?_
  obtain ⟨x3_3, e_x3_3, h⟩ := Ok.nm h
  refine J_istoreE_n (i := 3) (lv' := [(3, .int x3_3), (0, .ref (K.2.2 + a0)), (1, .int l1), (2, .int l2)]) C e_x3_3 dX8_sumOf_1 rfl (Nat.le_of_ble_eq_true rfl) rfl rfl ?_
  refine J_iload_n (i := 1) (p := 2) C dX8_sumOf_2 rfl rfl rfl ?_
  obtain ⟨x4_4, e_x4_4, h⟩ := Ok.nm h
  refine J_istoreE (i := 4) (lv' := [(4, .int x4_4), (3, .int x3_3), (0, .ref (K.2.2 + a0)), (1, .int l1), (2, .int l2)]) C e_x4_4 dX8_sumOf_3 (Nat.le_of_ble_eq_true rfl) rfl rfl ?_
  refine J.sub [2, 4, 1, 0] rfl ?_
  exact hj_5 x3_3 x4_4 h
def f3_fillSums_b2 (a0 : Nat) (a1 : Nat) (σ_2 : Sto) (l2_2 : Int32) : Option ((Sto × Int32) ⊕ Sto) :=
  if (fI σ_2 a0 4) ≤ l2_2 then
    some (.inr σ_2)
  else
    gd (okr (fR σ_2 a0 2) 12) <|
    gd (inb l2_2 (ln ((fR σ_2 a0 2) - 1))) <|
    bnd (f8_endOf σ_2 a0 l2_2) fun p_4 =>
    bnd (f8_sumOf σ_2 a0 (aI σ_2 ((fR σ_2 a0 2) - 1) (Int32.toNatClampNeg l2_2)) p_4) fun p_5 =>
    gd (inb l2_2 (ln a1)) <|
    stp (uA σ_2 a1 (Int32.toNatClampNeg l2_2) p_5) fun σx_1 =>
    stp (l2_2 + (1 : Int32)) fun x2_2 =>
    some (.inl (σx_1, x2_2))
def f3_fillSums_j2 (a0 : Nat) (a1 : Nat) (σ_2 : Sto) (l2_2 : Int32) : Option (Sto) :=
  bnd (loopF (fun s_2 => f3_fillSums_b2 a0 a1 s_2.1 s_2.2) FU (σ_2, l2_2)) fun r_2 =>
    some r_2
def f3_fillSums (σ : Sto) (a0 : Nat) (a1 : Nat) : Option (Sto) :=
  stp (0 : Int32) fun x2_3 =>
  f3_fillSums_j2 a0 a1 σ x2_3
set_option maxHeartbeats 4000000 in
set_option maxRecDepth 100000 in
theorem k3_fillSums {l : Launch} {K : JK} (hl : l.stackTraces = false) {σ : Sto} {a0 : Nat} {a1 : Nat} (h_a0 : kc a0 = 8) (h_a1 : kc a1 = 12) {Qf : Sto → Prop} (h : Ok (f3_fillSums σ a0 a1) Qf) : Con l K yX3_fillSums (.code yX3_fillSums cX3_fillSums 3 none :: TB) 1 0 0 False [.ref (K.2.2 + a0), .ref (K.2.2 + a1)] 2017 (jw K σ) (PR Qf (fun p => none) (fun p => jw K p)) PN := by
  refine Con.enter (own := RX3) hl (by decide) rfl (Nat.le_of_ble_eq_true rfl) ?_
  intro X hX hR C hret hnt
  generalize hQQ : jQ X K 0 0 (PR Qf (fun p => none) (fun p => jw K p)) PN False = QQ
  change J X K 3 False QQ 0 0 2017 (jw K σ) 0 [(0, .ref (K.2.2 + a0)), (1, .ref (K.2.2 + a1))] []
  have hj_2 : (∀ (σ_2 : Sto) (l2_2 : Int32), Ok (f3_fillSums_j2 a0 a1 σ_2 l2_2) Qf → J X K 3 False QQ 0 0 2017 (jw K σ_2) 2 [(0, .ref (K.2.2 + a0)), (1, .ref (K.2.2 + a1)), (2, .int l2_2)] []) := by
    intro σ_2 l2_2 h
    unfold f3_fillSums_j2 at h
    refine loop_gen (S := Sto × Int32) (P := fun s_2 => J X K 3 False QQ 0 0 2017 (jw K s_2.1) 2 [(0, .ref (K.2.2 + a0)), (1, .ref (K.2.2 + a1)), (2, .int s_2.2)] []) ?_ FU (σ_2, l2_2) (Ok.ofbnd h)
    intro B_2 hB_2 hE_2 s_2 h
    obtain ⟨σ_2, l2_2⟩ := s_2
    have h : Ok (f3_fillSums_b2 a0 a1 σ_2 l2_2) B_2 := h
    change J X K 3 False QQ 0 0 2017 (jw K σ_2) 2 [(0, .ref (K.2.2 + a0)), (1, .ref (K.2.2 + a1)), (2, .int l2_2)] []
    unfold f3_fillSums_b2 at h
    refine J_iload_n (i := 2) (p := 2) C dX3_fillSums_2 rfl rfl rfl ?_
    refine J_aload_n (i := 0) (p := 0) C dX3_fillSums_3 rfl rfl rfl ?_
    refine Jc_getI C fp_RX3_35 h_a0 rfl dX3_fillSums_4 rfl ?_
    refine J_icmp_ge (t := 34) C dX3_fillSums_7 (by decide) rfl (fun c_1 => ?_) (fun c_1 => ?_)
    · have h := h.pos c_1
      have h := hE_2 σ_2 h.osome
      try dsimp only at h
      rw [← hQQ]
      exact J_vret C hret (Nat.le_of_ble_eq_true rfl) (Nat.le_of_ble_eq_true rfl) ⟨_, h.osome, rfl, rfl, rfl⟩ dX3_fillSums_34
    · have h := h.neg c_1
      refine J_aload_n (i := 1) (p := 1) C dX3_fillSums_10 rfl rfl rfl ?_
      refine J_iload_n (i := 2) (p := 2) C dX3_fillSums_11 rfl rfl rfl ?_
      refine J_aload_n (i := 0) (p := 0) C dX3_fillSums_12 rfl rfl rfl ?_
      refine J_aload_n (i := 0) (p := 0) C dX3_fillSums_13 rfl rfl rfl ?_
      refine Jc_getD C fp_RX3_49 h_a0 rfl dX3_fillSums_14 rfl ?_
      refine J_iload_n (i := 2) (p := 2) C dX3_fillSums_17 rfl rfl rfl ?_
      obtain ⟨g_2, h⟩ := Ok.ofgd h
      rw [jv_pos (r := fR σ_2 a0 2) (okr_spec g_2).1]
      obtain ⟨g_3, h⟩ := Ok.ofgd h
      refine Jc_iald C (okr_spec g_2).2 rfl g_3 dX3_fillSums_18 rfl ?_
      refine J_aload_n (i := 0) (p := 0) C dX3_fillSums_19 rfl rfl rfl ?_
      refine J_iload_n (i := 2) (p := 2) C dX3_fillSums_20 rfl rfl rfl ?_
      refine Jc_cV (rest := [.int (aI σ_2 ((fR σ_2 a0 2) - 1) (Int32.toNatClampNeg l2_2)), .ref (K.2.2 + a0), .int l2_2, .ref (K.2.2 + a1)]) (st9 := fun p_4 => [.int p_4, .int (aI σ_2 ((fR σ_2 a0 2) - 1) (Int32.toNatClampNeg l2_2)), .ref (K.2.2 + a0), .int l2_2, .ref (K.2.2 + a1)]) C hR hX cv_RX3_52 h_a0 (Nat.le_of_ble_eq_true rfl) (k8_endOf hl h_a0 (Ok.ofbnd h)) rfl rfl (Nat.le_of_ble_eq_true rfl) (Nat.le_of_ble_eq_true rfl) (Nat.le_of_ble_eq_true rfl) ⟨(Nat.le_of_ble_eq_true rfl), (Nat.le_of_ble_eq_true rfl)⟩ dX3_fillSums_21 rfl (fun E n9 w9 hx => JT_n hx) (fun _ => rfl) (fun p_4 h => ?_)
      have h : Ok _ _ := h
      change J X K 3 False QQ 0 0 2017 (jw K σ_2) 24 [(0, .ref (K.2.2 + a0)), (1, .ref (K.2.2 + a1)), (2, .int l2_2)] [.int p_4, .int (aI σ_2 ((fR σ_2 a0 2) - 1) (Int32.toNatClampNeg l2_2)), .ref (K.2.2 + a0), .int l2_2, .ref (K.2.2 + a1)]
      refine Jc_cV (rest := [.int l2_2, .ref (K.2.2 + a1)]) (st9 := fun p_5 => [.int p_5, .int l2_2, .ref (K.2.2 + a1)]) C hR hX cv_RX3_56 h_a0 (Nat.le_of_ble_eq_true rfl) (k8_sumOf hl h_a0 (Ok.ofbnd h)) rfl rfl (Nat.le_of_ble_eq_true rfl) (Nat.le_of_ble_eq_true rfl) (Nat.le_of_ble_eq_true rfl) ⟨(Nat.le_of_ble_eq_true rfl), (Nat.le_of_ble_eq_true rfl)⟩ dX3_fillSums_24 rfl (fun E n9 w9 hx => JT_n hx) (fun _ => rfl) (fun p_5 h => ?_)
      have h : Ok _ _ := h
      change J X K 3 False QQ 0 0 2017 (jw K σ_2) 27 [(0, .ref (K.2.2 + a0)), (1, .ref (K.2.2 + a1)), (2, .int l2_2)] [.int p_5, .int l2_2, .ref (K.2.2 + a1)]
      obtain ⟨g_6, h⟩ := Ok.ofgd h
      obtain ⟨σx_1, e_σx_1, h⟩ := Ok.nm h
      refine Jc_iast C id h_a1 rfl g_6 e_σx_1 dX3_fillSums_27 rfl ?_
      obtain ⟨x2_2, e_x2_2, h⟩ := Ok.nm h
      refine J_iincE (i := 2) (p := 2) (lv' := [(2, .int x2_2), (0, .ref (K.2.2 + a0)), (1, .ref (K.2.2 + a1))]) C e_x2_2 dX3_fillSums_28 rfl (by decide) (Nat.le_of_ble_eq_true rfl) rfl rfl ?_
      refine J_goto (t := 2) C dX3_fillSums_31 (by decide) ?_
      refine J.sub [1, 2, 0] rfl ?_
      exact hB_2 (σx_1, x2_2) h.osome
  unfold f3_fillSums at h
  refine J_iconst (v := 0) C (by decide) dX3_fillSums_0 rfl ?_
  obtain ⟨x2_3, e_x2_3, h⟩ := Ok.nm h
  refine J_istoreE_n (i := 2) (lv' := [(2, .int x2_3), (0, .ref (K.2.2 + a0)), (1, .ref (K.2.2 + a1))]) C e_x2_3 dX3_fillSums_1 rfl (Nat.le_of_ble_eq_true rfl) rfl rfl ?_
  refine J.sub [1, 2, 0] rfl ?_
  exact hj_2 σ x2_3 h
def f3_isSame_j123 (l1 : Int32) (a2 : Nat) (l3 : Int32) (σ : Sto) (l7_123 : Int32) : Option (Int32) :=
  gd (isB l7_123) <|
  some l7_123
def f3_isSame_j115 (l1 : Int32) (a2 : Nat) (l3 : Int32) (σ : Sto) (l4_72 : Int32) (l5_72 : Int32) (l6_72 : Int32) (l8_115 : Int32) (s0_115 : Int32) : Option ((Int32 × Int32) ⊕ Int32) :=
  stp s0_115 fun x7_1 =>
  stp (l8_115 + (1 : Int32)) fun x8_2 =>
  some (.inl (x7_1, x8_2))
def f3_isSame_b72 (l1 : Int32) (a2 : Nat) (l3 : Int32) (σ : Sto) (l4_72 : Int32) (l5_72 : Int32) (l6_72 : Int32) (l7_72 : Int32) (l8_72 : Int32) : Option ((Int32 × Int32) ⊕ Int32) :=
  if l7_72 = 0 then
    some (.inr l7_72)
  else
    if l6_72 ≤ l8_72 then
      some (.inr l7_72)
    else
      gd (okr (fR σ 1998 0) 13) <|
      gd (inb (l4_72 + l8_72) (ln ((fR σ 1998 0) - 1))) <|
      gd (okr (fR σ a2 0) 13) <|
      gd (inb (l5_72 + l8_72) (ln ((fR σ a2 0) - 1))) <|
      if (aI σ ((fR σ 1998 0) - 1) (Int32.toNatClampNeg (l4_72 + l8_72))) = (aI σ ((fR σ a2 0) - 1) (Int32.toNatClampNeg (l5_72 + l8_72))) then
        f3_isSame_j115 l1 a2 l3 σ l4_72 l5_72 l6_72 l8_72 (1 : Int32)
      else
        f3_isSame_j115 l1 a2 l3 σ l4_72 l5_72 l6_72 l8_72 (0 : Int32)
def f3_isSame_j72 (l1 : Int32) (a2 : Nat) (l3 : Int32) (σ : Sto) (l4_72 : Int32) (l5_72 : Int32) (l6_72 : Int32) (l7_72 : Int32) (l8_72 : Int32) : Option (Int32) :=
  bnd (loopF (fun s_72 => f3_isSame_b72 l1 a2 l3 σ l4_72 l5_72 l6_72 s_72.1 s_72.2) FU (l7_72, l8_72)) fun r_72 =>
    f3_isSame_j123 l1 a2 l3 σ r_72
def f3_isSame_j67 (l1 : Int32) (a2 : Nat) (l3 : Int32) (σ : Sto) (l4_67 : Int32) (l5_67 : Int32) (l6_67 : Int32) (s0_67 : Int32) : Option (Int32) :=
  stp s0_67 fun x7_3 =>
  stp (0 : Int32) fun x8_4 =>
  f3_isSame_j72 l1 a2 l3 σ l4_67 l5_67 l6_67 x7_3 x8_4
def f3_isSame (σ : Sto) (l1 : Int32) (a2 : Nat) (l3 : Int32) : Option (Int32) :=
  gd (inb l1 300) <|
  gd (inb l3 300) <|
  if (aI σ 2012 (Int32.toNatClampNeg l1)) = (aI σ 2013 (Int32.toNatClampNeg l3)) then
    gd (okr (fR σ 1998 2) 12) <|
    gd (inb l1 (ln ((fR σ 1998 2) - 1))) <|
    stp (aI σ ((fR σ 1998 2) - 1) (Int32.toNatClampNeg l1)) fun x4_5 =>
    gd (okr (fR σ a2 2) 12) <|
    gd (inb l3 (ln ((fR σ a2 2) - 1))) <|
    stp (aI σ ((fR σ a2 2) - 1) (Int32.toNatClampNeg l3)) fun x5_6 =>
    bnd (f8_endOf σ a2 l3) fun p_16 =>
    stp (p_16 - x5_6) fun x6_7 =>
    bnd (f8_endOf σ 1998 l1) fun p_17 =>
    if (p_17 - x4_5) = x6_7 then
      f3_isSame_j67 l1 a2 l3 σ x4_5 x5_6 x6_7 (1 : Int32)
    else
      f3_isSame_j67 l1 a2 l3 σ x4_5 x5_6 x6_7 (0 : Int32)
  else
    some (0 : Int32)
set_option maxHeartbeats 4000000 in
set_option maxRecDepth 100000 in
theorem k3_isSame {l : Launch} {K : JK} (hl : l.stackTraces = false) {σ : Sto} {l1 : Int32} {a2 : Nat} {l3 : Int32} (h_a2 : kc a2 = 8) {Qf : Int32 → Prop} (h : Ok (f3_isSame σ l1 a2 l3) Qf) : Con l K yX3_isSame (.code yX3_isSame cX3_isSame 9 (some .boolean) :: TB) 1 0 0 False [.ref (K.2.2 + 1997), .int l1, .ref (K.2.2 + a2), .int l3] 2017 (jw K σ) (PR Qf (fun p => some (.int p)) (fun p => jw K σ)) PN := by
  refine Con.enter (own := RX3) hl (by decide) rfl (Nat.le_of_ble_eq_true rfl) ?_
  intro X hX hR C hret hnt
  generalize hQQ : jQ X K 0 0 (PR Qf (fun p => some (.int p)) (fun p => jw K σ)) PN False = QQ
  change J X K 9 False QQ 0 0 2017 (jw K σ) 0 [(0, .ref (K.2.2 + 1997)), (1, .int l1), (2, .ref (K.2.2 + a2)), (3, .int l3)] []
  have hj_123 : (∀ (l7_123 : Int32), Ok (f3_isSame_j123 l1 a2 l3 σ l7_123) Qf → J X K 9 False QQ 0 0 2017 (jw K σ) 123 [(7, .int l7_123)] []) := by
    intro l7_123 h
    unfold f3_isSame_j123 at h
    refine J_iload (i := 7) (p := 0) C dX3_isSame_123 rfl rfl ?_
    obtain ⟨g_1, h⟩ := Ok.ofgd h
    rw [← hQQ]
    exact J_zret C hret (narB g_1).1 (Nat.le_of_ble_eq_true rfl) (Nat.le_of_ble_eq_true rfl) ⟨_, h.osome, rfl, rfl, rfl⟩ dX3_isSame_125
  have hj_72 : (∀ (l4_72 : Int32) (l5_72 : Int32) (l6_72 : Int32) (l7_72 : Int32) (l8_72 : Int32), Ok (f3_isSame_j72 l1 a2 l3 σ l4_72 l5_72 l6_72 l7_72 l8_72) Qf → J X K 9 False QQ 0 0 2017 (jw K σ) 72 [(0, .ref (K.2.2 + 1997)), (2, .ref (K.2.2 + a2)), (4, .int l4_72), (5, .int l5_72), (6, .int l6_72), (7, .int l7_72), (8, .int l8_72)] []) := by
    intro l4_72 l5_72 l6_72 l7_72 l8_72 h
    unfold f3_isSame_j72 at h
    refine loop_gen (S := Int32 × Int32) (P := fun s_72 => J X K 9 False QQ 0 0 2017 (jw K σ) 72 [(0, .ref (K.2.2 + 1997)), (2, .ref (K.2.2 + a2)), (4, .int l4_72), (5, .int l5_72), (6, .int l6_72), (7, .int s_72.1), (8, .int s_72.2)] []) ?_ FU (l7_72, l8_72) (Ok.ofbnd h)
    intro B_72 hB_72 hE_72 s_72 h
    obtain ⟨l7_72, l8_72⟩ := s_72
    have h : Ok (f3_isSame_b72 l1 a2 l3 σ l4_72 l5_72 l6_72 l7_72 l8_72) B_72 := h
    change J X K 9 False QQ 0 0 2017 (jw K σ) 72 [(0, .ref (K.2.2 + 1997)), (2, .ref (K.2.2 + a2)), (4, .int l4_72), (5, .int l5_72), (6, .int l6_72), (7, .int l7_72), (8, .int l8_72)] []
    have hj_115 : (∀ (l8_115 : Int32) (s0_115 : Int32), Ok (f3_isSame_j115 l1 a2 l3 σ l4_72 l5_72 l6_72 l8_115 s0_115) B_72 → J X K 9 False QQ 0 0 2017 (jw K σ) 115 [(0, .ref (K.2.2 + 1997)), (2, .ref (K.2.2 + a2)), (4, .int l4_72), (5, .int l5_72), (6, .int l6_72), (8, .int l8_115)] [.int s0_115]) := by
      intro l8_115 s0_115 h
      unfold f3_isSame_j115 at h
      obtain ⟨x7_1, e_x7_1, h⟩ := Ok.nm h
      refine J_istoreE (i := 7) (lv' := [(7, .int x7_1), (0, .ref (K.2.2 + 1997)), (2, .ref (K.2.2 + a2)), (4, .int l4_72), (5, .int l5_72), (6, .int l6_72), (8, .int l8_115)]) C e_x7_1 dX3_isSame_115 (Nat.le_of_ble_eq_true rfl) rfl rfl ?_
      obtain ⟨x8_2, e_x8_2, h⟩ := Ok.nm h
      refine J_iincE (i := 8) (p := 6) (lv' := [(8, .int x8_2), (7, .int x7_1), (0, .ref (K.2.2 + 1997)), (2, .ref (K.2.2 + a2)), (4, .int l4_72), (5, .int l5_72), (6, .int l6_72)]) C e_x8_2 dX3_isSame_117 rfl (by decide) (Nat.le_of_ble_eq_true rfl) rfl rfl ?_
      refine J_goto (t := 72) C dX3_isSame_120 (by decide) ?_
      refine J.sub [2, 3, 4, 5, 6, 1, 0] rfl ?_
      exact hB_72 (x7_1, x8_2) h.osome
    unfold f3_isSame_b72 at h
    refine J_iload (i := 7) (p := 5) C dX3_isSame_72 rfl rfl ?_
    refine J_if_eq (t := 123) C dX3_isSame_74 (by decide) rfl (fun c_2 => ?_) (fun c_2 => ?_)
    · have h := h.pos c_2
      have h := hE_72 l7_72 h.osome
      try dsimp only at h
      refine J.sub [5] rfl ?_
      exact hj_123 l7_72 h
    · have h := h.neg c_2
      refine J_iload (i := 8) (p := 6) C dX3_isSame_77 rfl rfl ?_
      refine J_iload (i := 6) (p := 4) C dX3_isSame_79 rfl rfl ?_
      refine J_icmp_ge (t := 123) C dX3_isSame_81 (by decide) rfl (fun c_3 => ?_) (fun c_3 => ?_)
      · have h := h.pos c_3
        have h := hE_72 l7_72 h.osome
        try dsimp only at h
        refine J.sub [5] rfl ?_
        exact hj_123 l7_72 h
      · have h := h.neg c_3
        refine J_aload_n (i := 0) (p := 0) C dX3_isSame_84 rfl rfl rfl ?_
        refine Jc_getS (o2 := 1) (r2 := 1998) C fp_RX3_12 rfl rfl rfl dX3_isSame_85 rfl ?_
        refine Jc_getD C fp_RX3_59 rfl rfl dX3_isSame_88 rfl ?_
        refine J_iload (i := 4) (p := 2) C dX3_isSame_91 rfl rfl ?_
        refine J_iload (i := 8) (p := 6) C dX3_isSame_93 rfl rfl ?_
        refine J_iadd C dX3_isSame_95 rfl ?_
        obtain ⟨g_4, h⟩ := Ok.ofgd h
        rw [jv_pos (r := fR σ 1998 0) (okr_spec g_4).1]
        obtain ⟨g_5, h⟩ := Ok.ofgd h
        refine Jc_bald C (okr_spec g_4).2 rfl g_5 dX3_isSame_96 rfl ?_
        refine J_aload_n (i := 2) (p := 1) C dX3_isSame_97 rfl rfl rfl ?_
        refine Jc_getD C fp_RX3_59 h_a2 rfl dX3_isSame_98 rfl ?_
        refine J_iload (i := 5) (p := 3) C dX3_isSame_101 rfl rfl ?_
        refine J_iload (i := 8) (p := 6) C dX3_isSame_103 rfl rfl ?_
        refine J_iadd C dX3_isSame_105 rfl ?_
        obtain ⟨g_6, h⟩ := Ok.ofgd h
        rw [jv_pos (r := fR σ a2 0) (okr_spec g_6).1]
        obtain ⟨g_7, h⟩ := Ok.ofgd h
        refine Jc_bald C (okr_spec g_6).2 rfl g_7 dX3_isSame_106 rfl ?_
        refine J_icmp_ne (t := 114) C dX3_isSame_107 (by decide) rfl (fun c_8 => ?_) (fun c_8 => ?_)
        · have h := h.neg c_8
          refine J_iconst (v := 0) C (by decide) dX3_isSame_114 rfl ?_
          refine J.sub [0, 1, 2, 3, 4, 6] rfl ?_
          exact hj_115 l8_72 (0 : Int32) h
        · have h := h.pos (Decidable.not_not.mp c_8)
          refine J_iconst (v := 1) C (by decide) dX3_isSame_110 rfl ?_
          refine J_goto (t := 115) C dX3_isSame_111 (by decide) ?_
          refine J.sub [0, 1, 2, 3, 4, 6] rfl ?_
          exact hj_115 l8_72 (1 : Int32) h
  have hj_67 : (∀ (l4_67 : Int32) (l5_67 : Int32) (l6_67 : Int32) (s0_67 : Int32), Ok (f3_isSame_j67 l1 a2 l3 σ l4_67 l5_67 l6_67 s0_67) Qf → J X K 9 False QQ 0 0 2017 (jw K σ) 67 [(0, .ref (K.2.2 + 1997)), (2, .ref (K.2.2 + a2)), (4, .int l4_67), (5, .int l5_67), (6, .int l6_67)] [.int s0_67]) := by
    intro l4_67 l5_67 l6_67 s0_67 h
    unfold f3_isSame_j67 at h
    obtain ⟨x7_3, e_x7_3, h⟩ := Ok.nm h
    refine J_istoreE (i := 7) (lv' := [(7, .int x7_3), (0, .ref (K.2.2 + 1997)), (2, .ref (K.2.2 + a2)), (4, .int l4_67), (5, .int l5_67), (6, .int l6_67)]) C e_x7_3 dX3_isSame_67 (Nat.le_of_ble_eq_true rfl) rfl rfl ?_
    refine J_iconst (v := 0) C (by decide) dX3_isSame_69 rfl ?_
    obtain ⟨x8_4, e_x8_4, h⟩ := Ok.nm h
    refine J_istoreE (i := 8) (lv' := [(8, .int x8_4), (7, .int x7_3), (0, .ref (K.2.2 + 1997)), (2, .ref (K.2.2 + a2)), (4, .int l4_67), (5, .int l5_67), (6, .int l6_67)]) C e_x8_4 dX3_isSame_70 (Nat.le_of_ble_eq_true rfl) rfl rfl ?_
    refine J.sub [2, 3, 4, 5, 6, 1, 0] rfl ?_
    exact hj_72 l4_67 l5_67 l6_67 x7_3 x8_4 h
  unfold f3_isSame at h
  refine J_aload_n (i := 0) (p := 0) C dX3_isSame_0 rfl rfl rfl ?_
  refine Jc_getS (o2 := 15) (r2 := 2012) C fp_RX3_21 rfl rfl rfl dX3_isSame_1 rfl ?_
  refine J_iload_n (i := 1) (p := 1) C dX3_isSame_4 rfl rfl rfl ?_
  obtain ⟨g_9, h⟩ := Ok.ofgd h
  refine Jc_iald C rfl rfl g_9 dX3_isSame_5 rfl ?_
  refine J_aload_n (i := 0) (p := 0) C dX3_isSame_6 rfl rfl rfl ?_
  refine Jc_getS (o2 := 16) (r2 := 2013) C fp_RX3_25 rfl rfl rfl dX3_isSame_7 rfl ?_
  refine J_iload_n (i := 3) (p := 3) C dX3_isSame_10 rfl rfl rfl ?_
  obtain ⟨g_10, h⟩ := Ok.ofgd h
  refine Jc_iald C rfl rfl g_10 dX3_isSame_11 rfl ?_
  refine J_icmp_eq (t := 17) C dX3_isSame_12 (by decide) rfl (fun c_11 => ?_) (fun c_11 => ?_)
  · have h := h.pos c_11
    refine J_aload_n (i := 0) (p := 0) C dX3_isSame_17 rfl rfl rfl ?_
    refine Jc_getS (o2 := 1) (r2 := 1998) C fp_RX3_12 rfl rfl rfl dX3_isSame_18 rfl ?_
    refine Jc_getD C fp_RX3_49 rfl rfl dX3_isSame_21 rfl ?_
    refine J_iload_n (i := 1) (p := 1) C dX3_isSame_24 rfl rfl rfl ?_
    obtain ⟨g_12, h⟩ := Ok.ofgd h
    rw [jv_pos (r := fR σ 1998 2) (okr_spec g_12).1]
    obtain ⟨g_13, h⟩ := Ok.ofgd h
    refine Jc_iald C (okr_spec g_12).2 rfl g_13 dX3_isSame_25 rfl ?_
    obtain ⟨x4_5, e_x4_5, h⟩ := Ok.nm h
    refine J_istoreE (i := 4) (lv' := [(4, .int x4_5), (0, .ref (K.2.2 + 1997)), (1, .int l1), (2, .ref (K.2.2 + a2)), (3, .int l3)]) C e_x4_5 dX3_isSame_26 (Nat.le_of_ble_eq_true rfl) rfl rfl ?_
    refine J_aload_n (i := 2) (p := 3) C dX3_isSame_28 rfl rfl rfl ?_
    refine Jc_getD C fp_RX3_49 h_a2 rfl dX3_isSame_29 rfl ?_
    refine J_iload_n (i := 3) (p := 4) C dX3_isSame_32 rfl rfl rfl ?_
    obtain ⟨g_14, h⟩ := Ok.ofgd h
    rw [jv_pos (r := fR σ a2 2) (okr_spec g_14).1]
    obtain ⟨g_15, h⟩ := Ok.ofgd h
    refine Jc_iald C (okr_spec g_14).2 rfl g_15 dX3_isSame_33 rfl ?_
    obtain ⟨x5_6, e_x5_6, h⟩ := Ok.nm h
    refine J_istoreE (i := 5) (lv' := [(5, .int x5_6), (4, .int x4_5), (0, .ref (K.2.2 + 1997)), (1, .int l1), (2, .ref (K.2.2 + a2)), (3, .int l3)]) C e_x5_6 dX3_isSame_34 (Nat.le_of_ble_eq_true rfl) rfl rfl ?_
    refine J_aload_n (i := 2) (p := 4) C dX3_isSame_36 rfl rfl rfl ?_
    refine J_iload_n (i := 3) (p := 5) C dX3_isSame_37 rfl rfl rfl ?_
    refine Jc_cV (rest := []) (st9 := fun p_16 => [.int p_16]) C hR hX cv_RX3_52 h_a2 (Nat.le_of_ble_eq_true rfl) (k8_endOf hl h_a2 (Ok.ofbnd h)) rfl rfl (Nat.le_of_ble_eq_true rfl) (Nat.le_of_ble_eq_true rfl) (Nat.le_of_ble_eq_true rfl) ⟨(Nat.le_of_ble_eq_true rfl), (Nat.le_of_ble_eq_true rfl)⟩ dX3_isSame_38 rfl (fun E n9 w9 hx => JT_n hx) (fun _ => rfl) (fun p_16 h => ?_)
    have h : Ok _ _ := h
    change J X K 9 False QQ 0 0 2017 (jw K σ) 41 [(5, .int x5_6), (4, .int x4_5), (0, .ref (K.2.2 + 1997)), (1, .int l1), (2, .ref (K.2.2 + a2)), (3, .int l3)] [.int p_16]
    refine J_iload (i := 5) (p := 0) C dX3_isSame_41 rfl rfl ?_
    refine J_isub C dX3_isSame_43 rfl ?_
    obtain ⟨x6_7, e_x6_7, h⟩ := Ok.nm h
    refine J_istoreE (i := 6) (lv' := [(6, .int x6_7), (5, .int x5_6), (4, .int x4_5), (0, .ref (K.2.2 + 1997)), (1, .int l1), (2, .ref (K.2.2 + a2)), (3, .int l3)]) C e_x6_7 dX3_isSame_44 (Nat.le_of_ble_eq_true rfl) rfl rfl ?_
    refine J_aload_n (i := 0) (p := 3) C dX3_isSame_46 rfl rfl rfl ?_
    refine Jc_getS (o2 := 1) (r2 := 1998) C fp_RX3_12 rfl rfl rfl dX3_isSame_47 rfl ?_
    refine J_iload_n (i := 1) (p := 4) C dX3_isSame_50 rfl rfl rfl ?_
    refine Jc_cV (rest := []) (st9 := fun p_17 => [.int p_17]) C hR hX cv_RX3_52 rfl (Nat.le_of_ble_eq_true rfl) (k8_endOf hl rfl (Ok.ofbnd h)) rfl rfl (Nat.le_of_ble_eq_true rfl) (Nat.le_of_ble_eq_true rfl) (Nat.le_of_ble_eq_true rfl) ⟨(Nat.le_of_ble_eq_true rfl), (Nat.le_of_ble_eq_true rfl)⟩ dX3_isSame_51 rfl (fun E n9 w9 hx => JT_n hx) (fun _ => rfl) (fun p_17 h => ?_)
    have h : Ok _ _ := h
    change J X K 9 False QQ 0 0 2017 (jw K σ) 54 [(6, .int x6_7), (5, .int x5_6), (4, .int x4_5), (0, .ref (K.2.2 + 1997)), (1, .int l1), (2, .ref (K.2.2 + a2)), (3, .int l3)] [.int p_17]
    refine J_iload (i := 4) (p := 2) C dX3_isSame_54 rfl rfl ?_
    refine J_isub C dX3_isSame_56 rfl ?_
    refine J_iload (i := 6) (p := 0) C dX3_isSame_57 rfl rfl ?_
    refine J_icmp_ne (t := 66) C dX3_isSame_59 (by decide) rfl (fun c_18 => ?_) (fun c_18 => ?_)
    · have h := h.neg c_18
      refine J_iconst (v := 0) C (by decide) dX3_isSame_66 rfl ?_
      refine J.sub [3, 5, 2, 1, 0] rfl ?_
      exact hj_67 x4_5 x5_6 x6_7 (0 : Int32) h
    · have h := h.pos (Decidable.not_not.mp c_18)
      refine J_iconst (v := 1) C (by decide) dX3_isSame_62 rfl ?_
      refine J_goto (t := 67) C dX3_isSame_63 (by decide) ?_
      refine J.sub [3, 5, 2, 1, 0] rfl ?_
      exact hj_67 x4_5 x5_6 x6_7 (1 : Int32) h
  · have h := h.neg c_11
    refine J_iconst (v := 0) C (by decide) dX3_isSame_15 rfl ?_
    rw [← hQQ]
    exact J_zret C hret rfl (Nat.le_of_ble_eq_true rfl) (Nat.le_of_ble_eq_true rfl) ⟨_, h.osome, rfl, rfl, rfl⟩ dX3_isSame_16
def f3_countSame_j127 (a1 : Nat) (l2_60 : Int32) (σ_127 : Sto) (l4_127 : Int32) (l5_127 : Int32) : Option ((Sto × Int32 × Int32) ⊕ Sto) :=
  stp l5_127 fun x3_1 =>
  stp (l4_127 + (1 : Int32)) fun x4_2 =>
  some (.inl (σ_127, x3_1, x4_2))
def f3_countSame_b60 (a1 : Nat) (σ_60 : Sto) (l2_60 : Int32) (l3_60 : Int32) (l4_60 : Int32) : Option ((Sto × Int32 × Int32) ⊕ Sto) :=
  if (fI σ_60 a1 4) ≤ l4_60 then
    some (.inr σ_60)
  else
    gd (inb (l4_60 + (1 : Int32)) 301) <|
    stp (aI σ_60 2014 (Int32.toNatClampNeg (l4_60 + (1 : Int32)))) fun x5_4 =>
    bnd (f3_isSame σ_60 l2_60 a1 l4_60) fun p_3 =>
    if p_3 = 0 then
      gd (inb l4_60 301) <|
      gd (inb (l4_60 + (1 : Int32)) 301) <|
      stp (uA σ_60 2014 (Int32.toNatClampNeg (l4_60 + (1 : Int32))) (imax x5_4 (aI σ_60 2014 (Int32.toNatClampNeg l4_60)))) fun σx_5 =>
      f3_countSame_j127 a1 l2_60 σx_5 l4_60 x5_4
    else
      gd (inb (l4_60 + (1 : Int32)) 301) <|
      stp (uA σ_60 2014 (Int32.toNatClampNeg (l4_60 + (1 : Int32))) (l3_60 + (1 : Int32))) fun σx_6 =>
      f3_countSame_j127 a1 l2_60 σx_6 l4_60 x5_4
def f3_countSame_j60 (a1 : Nat) (σ_60 : Sto) (l2_60 : Int32) (l3_60 : Int32) (l4_60 : Int32) : Option ((Sto × Int32) ⊕ Sto) :=
  bnd (loopF (fun s_60 => f3_countSame_b60 a1 s_60.1 l2_60 s_60.2.1 s_60.2.2) FU (σ_60, l3_60, l4_60)) fun r_60 =>
    stp (l2_60 + (1 : Int32)) fun x2_7 =>
    some (.inl (r_60, x2_7))
def f3_countSame_b44 (a1 : Nat) (σ_44 : Sto) (l2_44 : Int32) : Option ((Sto × Int32) ⊕ Sto) :=
  if (fI σ_44 1998 4) ≤ l2_44 then
    some (.inr σ_44)
  else
    stp (0 : Int32) fun x3_8 =>
    stp (0 : Int32) fun x4_9 =>
    f3_countSame_j60 a1 σ_44 l2_44 x3_8 x4_9
def f3_countSame_j44 (a1 : Nat) (σ_44 : Sto) (l2_44 : Int32) : Option (Int32 × Sto) :=
  bnd (loopF (fun s_44 => f3_countSame_b44 a1 s_44.1 s_44.2) FU (σ_44, l2_44)) fun r_44 =>
    gd (inb (fI r_44 a1 4) 301) <|
    some (aI r_44 2014 (Int32.toNatClampNeg (fI r_44 a1 4)), r_44)
def f3_countSame_b21 (a1 : Nat) (σ_21 : Sto) (l2_21 : Int32) : Option ((Sto × Int32) ⊕ Sto) :=
  if (fI σ_21 a1 4) < l2_21 then
    some (.inr σ_21)
  else
    gd (inb l2_21 301) <|
    stp (uA σ_21 2014 (Int32.toNatClampNeg l2_21) (0 : Int32)) fun σx_11 =>
    stp (l2_21 + (1 : Int32)) fun x2_12 =>
    some (.inl (σx_11, x2_12))
def f3_countSame_j21 (a1 : Nat) (σ_21 : Sto) (l2_21 : Int32) : Option (Int32 × Sto) :=
  bnd (loopF (fun s_21 => f3_countSame_b21 a1 s_21.1 s_21.2) FU (σ_21, l2_21)) fun r_21 =>
    stp (0 : Int32) fun x2_13 =>
    f3_countSame_j44 a1 r_21 x2_13
def f3_countSame (σ : Sto) (a1 : Nat) : Option (Int32 × Sto) :=
  bnd (f3_fillSums σ 1998 2012) fun p_13 =>
  bnd (f3_fillSums p_13 a1 2013) fun p_14 =>
  stp (0 : Int32) fun x2_14 =>
  f3_countSame_j21 a1 p_14 x2_14
set_option maxHeartbeats 4000000 in
set_option maxRecDepth 100000 in
theorem k3_countSame {l : Launch} {K : JK} (hl : l.stackTraces = false) {σ : Sto} {a1 : Nat} (h_a1 : kc a1 = 8) {Qf : Int32 × Sto → Prop} (h : Ok (f3_countSame σ a1) Qf) : Con l K yX3_countSame (.code yX3_countSame cX3_countSame 6 (some .int) :: TB) 2 0 0 False [.ref (K.2.2 + 1997), .ref (K.2.2 + a1)] 2017 (jw K σ) (PR Qf (fun p => some (.int p.1)) (fun p => jw K p.2)) PN := by
  refine Con.enter (own := RX3) hl (by decide) rfl (Nat.le_of_ble_eq_true rfl) ?_
  intro X hX hR C hret hnt
  generalize hQQ : jQ X K 0 0 (PR Qf (fun p => some (.int p.1)) (fun p => jw K p.2)) PN False = QQ
  change J X K 6 False QQ 0 0 2017 (jw K σ) 0 [(0, .ref (K.2.2 + 1997)), (1, .ref (K.2.2 + a1))] []
  have hj_44 : (∀ (σ_44 : Sto) (l2_44 : Int32), Ok (f3_countSame_j44 a1 σ_44 l2_44) Qf → J X K 6 False QQ 0 0 2017 (jw K σ_44) 44 [(0, .ref (K.2.2 + 1997)), (1, .ref (K.2.2 + a1)), (2, .int l2_44)] []) := by
    intro σ_44 l2_44 h
    unfold f3_countSame_j44 at h
    refine loop_gen (S := Sto × Int32) (P := fun s_44 => J X K 6 False QQ 0 0 2017 (jw K s_44.1) 44 [(0, .ref (K.2.2 + 1997)), (1, .ref (K.2.2 + a1)), (2, .int s_44.2)] []) ?_ FU (σ_44, l2_44) (Ok.ofbnd h)
    intro B_44 hB_44 hE_44 s_44 h
    obtain ⟨σ_44, l2_44⟩ := s_44
    have h : Ok (f3_countSame_b44 a1 σ_44 l2_44) B_44 := h
    change J X K 6 False QQ 0 0 2017 (jw K σ_44) 44 [(0, .ref (K.2.2 + 1997)), (1, .ref (K.2.2 + a1)), (2, .int l2_44)] []
    have hj_60 : (∀ (σ_60 : Sto) (l2_60 : Int32) (l3_60 : Int32) (l4_60 : Int32), Ok (f3_countSame_j60 a1 σ_60 l2_60 l3_60 l4_60) B_44 → J X K 6 False QQ 0 0 2017 (jw K σ_60) 60 [(0, .ref (K.2.2 + 1997)), (1, .ref (K.2.2 + a1)), (2, .int l2_60), (3, .int l3_60), (4, .int l4_60)] []) := by
      intro σ_60 l2_60 l3_60 l4_60 h
      unfold f3_countSame_j60 at h
      refine loop_gen (S := Sto × Int32 × Int32) (P := fun s_60 => J X K 6 False QQ 0 0 2017 (jw K s_60.1) 60 [(0, .ref (K.2.2 + 1997)), (1, .ref (K.2.2 + a1)), (2, .int l2_60), (3, .int s_60.2.1), (4, .int s_60.2.2)] []) ?_ FU (σ_60, l3_60, l4_60) (Ok.ofbnd h)
      intro B_60 hB_60 hE_60 s_60 h
      obtain ⟨σ_60, l3_60, l4_60⟩ := s_60
      have h : Ok (f3_countSame_b60 a1 σ_60 l2_60 l3_60 l4_60) B_60 := h
      change J X K 6 False QQ 0 0 2017 (jw K σ_60) 60 [(0, .ref (K.2.2 + 1997)), (1, .ref (K.2.2 + a1)), (2, .int l2_60), (3, .int l3_60), (4, .int l4_60)] []
      have hj_127 : (∀ (σ_127 : Sto) (l4_127 : Int32) (l5_127 : Int32), Ok (f3_countSame_j127 a1 l2_60 σ_127 l4_127 l5_127) B_60 → J X K 6 False QQ 0 0 2017 (jw K σ_127) 127 [(0, .ref (K.2.2 + 1997)), (1, .ref (K.2.2 + a1)), (2, .int l2_60), (4, .int l4_127), (5, .int l5_127)] []) := by
        intro σ_127 l4_127 l5_127 h
        unfold f3_countSame_j127 at h
        refine J_iload (i := 5) (p := 4) C dX3_countSame_127 rfl rfl ?_
        obtain ⟨x3_1, e_x3_1, h⟩ := Ok.nm h
        refine J_istoreE_n (i := 3) (lv' := [(3, .int x3_1), (0, .ref (K.2.2 + 1997)), (1, .ref (K.2.2 + a1)), (2, .int l2_60), (4, .int l4_127), (5, .int l5_127)]) C e_x3_1 dX3_countSame_129 rfl (Nat.le_of_ble_eq_true rfl) rfl rfl ?_
        obtain ⟨x4_2, e_x4_2, h⟩ := Ok.nm h
        refine J_iincE (i := 4) (p := 4) (lv' := [(4, .int x4_2), (3, .int x3_1), (0, .ref (K.2.2 + 1997)), (1, .ref (K.2.2 + a1)), (2, .int l2_60), (5, .int l5_127)]) C e_x4_2 dX3_countSame_130 rfl (by decide) (Nat.le_of_ble_eq_true rfl) rfl rfl ?_
        refine J_goto (t := 60) C dX3_countSame_133 (by decide) ?_
        refine J.sub [2, 3, 4, 1, 0] rfl ?_
        exact hB_60 (σ_127, x3_1, x4_2) h.osome
      unfold f3_countSame_b60 at h
      refine J_iload (i := 4) (p := 4) C dX3_countSame_60 rfl rfl ?_
      refine J_aload_n (i := 1) (p := 1) C dX3_countSame_62 rfl rfl rfl ?_
      refine Jc_getI C fp_RX3_35 h_a1 rfl dX3_countSame_63 rfl ?_
      refine J_icmp_ge (t := 136) C dX3_countSame_66 (by decide) rfl (fun c_1 => ?_) (fun c_1 => ?_)
      · have h := h.pos c_1
        have h := hE_60 σ_60 h.osome
        try dsimp only at h
        obtain ⟨x2_3, e_x2_3, h⟩ := Ok.nm h
        refine J_iincE (i := 2) (p := 2) (lv' := [(2, .int x2_3), (0, .ref (K.2.2 + 1997)), (1, .ref (K.2.2 + a1)), (3, .int l3_60), (4, .int l4_60)]) C e_x2_3 dX3_countSame_136 rfl (by decide) (Nat.le_of_ble_eq_true rfl) rfl rfl ?_
        refine J_goto (t := 44) C dX3_countSame_139 (by decide) ?_
        refine J.sub [1, 2, 0] rfl ?_
        exact hB_44 (σ_60, x2_3) h.osome
      · have h := h.neg c_1
        refine J_aload_n (i := 0) (p := 0) C dX3_countSame_69 rfl rfl rfl ?_
        refine Jc_getS (o2 := 17) (r2 := 2014) C fp_RX3_28 rfl rfl rfl dX3_countSame_70 rfl ?_
        refine J_iload (i := 4) (p := 4) C dX3_countSame_73 rfl rfl ?_
        refine J_iconst (v := 1) C (by decide) dX3_countSame_75 rfl ?_
        refine J_iadd C dX3_countSame_76 rfl ?_
        obtain ⟨g_2, h⟩ := Ok.ofgd h
        refine Jc_iald C rfl rfl g_2 dX3_countSame_77 rfl ?_
        obtain ⟨x5_4, e_x5_4, h⟩ := Ok.nm h
        refine J_istoreE (i := 5) (lv' := [(5, .int x5_4), (0, .ref (K.2.2 + 1997)), (1, .ref (K.2.2 + a1)), (2, .int l2_60), (3, .int l3_60), (4, .int l4_60)]) C e_x5_4 dX3_countSame_78 (Nat.le_of_ble_eq_true rfl) rfl rfl ?_
        refine J_aload_n (i := 0) (p := 1) C dX3_countSame_80 rfl rfl rfl ?_
        refine J_iload_n (i := 2) (p := 3) C dX3_countSame_81 rfl rfl rfl ?_
        refine J_aload_n (i := 1) (p := 2) C dX3_countSame_82 rfl rfl rfl ?_
        refine J_iload (i := 4) (p := 5) C dX3_countSame_83 rfl rfl ?_
        refine Jc_cV (rest := []) (st9 := fun p_3 => [.int p_3]) C hR hX cv_RX3_39 rfl (Nat.le_of_ble_eq_true rfl) (k3_isSame hl h_a1 (Ok.ofbnd h)) rfl rfl (Nat.le_of_ble_eq_true rfl) (Nat.le_of_ble_eq_true rfl) (Nat.le_of_ble_eq_true rfl) ⟨(Nat.le_of_ble_eq_true rfl), (Nat.le_of_ble_eq_true rfl)⟩ dX3_countSame_85 rfl (fun E n9 w9 hx => JT_n hx) (fun _ => rfl) (fun p_3 h => ?_)
        have h : Ok _ _ := h
        change J X K 6 False QQ 0 0 2017 (jw K σ_60) 88 [(5, .int x5_4), (0, .ref (K.2.2 + 1997)), (1, .ref (K.2.2 + a1)), (2, .int l2_60), (3, .int l3_60), (4, .int l4_60)] [.int p_3]
        refine J_if_eq (t := 106) C dX3_countSame_88 (by decide) rfl (fun c_4 => ?_) (fun c_4 => ?_)
        · have h := h.pos c_4
          refine J_aload_n (i := 0) (p := 1) C dX3_countSame_106 rfl rfl rfl ?_
          refine Jc_getS (o2 := 17) (r2 := 2014) C fp_RX3_28 rfl rfl rfl dX3_countSame_107 rfl ?_
          refine J_iload (i := 4) (p := 5) C dX3_countSame_110 rfl rfl ?_
          refine J_iconst (v := 1) C (by decide) dX3_countSame_112 rfl ?_
          refine J_iadd C dX3_countSame_113 rfl ?_
          refine J_iload (i := 5) (p := 0) C dX3_countSame_114 rfl rfl ?_
          refine J_aload_n (i := 0) (p := 1) C dX3_countSame_116 rfl rfl rfl ?_
          refine Jc_getS (o2 := 17) (r2 := 2014) C fp_RX3_28 rfl rfl rfl dX3_countSame_117 rfl ?_
          refine J_iload (i := 4) (p := 5) C dX3_countSame_120 rfl rfl ?_
          obtain ⟨g_5, h⟩ := Ok.ofgd h
          refine Jc_iald C rfl rfl g_5 dX3_countSame_122 rfl ?_
          refine J_mmax C hR mm_RX3_43 (Nat.le_of_ble_eq_true rfl) (Nat.le_of_ble_eq_true rfl) (Nat.le_of_ble_eq_true rfl) (Nat.le_of_ble_eq_true rfl) dX3_countSame_123 rfl ?_
          obtain ⟨g_6, h⟩ := Ok.ofgd h
          obtain ⟨σx_5, e_σx_5, h⟩ := Ok.nm h
          refine Jc_iast C id rfl rfl g_6 e_σx_5 dX3_countSame_126 rfl ?_
          refine J.sub [1, 2, 3, 5, 0] rfl ?_
          exact hj_127 σx_5 l4_60 x5_4 h
        · have h := h.neg c_4
          refine J_aload_n (i := 0) (p := 1) C dX3_countSame_91 rfl rfl rfl ?_
          refine Jc_getS (o2 := 17) (r2 := 2014) C fp_RX3_28 rfl rfl rfl dX3_countSame_92 rfl ?_
          refine J_iload (i := 4) (p := 5) C dX3_countSame_95 rfl rfl ?_
          refine J_iconst (v := 1) C (by decide) dX3_countSame_97 rfl ?_
          refine J_iadd C dX3_countSame_98 rfl ?_
          refine J_iload_n (i := 3) (p := 4) C dX3_countSame_99 rfl rfl rfl ?_
          refine J_iconst (v := 1) C (by decide) dX3_countSame_100 rfl ?_
          refine J_iadd C dX3_countSame_101 rfl ?_
          obtain ⟨g_7, h⟩ := Ok.ofgd h
          obtain ⟨σx_6, e_σx_6, h⟩ := Ok.nm h
          refine Jc_iast C id rfl rfl g_7 e_σx_6 dX3_countSame_102 rfl ?_
          refine J_goto (t := 127) C dX3_countSame_103 (by decide) ?_
          refine J.sub [1, 2, 3, 5, 0] rfl ?_
          exact hj_127 σx_6 l4_60 x5_4 h
    unfold f3_countSame_b44 at h
    refine J_iload_n (i := 2) (p := 2) C dX3_countSame_44 rfl rfl rfl ?_
    refine J_aload_n (i := 0) (p := 0) C dX3_countSame_45 rfl rfl rfl ?_
    refine Jc_getS (o2 := 1) (r2 := 1998) C fp_RX3_12 rfl rfl rfl dX3_countSame_46 rfl ?_
    refine Jc_getI C fp_RX3_35 rfl rfl dX3_countSame_49 rfl ?_
    refine J_icmp_ge (t := 142) C dX3_countSame_52 (by decide) rfl (fun c_8 => ?_) (fun c_8 => ?_)
    · have h := h.pos c_8
      have h := hE_44 σ_44 h.osome
      try dsimp only at h
      refine J_aload_n (i := 0) (p := 0) C dX3_countSame_142 rfl rfl rfl ?_
      refine Jc_getS (o2 := 17) (r2 := 2014) C fp_RX3_28 rfl rfl rfl dX3_countSame_143 rfl ?_
      refine J_aload_n (i := 1) (p := 1) C dX3_countSame_146 rfl rfl rfl ?_
      refine Jc_getI C fp_RX3_35 h_a1 rfl dX3_countSame_147 rfl ?_
      obtain ⟨g_9, h⟩ := Ok.ofgd h
      refine Jc_iald C rfl rfl g_9 dX3_countSame_150 rfl ?_
      rw [← hQQ]
      exact J_iret C hret (Nat.le_of_ble_eq_true rfl) (Nat.le_of_ble_eq_true rfl) ⟨_, h.osome, rfl, rfl, rfl⟩ dX3_countSame_151
    · have h := h.neg c_8
      refine J_iconst (v := 0) C (by decide) dX3_countSame_55 rfl ?_
      obtain ⟨x3_8, e_x3_8, h⟩ := Ok.nm h
      refine J_istoreE_n (i := 3) (lv' := [(3, .int x3_8), (0, .ref (K.2.2 + 1997)), (1, .ref (K.2.2 + a1)), (2, .int l2_44)]) C e_x3_8 dX3_countSame_56 rfl (Nat.le_of_ble_eq_true rfl) rfl rfl ?_
      refine J_iconst (v := 0) C (by decide) dX3_countSame_57 rfl ?_
      obtain ⟨x4_9, e_x4_9, h⟩ := Ok.nm h
      refine J_istoreE (i := 4) (lv' := [(4, .int x4_9), (3, .int x3_8), (0, .ref (K.2.2 + 1997)), (1, .ref (K.2.2 + a1)), (2, .int l2_44)]) C e_x4_9 dX3_countSame_58 (Nat.le_of_ble_eq_true rfl) rfl rfl ?_
      refine J.sub [2, 3, 4, 1, 0] rfl ?_
      exact hj_60 σ_44 l2_44 x3_8 x4_9 h
  have hj_21 : (∀ (σ_21 : Sto) (l2_21 : Int32), Ok (f3_countSame_j21 a1 σ_21 l2_21) Qf → J X K 6 False QQ 0 0 2017 (jw K σ_21) 21 [(0, .ref (K.2.2 + 1997)), (1, .ref (K.2.2 + a1)), (2, .int l2_21)] []) := by
    intro σ_21 l2_21 h
    unfold f3_countSame_j21 at h
    refine loop_gen (S := Sto × Int32) (P := fun s_21 => J X K 6 False QQ 0 0 2017 (jw K s_21.1) 21 [(0, .ref (K.2.2 + 1997)), (1, .ref (K.2.2 + a1)), (2, .int s_21.2)] []) ?_ FU (σ_21, l2_21) (Ok.ofbnd h)
    intro B_21 hB_21 hE_21 s_21 h
    obtain ⟨σ_21, l2_21⟩ := s_21
    have h : Ok (f3_countSame_b21 a1 σ_21 l2_21) B_21 := h
    change J X K 6 False QQ 0 0 2017 (jw K σ_21) 21 [(0, .ref (K.2.2 + 1997)), (1, .ref (K.2.2 + a1)), (2, .int l2_21)] []
    unfold f3_countSame_b21 at h
    refine J_iload_n (i := 2) (p := 2) C dX3_countSame_21 rfl rfl rfl ?_
    refine J_aload_n (i := 1) (p := 1) C dX3_countSame_22 rfl rfl rfl ?_
    refine Jc_getI C fp_RX3_35 h_a1 rfl dX3_countSame_23 rfl ?_
    refine J_icmp_gt (t := 42) C dX3_countSame_26 (by decide) rfl (fun c_11 => ?_) (fun c_11 => ?_)
    · have h := h.pos c_11
      have h := hE_21 σ_21 h.osome
      try dsimp only at h
      refine J_iconst (v := 0) C (by decide) dX3_countSame_42 rfl ?_
      obtain ⟨x2_10, e_x2_10, h⟩ := Ok.nm h
      refine J_istoreE_n (i := 2) (lv' := [(2, .int x2_10), (0, .ref (K.2.2 + 1997)), (1, .ref (K.2.2 + a1))]) C e_x2_10 dX3_countSame_43 rfl (Nat.le_of_ble_eq_true rfl) rfl rfl ?_
      refine J.sub [1, 2, 0] rfl ?_
      exact hj_44 σ_21 x2_10 h
    · have h := h.neg c_11
      refine J_aload_n (i := 0) (p := 0) C dX3_countSame_29 rfl rfl rfl ?_
      refine Jc_getS (o2 := 17) (r2 := 2014) C fp_RX3_28 rfl rfl rfl dX3_countSame_30 rfl ?_
      refine J_iload_n (i := 2) (p := 2) C dX3_countSame_33 rfl rfl rfl ?_
      refine J_iconst (v := 0) C (by decide) dX3_countSame_34 rfl ?_
      obtain ⟨g_12, h⟩ := Ok.ofgd h
      obtain ⟨σx_11, e_σx_11, h⟩ := Ok.nm h
      refine Jc_iast C id rfl rfl g_12 e_σx_11 dX3_countSame_35 rfl ?_
      obtain ⟨x2_12, e_x2_12, h⟩ := Ok.nm h
      refine J_iincE (i := 2) (p := 2) (lv' := [(2, .int x2_12), (0, .ref (K.2.2 + 1997)), (1, .ref (K.2.2 + a1))]) C e_x2_12 dX3_countSame_36 rfl (by decide) (Nat.le_of_ble_eq_true rfl) rfl rfl ?_
      refine J_goto (t := 21) C dX3_countSame_39 (by decide) ?_
      refine J.sub [1, 2, 0] rfl ?_
      exact hB_21 (σx_11, x2_12) h.osome
  unfold f3_countSame at h
  refine J_aload_n (i := 0) (p := 0) C dX3_countSame_0 rfl rfl rfl ?_
  refine Jc_getS (o2 := 1) (r2 := 1998) C fp_RX3_12 rfl rfl rfl dX3_countSame_1 rfl ?_
  refine J_aload_n (i := 0) (p := 0) C dX3_countSame_4 rfl rfl rfl ?_
  refine Jc_getS (o2 := 15) (r2 := 2012) C fp_RX3_21 rfl rfl rfl dX3_countSame_5 rfl ?_
  refine J_cS (rest := []) (st9 := fun p_13 => []) C hR hX cs_RX3_31 (k3_fillSums hl rfl rfl (Ok.ofbnd h)) rfl rfl (Nat.le_of_ble_eq_true rfl) (Nat.le_of_ble_eq_true rfl) (Nat.le_of_ble_eq_true rfl) ⟨(Nat.le_of_ble_eq_true rfl), (Nat.le_of_ble_eq_true rfl)⟩ dX3_countSame_8 rfl (fun E n9 w9 hx => JT_n hx) (fun _ => rfl) (fun p_13 h => ?_)
  have h : Ok _ _ := h
  change J X K 6 False QQ 0 0 2017 (jw K p_13) 11 [(0, .ref (K.2.2 + 1997)), (1, .ref (K.2.2 + a1))] []
  refine J_aload_n (i := 1) (p := 1) C dX3_countSame_11 rfl rfl rfl ?_
  refine J_aload_n (i := 0) (p := 0) C dX3_countSame_12 rfl rfl rfl ?_
  refine Jc_getS (o2 := 16) (r2 := 2013) C fp_RX3_25 rfl rfl rfl dX3_countSame_13 rfl ?_
  refine J_cS (rest := []) (st9 := fun p_14 => []) C hR hX cs_RX3_31 (k3_fillSums hl h_a1 rfl (Ok.ofbnd h)) rfl rfl (Nat.le_of_ble_eq_true rfl) (Nat.le_of_ble_eq_true rfl) (Nat.le_of_ble_eq_true rfl) ⟨(Nat.le_of_ble_eq_true rfl), (Nat.le_of_ble_eq_true rfl)⟩ dX3_countSame_16 rfl (fun E n9 w9 hx => JT_n hx) (fun _ => rfl) (fun p_14 h => ?_)
  have h : Ok _ _ := h
  change J X K 6 False QQ 0 0 2017 (jw K p_14) 19 [(0, .ref (K.2.2 + 1997)), (1, .ref (K.2.2 + a1))] []
  refine J_iconst (v := 0) C (by decide) dX3_countSame_19 rfl ?_
  obtain ⟨x2_14, e_x2_14, h⟩ := Ok.nm h
  refine J_istoreE_n (i := 2) (lv' := [(2, .int x2_14), (0, .ref (K.2.2 + 1997)), (1, .ref (K.2.2 + a1))]) C e_x2_14 dX3_countSame_20 rfl (Nat.le_of_ble_eq_true rfl) rfl rfl ?_
  refine J.sub [1, 2, 0] rfl ?_
  exact hj_21 p_14 x2_14 h
def f11_differences (σ : Sto) : Option (Int32 × Sto) :=
  bnd (f3_countSame σ 1) fun p_1 =>
  stp p_1.1 fun x1_1 =>
  some (((fI p_1.2 1998 4) + (fI p_1.2 1 4)) - ((2 : Int32) * x1_1), p_1.2)
set_option maxHeartbeats 4000000 in
set_option maxRecDepth 100000 in
theorem k11_differences {l : Launch} {K : JK} (hl : l.stackTraces = false) {σ : Sto}   {Qf : Int32 × Sto → Prop} (h : Ok (f11_differences σ) Qf) : Con l K yX11_differences (.code yX11_differences cX11_differences 2 (some .int) :: TB) 3 0 0 False [.ref (K.2.2 + 0)] 2017 (jw K σ) (PR Qf (fun p => some (.int p.1)) (fun p => jw K p.2)) PN := by
  refine Con.enter (own := RX11) hl (by decide) rfl (Nat.le_of_ble_eq_true rfl) ?_
  intro X hX hR C hret hnt
  generalize hQQ : jQ X K 0 0 (PR Qf (fun p => some (.int p.1)) (fun p => jw K p.2)) PN False = QQ
  change J X K 2 False QQ 0 0 2017 (jw K σ) 0 [(0, .ref (K.2.2 + 0))] []
  unfold f11_differences at h
  refine J_aload_n (i := 0) (p := 0) C dX11_differences_0 rfl rfl rfl ?_
  refine Jc_getS (o2 := 1997) (r2 := 1997) C fp_RX11_63 rfl rfl rfl dX11_differences_1 rfl ?_
  refine J_aload_n (i := 0) (p := 0) C dX11_differences_4 rfl rfl rfl ?_
  refine Jc_getS (o2 := 1) (r2 := 1) C fp_RX11_10 rfl rfl rfl dX11_differences_5 rfl ?_
  refine Jc_cV (rest := []) (st9 := fun p_1 => [.int p_1.1]) C hR hX cv_RX11_385 rfl (Nat.le_of_ble_eq_true rfl) (k3_countSame hl rfl (Ok.ofbnd h)) rfl rfl (Nat.le_of_ble_eq_true rfl) (Nat.le_of_ble_eq_true rfl) (Nat.le_of_ble_eq_true rfl) ⟨(Nat.le_of_ble_eq_true rfl), (Nat.le_of_ble_eq_true rfl)⟩ dX11_differences_8 rfl (fun E n9 w9 hx => JT_n hx) (fun _ => rfl) (fun p_1 h => ?_)
  have h : Ok _ _ := h
  change J X K 2 False QQ 0 0 2017 (jw K p_1.2) 11 [(0, .ref (K.2.2 + 0))] [.int p_1.1]
  obtain ⟨x1_1, e_x1_1, h⟩ := Ok.nm h
  refine J_istoreE_n (i := 1) (lv' := [(1, .int x1_1), (0, .ref (K.2.2 + 0))]) C e_x1_1 dX11_differences_11 rfl (Nat.le_of_ble_eq_true rfl) rfl rfl ?_
  refine J_aload_n (i := 0) (p := 1) C dX11_differences_12 rfl rfl rfl ?_
  refine Jc_getS (o2 := 1997) (r2 := 1997) C fp_RX11_63 rfl rfl rfl dX11_differences_13 rfl ?_
  refine Jc_getS (o2 := 1) (r2 := 1998) C fp_RX11_379 rfl rfl rfl dX11_differences_16 rfl ?_
  refine Jc_getI C fp_RX11_116 rfl rfl dX11_differences_19 rfl ?_
  refine J_aload_n (i := 0) (p := 1) C dX11_differences_22 rfl rfl rfl ?_
  refine Jc_getS (o2 := 1) (r2 := 1) C fp_RX11_10 rfl rfl rfl dX11_differences_23 rfl ?_
  refine Jc_getI C fp_RX11_116 rfl rfl dX11_differences_26 rfl ?_
  refine J_iadd C dX11_differences_29 rfl ?_
  refine J_iconst (v := 2) C (by decide) dX11_differences_30 rfl ?_
  refine J_iload_n (i := 1) (p := 0) C dX11_differences_31 rfl rfl rfl ?_
  refine J_imul C dX11_differences_32 rfl ?_
  refine J_isub C dX11_differences_33 rfl ?_
  rw [← hQQ]
  exact J_iret C hret (Nat.le_of_ble_eq_true rfl) (Nat.le_of_ble_eq_true rfl) ⟨_, h.osome, rfl, rfl, rfl⟩ dX11_differences_34
def f11_sameShare (σ : Sto) : Option (UInt32 × Sto) :=
  bnd (f3_countSame σ 1) fun p_1 =>
  gd (nf32 (FP.fdiv (FP.i2f p_1.1) (FP.i2f (fI p_1.2 1 4)))) <|
  some (FP.fdiv (FP.i2f p_1.1) (FP.i2f (fI p_1.2 1 4)), p_1.2)
set_option maxHeartbeats 4000000 in
set_option maxRecDepth 100000 in
theorem k11_sameShare {l : Launch} {K : JK} (hl : l.stackTraces = false) {σ : Sto}   {Qf : UInt32 × Sto → Prop} (h : Ok (f11_sameShare σ) Qf) : Con l K yX11_sameShare (.code yX11_sameShare cX11_sameShare 1 (some .float) :: TB) 3 0 0 False [.ref (K.2.2 + 0)] 2017 (jw K σ) (PR Qf (fun p => some (.float p.1)) (fun p => jw K p.2)) PN := by
  refine Con.enter (own := RX11) hl (by decide) rfl (Nat.le_of_ble_eq_true rfl) ?_
  intro X hX hR C hret hnt
  generalize hQQ : jQ X K 0 0 (PR Qf (fun p => some (.float p.1)) (fun p => jw K p.2)) PN False = QQ
  change J X K 1 False QQ 0 0 2017 (jw K σ) 0 [(0, .ref (K.2.2 + 0))] []
  unfold f11_sameShare at h
  refine J_aload_n (i := 0) (p := 0) C dX11_sameShare_0 rfl rfl rfl ?_
  refine Jc_getS (o2 := 1997) (r2 := 1997) C fp_RX11_63 rfl rfl rfl dX11_sameShare_1 rfl ?_
  refine J_aload_n (i := 0) (p := 0) C dX11_sameShare_4 rfl rfl rfl ?_
  refine Jc_getS (o2 := 1) (r2 := 1) C fp_RX11_10 rfl rfl rfl dX11_sameShare_5 rfl ?_
  refine Jc_cV (rest := []) (st9 := fun p_1 => [.int p_1.1]) C hR hX cv_RX11_385 rfl (Nat.le_of_ble_eq_true rfl) (k3_countSame hl rfl (Ok.ofbnd h)) rfl rfl (Nat.le_of_ble_eq_true rfl) (Nat.le_of_ble_eq_true rfl) (Nat.le_of_ble_eq_true rfl) ⟨(Nat.le_of_ble_eq_true rfl), (Nat.le_of_ble_eq_true rfl)⟩ dX11_sameShare_8 rfl (fun E n9 w9 hx => JT_n hx) (fun _ => rfl) (fun p_1 h => ?_)
  have h : Ok _ _ := h
  change J X K 1 False QQ 0 0 2017 (jw K p_1.2) 11 [(0, .ref (K.2.2 + 0))] [.int p_1.1]
  refine J_i2f C dX11_sameShare_11 rfl ?_
  refine J_aload_n (i := 0) (p := 0) C dX11_sameShare_12 rfl rfl rfl ?_
  refine Jc_getS (o2 := 1) (r2 := 1) C fp_RX11_10 rfl rfl rfl dX11_sameShare_13 rfl ?_
  refine Jc_getI C fp_RX11_116 rfl rfl dX11_sameShare_16 rfl ?_
  refine J_i2f C dX11_sameShare_19 rfl ?_
  obtain ⟨g_2, h⟩ := Ok.ofgd h
  refine J_fdiv C (nf32_spec g_2) dX11_sameShare_20 rfl ?_
  rw [← hQQ]
  exact J_fret C hret (Nat.le_of_ble_eq_true rfl) (Nat.le_of_ble_eq_true rfl) ⟨_, h.osome, rfl, rfl, rfl⟩ dX11_sameShare_21
def f8_hasTrueBegins_j96 (a0 : Nat) (σ : Sto) (s0_96 : Int32) : Option (Int32) :=
  gd (isB s0_96) <|
  some s0_96
def f8_hasTrueBegins_j95 (a0 : Nat) (σ : Sto) : Option (Int32) :=
  f8_hasTrueBegins_j96 a0 σ (0 : Int32)
def f8_hasTrueBegins_j71 (a0 : Nat) (σ : Sto) (l1_71 : Int32) (l2_71 : Int32) (l3_71 : Int32) : Option ((Int32 × Int32 × Int32) ⊕ (Int32 × Int32)) :=
  stp (l3_71 + (1 : Int32)) fun x3_1 =>
  some (.inl (l1_71, l2_71, x3_1))
def f8_hasTrueBegins_j70 (a0 : Nat) (σ : Sto) (l1_70 : Int32) (l3_70 : Int32) (s0_70 : Int32) : Option ((Int32 × Int32 × Int32) ⊕ (Int32 × Int32)) :=
  stp s0_70 fun x2_2 =>
  f8_hasTrueBegins_j71 a0 σ l1_70 x2_2 l3_70
def f8_hasTrueBegins_j69 (a0 : Nat) (σ : Sto) (l1_69 : Int32) (l3_69 : Int32) : Option ((Int32 × Int32 × Int32) ⊕ (Int32 × Int32)) :=
  f8_hasTrueBegins_j70 a0 σ l1_69 l3_69 (0 : Int32)
def f8_hasTrueBegins_b19 (a0 : Nat) (σ : Sto) (l1_19 : Int32) (l2_19 : Int32) (l3_19 : Int32) : Option ((Int32 × Int32 × Int32) ⊕ (Int32 × Int32)) :=
  if (fI σ a0 1) ≤ l3_19 then
    some (.inr (l1_19, l2_19))
  else
    gd (okr (fR σ a0 0) 13) <|
    gd (inb l3_19 (ln ((fR σ a0 0) - 1))) <|
    if (aI σ ((fR σ a0 0) - 1) (Int32.toNatClampNeg l3_19)) = (10 : Int32) then
      stp (l1_19 + (1 : Int32)) fun x1_3 =>
      if l2_19 = 0 then
        f8_hasTrueBegins_j69 a0 σ x1_3 l3_19
      else
        if (fI σ a0 4) ≤ x1_3 then
          f8_hasTrueBegins_j69 a0 σ x1_3 l3_19
        else
          gd (okr (fR σ a0 2) 12) <|
          gd (inb x1_3 (ln ((fR σ a0 2) - 1))) <|
          if (aI σ ((fR σ a0 2) - 1) (Int32.toNatClampNeg x1_3)) = (l3_19 + (1 : Int32)) then
            f8_hasTrueBegins_j70 a0 σ x1_3 l3_19 (1 : Int32)
          else
            f8_hasTrueBegins_j69 a0 σ x1_3 l3_19
    else
      f8_hasTrueBegins_j71 a0 σ l1_19 l2_19 l3_19
def f8_hasTrueBegins_j19 (a0 : Nat) (σ : Sto) (l1_19 : Int32) (l2_19 : Int32) (l3_19 : Int32) : Option (Int32) :=
  bnd (loopF (fun s_19 => f8_hasTrueBegins_b19 a0 σ s_19.1 s_19.2.1 s_19.2.2) FU (l1_19, l2_19, l3_19)) fun r_19 =>
    if r_19.2 = 0 then
      f8_hasTrueBegins_j95 a0 σ
    else
      if (r_19.1 + (1 : Int32)) = (fI σ a0 4) then
        f8_hasTrueBegins_j96 a0 σ (1 : Int32)
      else
        f8_hasTrueBegins_j95 a0 σ
def f8_hasTrueBegins_j16 (a0 : Nat) (σ : Sto) (l1_16 : Int32) (s0_16 : Int32) : Option (Int32) :=
  stp s0_16 fun x2_4 =>
  stp (0 : Int32) fun x3_5 =>
  f8_hasTrueBegins_j19 a0 σ l1_16 x2_4 x3_5
def f8_hasTrueBegins (σ : Sto) (a0 : Nat) : Option (Int32) :=
  stp (0 : Int32) fun x1_6 =>
  gd (okr (fR σ a0 2) 12) <|
  gd (inb (0 : Int32) (ln ((fR σ a0 2) - 1))) <|
  if (aI σ ((fR σ a0 2) - 1) (Int32.toNatClampNeg (0 : Int32))) = 0 then
    f8_hasTrueBegins_j16 a0 σ x1_6 (1 : Int32)
  else
    f8_hasTrueBegins_j16 a0 σ x1_6 (0 : Int32)
set_option maxHeartbeats 4000000 in
set_option maxRecDepth 100000 in
theorem k8_hasTrueBegins {l : Launch} {K : JK} (hl : l.stackTraces = false) {σ : Sto} {a0 : Nat} (h_a0 : kc a0 = 8) {Qf : Int32 → Prop} (h : Ok (f8_hasTrueBegins σ a0) Qf) : Con l K yX8_hasTrueBegins (.code yX8_hasTrueBegins cX8_hasTrueBegins 4 (some .boolean) :: TB) 0 0 0 False [.ref (K.2.2 + a0)] 2017 (jw K σ) (PR Qf (fun p => some (.int p)) (fun p => jw K σ)) PN := by
  refine Con.enter (own := RX8) hl (by decide) rfl (Nat.le_of_ble_eq_true rfl) ?_
  intro X hX hR C hret hnt
  generalize hQQ : jQ X K 0 0 (PR Qf (fun p => some (.int p)) (fun p => jw K σ)) PN False = QQ
  change J X K 4 False QQ 0 0 2017 (jw K σ) 0 [(0, .ref (K.2.2 + a0))] []
  have hj_96 : (∀ (s0_96 : Int32), Ok (f8_hasTrueBegins_j96 a0 σ s0_96) Qf → J X K 4 False QQ 0 0 2017 (jw K σ) 96 [] [.int s0_96]) := by
    intro s0_96 h
    unfold f8_hasTrueBegins_j96 at h
    obtain ⟨g_1, h⟩ := Ok.ofgd h
    rw [← hQQ]
    exact J_zret C hret (narB g_1).1 (Nat.le_of_ble_eq_true rfl) (Nat.le_of_ble_eq_true rfl) ⟨_, h.osome, rfl, rfl, rfl⟩ dX8_hasTrueBegins_96
  have hj_95 : (Ok (f8_hasTrueBegins_j95 a0 σ) Qf → J X K 4 False QQ 0 0 2017 (jw K σ) 95 [] []) := by
    intro h
    unfold f8_hasTrueBegins_j95 at h
    refine J_iconst (v := 0) C (by decide) dX8_hasTrueBegins_95 rfl ?_
    exact hj_96 (0 : Int32) h
  have hj_19 : (∀ (l1_19 : Int32) (l2_19 : Int32) (l3_19 : Int32), Ok (f8_hasTrueBegins_j19 a0 σ l1_19 l2_19 l3_19) Qf → J X K 4 False QQ 0 0 2017 (jw K σ) 19 [(0, .ref (K.2.2 + a0)), (1, .int l1_19), (2, .int l2_19), (3, .int l3_19)] []) := by
    intro l1_19 l2_19 l3_19 h
    unfold f8_hasTrueBegins_j19 at h
    refine loop_gen (S := Int32 × Int32 × Int32) (P := fun s_19 => J X K 4 False QQ 0 0 2017 (jw K σ) 19 [(0, .ref (K.2.2 + a0)), (1, .int s_19.1), (2, .int s_19.2.1), (3, .int s_19.2.2)] []) ?_ FU (l1_19, l2_19, l3_19) (Ok.ofbnd h)
    intro B_19 hB_19 hE_19 s_19 h
    obtain ⟨l1_19, l2_19, l3_19⟩ := s_19
    have h : Ok (f8_hasTrueBegins_b19 a0 σ l1_19 l2_19 l3_19) B_19 := h
    change J X K 4 False QQ 0 0 2017 (jw K σ) 19 [(0, .ref (K.2.2 + a0)), (1, .int l1_19), (2, .int l2_19), (3, .int l3_19)] []
    have hj_71 : (∀ (l1_71 : Int32) (l2_71 : Int32) (l3_71 : Int32), Ok (f8_hasTrueBegins_j71 a0 σ l1_71 l2_71 l3_71) B_19 → J X K 4 False QQ 0 0 2017 (jw K σ) 71 [(0, .ref (K.2.2 + a0)), (1, .int l1_71), (2, .int l2_71), (3, .int l3_71)] []) := by
      intro l1_71 l2_71 l3_71 h
      unfold f8_hasTrueBegins_j71 at h
      obtain ⟨x3_1, e_x3_1, h⟩ := Ok.nm h
      refine J_iincE (i := 3) (p := 3) (lv' := [(3, .int x3_1), (0, .ref (K.2.2 + a0)), (1, .int l1_71), (2, .int l2_71)]) C e_x3_1 dX8_hasTrueBegins_71 rfl (by decide) (Nat.le_of_ble_eq_true rfl) rfl rfl ?_
      refine J_goto (t := 19) C dX8_hasTrueBegins_74 (by decide) ?_
      refine J.sub [1, 2, 3, 0] rfl ?_
      exact hB_19 (l1_71, l2_71, x3_1) h.osome
    have hj_70 : (∀ (l1_70 : Int32) (l3_70 : Int32) (s0_70 : Int32), Ok (f8_hasTrueBegins_j70 a0 σ l1_70 l3_70 s0_70) B_19 → J X K 4 False QQ 0 0 2017 (jw K σ) 70 [(0, .ref (K.2.2 + a0)), (1, .int l1_70), (3, .int l3_70)] [.int s0_70]) := by
      intro l1_70 l3_70 s0_70 h
      unfold f8_hasTrueBegins_j70 at h
      obtain ⟨x2_2, e_x2_2, h⟩ := Ok.nm h
      refine J_istoreE_n (i := 2) (lv' := [(2, .int x2_2), (0, .ref (K.2.2 + a0)), (1, .int l1_70), (3, .int l3_70)]) C e_x2_2 dX8_hasTrueBegins_70 rfl (Nat.le_of_ble_eq_true rfl) rfl rfl ?_
      refine J.sub [1, 2, 0, 3] rfl ?_
      exact hj_71 l1_70 x2_2 l3_70 h
    have hj_69 : (∀ (l1_69 : Int32) (l3_69 : Int32), Ok (f8_hasTrueBegins_j69 a0 σ l1_69 l3_69) B_19 → J X K 4 False QQ 0 0 2017 (jw K σ) 69 [(0, .ref (K.2.2 + a0)), (1, .int l1_69), (3, .int l3_69)] []) := by
      intro l1_69 l3_69 h
      unfold f8_hasTrueBegins_j69 at h
      refine J_iconst (v := 0) C (by decide) dX8_hasTrueBegins_69 rfl ?_
      exact hj_70 l1_69 l3_69 (0 : Int32) h
    unfold f8_hasTrueBegins_b19 at h
    refine J_iload_n (i := 3) (p := 3) C dX8_hasTrueBegins_19 rfl rfl rfl ?_
    refine J_aload_n (i := 0) (p := 0) C dX8_hasTrueBegins_20 rfl rfl rfl ?_
    refine Jc_getI C fp_RX8_15 h_a0 rfl dX8_hasTrueBegins_21 rfl ?_
    refine J_icmp_ge (t := 77) C dX8_hasTrueBegins_24 (by decide) rfl (fun c_2 => ?_) (fun c_2 => ?_)
    · have h := h.pos c_2
      have h := hE_19 (l1_19, l2_19) h.osome
      try dsimp only at h
      refine J_iload_n (i := 2) (p := 2) C dX8_hasTrueBegins_77 rfl rfl rfl ?_
      refine J_if_eq (t := 95) C dX8_hasTrueBegins_78 (by decide) rfl (fun c_3 => ?_) (fun c_3 => ?_)
      · have h := h.pos c_3
        refine J.sub [] rfl ?_
        exact hj_95  h
      · have h := h.neg c_3
        refine J_iload_n (i := 1) (p := 1) C dX8_hasTrueBegins_81 rfl rfl rfl ?_
        refine J_iconst (v := 1) C (by decide) dX8_hasTrueBegins_82 rfl ?_
        refine J_iadd C dX8_hasTrueBegins_83 rfl ?_
        refine J_aload_n (i := 0) (p := 0) C dX8_hasTrueBegins_84 rfl rfl rfl ?_
        refine Jc_getI C fp_RX8_27 h_a0 rfl dX8_hasTrueBegins_85 rfl ?_
        refine J_icmp_ne (t := 95) C dX8_hasTrueBegins_88 (by decide) rfl (fun c_4 => ?_) (fun c_4 => ?_)
        · have h := h.neg c_4
          refine J.sub [] rfl ?_
          exact hj_95  h
        · have h := h.pos (Decidable.not_not.mp c_4)
          refine J_iconst (v := 1) C (by decide) dX8_hasTrueBegins_91 rfl ?_
          refine J_goto (t := 96) C dX8_hasTrueBegins_92 (by decide) ?_
          refine J.sub [] rfl ?_
          exact hj_96 (1 : Int32) h
    · have h := h.neg c_2
      refine J_aload_n (i := 0) (p := 0) C dX8_hasTrueBegins_27 rfl rfl rfl ?_
      refine Jc_getD C fp_RX8_9 h_a0 rfl dX8_hasTrueBegins_28 rfl ?_
      refine J_iload_n (i := 3) (p := 3) C dX8_hasTrueBegins_31 rfl rfl rfl ?_
      obtain ⟨g_5, h⟩ := Ok.ofgd h
      rw [jv_pos (r := fR σ a0 0) (okr_spec g_5).1]
      obtain ⟨g_6, h⟩ := Ok.ofgd h
      refine Jc_bald C (okr_spec g_5).2 rfl g_6 dX8_hasTrueBegins_32 rfl ?_
      refine J_bipush (v := 10) C (by decide) dX8_hasTrueBegins_33 rfl ?_
      refine J_icmp_ne (t := 71) C dX8_hasTrueBegins_35 (by decide) rfl (fun c_7 => ?_) (fun c_7 => ?_)
      · have h := h.neg c_7
        exact hj_71 l1_19 l2_19 l3_19 h
      · have h := h.pos (Decidable.not_not.mp c_7)
        obtain ⟨x1_3, e_x1_3, h⟩ := Ok.nm h
        refine J_iincE (i := 1) (p := 1) (lv' := [(1, .int x1_3), (0, .ref (K.2.2 + a0)), (2, .int l2_19), (3, .int l3_19)]) C e_x1_3 dX8_hasTrueBegins_38 rfl (by decide) (Nat.le_of_ble_eq_true rfl) rfl rfl ?_
        refine J_iload_n (i := 2) (p := 2) C dX8_hasTrueBegins_41 rfl rfl rfl ?_
        refine J_if_eq (t := 69) C dX8_hasTrueBegins_42 (by decide) rfl (fun c_8 => ?_) (fun c_8 => ?_)
        · have h := h.pos c_8
          refine J.sub [1, 0, 3] rfl ?_
          exact hj_69 x1_3 l3_19 h
        · have h := h.neg c_8
          refine J_iload_n (i := 1) (p := 0) C dX8_hasTrueBegins_45 rfl rfl rfl ?_
          refine J_aload_n (i := 0) (p := 1) C dX8_hasTrueBegins_46 rfl rfl rfl ?_
          refine Jc_getI C fp_RX8_27 h_a0 rfl dX8_hasTrueBegins_47 rfl ?_
          refine J_icmp_ge (t := 69) C dX8_hasTrueBegins_50 (by decide) rfl (fun c_9 => ?_) (fun c_9 => ?_)
          · have h := h.pos c_9
            refine J.sub [1, 0, 3] rfl ?_
            exact hj_69 x1_3 l3_19 h
          · have h := h.neg c_9
            refine J_aload_n (i := 0) (p := 1) C dX8_hasTrueBegins_53 rfl rfl rfl ?_
            refine Jc_getD C fp_RX8_19 h_a0 rfl dX8_hasTrueBegins_54 rfl ?_
            refine J_iload_n (i := 1) (p := 0) C dX8_hasTrueBegins_57 rfl rfl rfl ?_
            obtain ⟨g_10, h⟩ := Ok.ofgd h
            rw [jv_pos (r := fR σ a0 2) (okr_spec g_10).1]
            obtain ⟨g_11, h⟩ := Ok.ofgd h
            refine Jc_iald C (okr_spec g_10).2 rfl g_11 dX8_hasTrueBegins_58 rfl ?_
            refine J_iload_n (i := 3) (p := 3) C dX8_hasTrueBegins_59 rfl rfl rfl ?_
            refine J_iconst (v := 1) C (by decide) dX8_hasTrueBegins_60 rfl ?_
            refine J_iadd C dX8_hasTrueBegins_61 rfl ?_
            refine J_icmp_ne (t := 69) C dX8_hasTrueBegins_62 (by decide) rfl (fun c_12 => ?_) (fun c_12 => ?_)
            · have h := h.neg c_12
              refine J.sub [1, 0, 3] rfl ?_
              exact hj_69 x1_3 l3_19 h
            · have h := h.pos (Decidable.not_not.mp c_12)
              refine J_iconst (v := 1) C (by decide) dX8_hasTrueBegins_65 rfl ?_
              refine J_goto (t := 70) C dX8_hasTrueBegins_66 (by decide) ?_
              refine J.sub [1, 0, 3] rfl ?_
              exact hj_70 x1_3 l3_19 (1 : Int32) h
  have hj_16 : (∀ (l1_16 : Int32) (s0_16 : Int32), Ok (f8_hasTrueBegins_j16 a0 σ l1_16 s0_16) Qf → J X K 4 False QQ 0 0 2017 (jw K σ) 16 [(0, .ref (K.2.2 + a0)), (1, .int l1_16)] [.int s0_16]) := by
    intro l1_16 s0_16 h
    unfold f8_hasTrueBegins_j16 at h
    obtain ⟨x2_4, e_x2_4, h⟩ := Ok.nm h
    refine J_istoreE_n (i := 2) (lv' := [(2, .int x2_4), (0, .ref (K.2.2 + a0)), (1, .int l1_16)]) C e_x2_4 dX8_hasTrueBegins_16 rfl (Nat.le_of_ble_eq_true rfl) rfl rfl ?_
    refine J_iconst (v := 0) C (by decide) dX8_hasTrueBegins_17 rfl ?_
    obtain ⟨x3_5, e_x3_5, h⟩ := Ok.nm h
    refine J_istoreE_n (i := 3) (lv' := [(3, .int x3_5), (2, .int x2_4), (0, .ref (K.2.2 + a0)), (1, .int l1_16)]) C e_x3_5 dX8_hasTrueBegins_18 rfl (Nat.le_of_ble_eq_true rfl) rfl rfl ?_
    refine J.sub [2, 3, 1, 0] rfl ?_
    exact hj_19 l1_16 x2_4 x3_5 h
  unfold f8_hasTrueBegins at h
  refine J_iconst (v := 0) C (by decide) dX8_hasTrueBegins_0 rfl ?_
  obtain ⟨x1_6, e_x1_6, h⟩ := Ok.nm h
  refine J_istoreE_n (i := 1) (lv' := [(1, .int x1_6), (0, .ref (K.2.2 + a0))]) C e_x1_6 dX8_hasTrueBegins_1 rfl (Nat.le_of_ble_eq_true rfl) rfl rfl ?_
  refine J_aload_n (i := 0) (p := 1) C dX8_hasTrueBegins_2 rfl rfl rfl ?_
  refine Jc_getD C fp_RX8_19 h_a0 rfl dX8_hasTrueBegins_3 rfl ?_
  refine J_iconst (v := 0) C (by decide) dX8_hasTrueBegins_6 rfl ?_
  obtain ⟨g_15, h⟩ := Ok.ofgd h
  rw [jv_pos (r := fR σ a0 2) (okr_spec g_15).1]
  obtain ⟨g_16, h⟩ := Ok.ofgd h
  refine Jc_iald C (okr_spec g_15).2 rfl g_16 dX8_hasTrueBegins_7 rfl ?_
  refine J_if_ne (t := 15) C dX8_hasTrueBegins_8 (by decide) rfl (fun c_17 => ?_) (fun c_17 => ?_)
  · have h := h.neg c_17
    refine J_iconst (v := 0) C (by decide) dX8_hasTrueBegins_15 rfl ?_
    refine J.sub [1, 0] rfl ?_
    exact hj_16 x1_6 (0 : Int32) h
  · have h := h.pos (Decidable.not_not.mp c_17)
    refine J_iconst (v := 1) C (by decide) dX8_hasTrueBegins_11 rfl ?_
    refine J_goto (t := 16) C dX8_hasTrueBegins_12 (by decide) ?_
    refine J.sub [1, 0] rfl ?_
    exact hj_16 x1_6 (1 : Int32) h
def f8_hasTextOf_j58 (a0 : Nat) (a1 : Nat) (σ : Sto) (l2_58 : Int32) : Option (Int32) :=
  gd (isB l2_58) <|
  some l2_58
def f8_hasTextOf_j51 (a0 : Nat) (a1 : Nat) (σ : Sto) (l3_51 : Int32) (s0_51 : Int32) : Option ((Int32 × Int32) ⊕ Int32) :=
  stp s0_51 fun x2_1 =>
  stp (l3_51 + (1 : Int32)) fun x3_2 =>
  some (.inl (x2_1, x3_2))
def f8_hasTextOf_b19 (a0 : Nat) (a1 : Nat) (σ : Sto) (l2_19 : Int32) (l3_19 : Int32) : Option ((Int32 × Int32) ⊕ Int32) :=
  if l2_19 = 0 then
    some (.inr l2_19)
  else
    if (fI σ a0 1) ≤ l3_19 then
      some (.inr l2_19)
    else
      gd (okr (fR σ a0 0) 13) <|
      gd (inb l3_19 (ln ((fR σ a0 0) - 1))) <|
      gd (okr (fR σ a1 0) 13) <|
      gd (inb l3_19 (ln ((fR σ a1 0) - 1))) <|
      if (aI σ ((fR σ a0 0) - 1) (Int32.toNatClampNeg l3_19)) = (aI σ ((fR σ a1 0) - 1) (Int32.toNatClampNeg l3_19)) then
        f8_hasTextOf_j51 a0 a1 σ l3_19 (1 : Int32)
      else
        f8_hasTextOf_j51 a0 a1 σ l3_19 (0 : Int32)
def f8_hasTextOf_j19 (a0 : Nat) (a1 : Nat) (σ : Sto) (l2_19 : Int32) (l3_19 : Int32) : Option (Int32) :=
  bnd (loopF (fun s_19 => f8_hasTextOf_b19 a0 a1 σ s_19.1 s_19.2) FU (l2_19, l3_19)) fun r_19 =>
    f8_hasTextOf_j58 a0 a1 σ r_19
def f8_hasTextOf_j16 (a0 : Nat) (a1 : Nat) (σ : Sto) (s0_16 : Int32) : Option (Int32) :=
  stp s0_16 fun x2_3 =>
  stp (0 : Int32) fun x3_4 =>
  f8_hasTextOf_j19 a0 a1 σ x2_3 x3_4
def f8_hasTextOf (σ : Sto) (a0 : Nat) (a1 : Nat) : Option (Int32) :=
  if (fI σ a0 1) = (fI σ a1 1) then
    f8_hasTextOf_j16 a0 a1 σ (1 : Int32)
  else
    f8_hasTextOf_j16 a0 a1 σ (0 : Int32)
set_option maxHeartbeats 4000000 in
set_option maxRecDepth 100000 in
theorem k8_hasTextOf {l : Launch} {K : JK} (hl : l.stackTraces = false) {σ : Sto} {a0 : Nat} {a1 : Nat} (h_a0 : kc a0 = 8) (h_a1 : kc a1 = 8) {Qf : Int32 → Prop} (h : Ok (f8_hasTextOf σ a0 a1) Qf) : Con l K yX8_hasTextOf (.code yX8_hasTextOf cX8_hasTextOf 4 (some .boolean) :: TB) 0 0 0 False [.ref (K.2.2 + a0), .ref (K.2.2 + a1)] 2017 (jw K σ) (PR Qf (fun p => some (.int p)) (fun p => jw K σ)) PN := by
  refine Con.enter (own := RX8) hl (by decide) rfl (Nat.le_of_ble_eq_true rfl) ?_
  intro X hX hR C hret hnt
  generalize hQQ : jQ X K 0 0 (PR Qf (fun p => some (.int p)) (fun p => jw K σ)) PN False = QQ
  change J X K 4 False QQ 0 0 2017 (jw K σ) 0 [(0, .ref (K.2.2 + a0)), (1, .ref (K.2.2 + a1))] []
  have hj_58 : (∀ (l2_58 : Int32), Ok (f8_hasTextOf_j58 a0 a1 σ l2_58) Qf → J X K 4 False QQ 0 0 2017 (jw K σ) 58 [(2, .int l2_58)] []) := by
    intro l2_58 h
    unfold f8_hasTextOf_j58 at h
    refine J_iload_n (i := 2) (p := 0) C dX8_hasTextOf_58 rfl rfl rfl ?_
    obtain ⟨g_1, h⟩ := Ok.ofgd h
    rw [← hQQ]
    exact J_zret C hret (narB g_1).1 (Nat.le_of_ble_eq_true rfl) (Nat.le_of_ble_eq_true rfl) ⟨_, h.osome, rfl, rfl, rfl⟩ dX8_hasTextOf_59
  have hj_19 : (∀ (l2_19 : Int32) (l3_19 : Int32), Ok (f8_hasTextOf_j19 a0 a1 σ l2_19 l3_19) Qf → J X K 4 False QQ 0 0 2017 (jw K σ) 19 [(0, .ref (K.2.2 + a0)), (1, .ref (K.2.2 + a1)), (2, .int l2_19), (3, .int l3_19)] []) := by
    intro l2_19 l3_19 h
    unfold f8_hasTextOf_j19 at h
    refine loop_gen (S := Int32 × Int32) (P := fun s_19 => J X K 4 False QQ 0 0 2017 (jw K σ) 19 [(0, .ref (K.2.2 + a0)), (1, .ref (K.2.2 + a1)), (2, .int s_19.1), (3, .int s_19.2)] []) ?_ FU (l2_19, l3_19) (Ok.ofbnd h)
    intro B_19 hB_19 hE_19 s_19 h
    obtain ⟨l2_19, l3_19⟩ := s_19
    have h : Ok (f8_hasTextOf_b19 a0 a1 σ l2_19 l3_19) B_19 := h
    change J X K 4 False QQ 0 0 2017 (jw K σ) 19 [(0, .ref (K.2.2 + a0)), (1, .ref (K.2.2 + a1)), (2, .int l2_19), (3, .int l3_19)] []
    have hj_51 : (∀ (l3_51 : Int32) (s0_51 : Int32), Ok (f8_hasTextOf_j51 a0 a1 σ l3_51 s0_51) B_19 → J X K 4 False QQ 0 0 2017 (jw K σ) 51 [(0, .ref (K.2.2 + a0)), (1, .ref (K.2.2 + a1)), (3, .int l3_51)] [.int s0_51]) := by
      intro l3_51 s0_51 h
      unfold f8_hasTextOf_j51 at h
      obtain ⟨x2_1, e_x2_1, h⟩ := Ok.nm h
      refine J_istoreE_n (i := 2) (lv' := [(2, .int x2_1), (0, .ref (K.2.2 + a0)), (1, .ref (K.2.2 + a1)), (3, .int l3_51)]) C e_x2_1 dX8_hasTextOf_51 rfl (Nat.le_of_ble_eq_true rfl) rfl rfl ?_
      obtain ⟨x3_2, e_x3_2, h⟩ := Ok.nm h
      refine J_iincE (i := 3) (p := 3) (lv' := [(3, .int x3_2), (2, .int x2_1), (0, .ref (K.2.2 + a0)), (1, .ref (K.2.2 + a1))]) C e_x3_2 dX8_hasTextOf_52 rfl (by decide) (Nat.le_of_ble_eq_true rfl) rfl rfl ?_
      refine J_goto (t := 19) C dX8_hasTextOf_55 (by decide) ?_
      refine J.sub [2, 3, 1, 0] rfl ?_
      exact hB_19 (x2_1, x3_2) h.osome
    unfold f8_hasTextOf_b19 at h
    refine J_iload_n (i := 2) (p := 2) C dX8_hasTextOf_19 rfl rfl rfl ?_
    refine J_if_eq (t := 58) C dX8_hasTextOf_20 (by decide) rfl (fun c_2 => ?_) (fun c_2 => ?_)
    · have h := h.pos c_2
      have h := hE_19 l2_19 h.osome
      try dsimp only at h
      refine J.sub [2] rfl ?_
      exact hj_58 l2_19 h
    · have h := h.neg c_2
      refine J_iload_n (i := 3) (p := 3) C dX8_hasTextOf_23 rfl rfl rfl ?_
      refine J_aload_n (i := 0) (p := 0) C dX8_hasTextOf_24 rfl rfl rfl ?_
      refine Jc_getI C fp_RX8_15 h_a0 rfl dX8_hasTextOf_25 rfl ?_
      refine J_icmp_ge (t := 58) C dX8_hasTextOf_28 (by decide) rfl (fun c_3 => ?_) (fun c_3 => ?_)
      · have h := h.pos c_3
        have h := hE_19 l2_19 h.osome
        try dsimp only at h
        refine J.sub [2] rfl ?_
        exact hj_58 l2_19 h
      · have h := h.neg c_3
        refine J_aload_n (i := 0) (p := 0) C dX8_hasTextOf_31 rfl rfl rfl ?_
        refine Jc_getD C fp_RX8_9 h_a0 rfl dX8_hasTextOf_32 rfl ?_
        refine J_iload_n (i := 3) (p := 3) C dX8_hasTextOf_35 rfl rfl rfl ?_
        obtain ⟨g_4, h⟩ := Ok.ofgd h
        rw [jv_pos (r := fR σ a0 0) (okr_spec g_4).1]
        obtain ⟨g_5, h⟩ := Ok.ofgd h
        refine Jc_bald C (okr_spec g_4).2 rfl g_5 dX8_hasTextOf_36 rfl ?_
        refine J_aload_n (i := 1) (p := 1) C dX8_hasTextOf_37 rfl rfl rfl ?_
        refine Jc_getD C fp_RX8_9 h_a1 rfl dX8_hasTextOf_38 rfl ?_
        refine J_iload_n (i := 3) (p := 3) C dX8_hasTextOf_41 rfl rfl rfl ?_
        obtain ⟨g_6, h⟩ := Ok.ofgd h
        rw [jv_pos (r := fR σ a1 0) (okr_spec g_6).1]
        obtain ⟨g_7, h⟩ := Ok.ofgd h
        refine Jc_bald C (okr_spec g_6).2 rfl g_7 dX8_hasTextOf_42 rfl ?_
        refine J_icmp_ne (t := 50) C dX8_hasTextOf_43 (by decide) rfl (fun c_8 => ?_) (fun c_8 => ?_)
        · have h := h.neg c_8
          refine J_iconst (v := 0) C (by decide) dX8_hasTextOf_50 rfl ?_
          refine J.sub [0, 1, 3] rfl ?_
          exact hj_51 l3_19 (0 : Int32) h
        · have h := h.pos (Decidable.not_not.mp c_8)
          refine J_iconst (v := 1) C (by decide) dX8_hasTextOf_46 rfl ?_
          refine J_goto (t := 51) C dX8_hasTextOf_47 (by decide) ?_
          refine J.sub [0, 1, 3] rfl ?_
          exact hj_51 l3_19 (1 : Int32) h
  have hj_16 : (∀ (s0_16 : Int32), Ok (f8_hasTextOf_j16 a0 a1 σ s0_16) Qf → J X K 4 False QQ 0 0 2017 (jw K σ) 16 [(0, .ref (K.2.2 + a0)), (1, .ref (K.2.2 + a1))] [.int s0_16]) := by
    intro s0_16 h
    unfold f8_hasTextOf_j16 at h
    obtain ⟨x2_3, e_x2_3, h⟩ := Ok.nm h
    refine J_istoreE_n (i := 2) (lv' := [(2, .int x2_3), (0, .ref (K.2.2 + a0)), (1, .ref (K.2.2 + a1))]) C e_x2_3 dX8_hasTextOf_16 rfl (Nat.le_of_ble_eq_true rfl) rfl rfl ?_
    refine J_iconst (v := 0) C (by decide) dX8_hasTextOf_17 rfl ?_
    obtain ⟨x3_4, e_x3_4, h⟩ := Ok.nm h
    refine J_istoreE_n (i := 3) (lv' := [(3, .int x3_4), (2, .int x2_3), (0, .ref (K.2.2 + a0)), (1, .ref (K.2.2 + a1))]) C e_x3_4 dX8_hasTextOf_18 rfl (Nat.le_of_ble_eq_true rfl) rfl rfl ?_
    refine J.sub [2, 3, 1, 0] rfl ?_
    exact hj_19 x2_3 x3_4 h
  unfold f8_hasTextOf at h
  refine J_aload_n (i := 0) (p := 0) C dX8_hasTextOf_0 rfl rfl rfl ?_
  refine Jc_getI C fp_RX8_15 h_a0 rfl dX8_hasTextOf_1 rfl ?_
  refine J_aload_n (i := 1) (p := 1) C dX8_hasTextOf_4 rfl rfl rfl ?_
  refine Jc_getI C fp_RX8_15 h_a1 rfl dX8_hasTextOf_5 rfl ?_
  refine J_icmp_ne (t := 15) C dX8_hasTextOf_8 (by decide) rfl (fun c_9 => ?_) (fun c_9 => ?_)
  · have h := h.neg c_9
    refine J_iconst (v := 0) C (by decide) dX8_hasTextOf_15 rfl ?_
    exact hj_16 (0 : Int32) h
  · have h := h.pos (Decidable.not_not.mp c_9)
    refine J_iconst (v := 1) C (by decide) dX8_hasTextOf_11 rfl ?_
    refine J_goto (t := 16) C dX8_hasTextOf_12 (by decide) ?_
    exact hj_16 (1 : Int32) h
def f8_hasCursorsOf_j58 (a0 : Nat) (a1 : Nat) (σ : Sto) (l2_58 : Int32) : Option (Int32) :=
  gd (isB l2_58) <|
  some l2_58
def f8_hasCursorsOf_j51 (a0 : Nat) (a1 : Nat) (σ : Sto) (l3_51 : Int32) (s0_51 : Int32) : Option ((Int32 × Int32) ⊕ Int32) :=
  stp s0_51 fun x2_1 =>
  stp (l3_51 + (1 : Int32)) fun x3_2 =>
  some (.inl (x2_1, x3_2))
def f8_hasCursorsOf_b19 (a0 : Nat) (a1 : Nat) (σ : Sto) (l2_19 : Int32) (l3_19 : Int32) : Option ((Int32 × Int32) ⊕ Int32) :=
  if l2_19 = 0 then
    some (.inr l2_19)
  else
    if (fI σ a0 6) ≤ l3_19 then
      some (.inr l2_19)
    else
      gd (inb l3_19 8) <|
      gd (inb l3_19 8) <|
      if (aI σ (a0 + 4) (Int32.toNatClampNeg l3_19)) = (aI σ (a1 + 4) (Int32.toNatClampNeg l3_19)) then
        f8_hasCursorsOf_j51 a0 a1 σ l3_19 (1 : Int32)
      else
        f8_hasCursorsOf_j51 a0 a1 σ l3_19 (0 : Int32)
def f8_hasCursorsOf_j19 (a0 : Nat) (a1 : Nat) (σ : Sto) (l2_19 : Int32) (l3_19 : Int32) : Option (Int32) :=
  bnd (loopF (fun s_19 => f8_hasCursorsOf_b19 a0 a1 σ s_19.1 s_19.2) FU (l2_19, l3_19)) fun r_19 =>
    f8_hasCursorsOf_j58 a0 a1 σ r_19
def f8_hasCursorsOf_j16 (a0 : Nat) (a1 : Nat) (σ : Sto) (s0_16 : Int32) : Option (Int32) :=
  stp s0_16 fun x2_3 =>
  stp (0 : Int32) fun x3_4 =>
  f8_hasCursorsOf_j19 a0 a1 σ x2_3 x3_4
def f8_hasCursorsOf (σ : Sto) (a0 : Nat) (a1 : Nat) : Option (Int32) :=
  if (fI σ a0 6) = (fI σ a1 6) then
    f8_hasCursorsOf_j16 a0 a1 σ (1 : Int32)
  else
    f8_hasCursorsOf_j16 a0 a1 σ (0 : Int32)
set_option maxHeartbeats 4000000 in
set_option maxRecDepth 100000 in
theorem k8_hasCursorsOf {l : Launch} {K : JK} (hl : l.stackTraces = false) {σ : Sto} {a0 : Nat} {a1 : Nat} (h_a0 : kc a0 = 8) (h_a1 : kc a1 = 8) {Qf : Int32 → Prop} (h : Ok (f8_hasCursorsOf σ a0 a1) Qf) : Con l K yX8_hasCursorsOf (.code yX8_hasCursorsOf cX8_hasCursorsOf 4 (some .boolean) :: TB) 0 0 0 False [.ref (K.2.2 + a0), .ref (K.2.2 + a1)] 2017 (jw K σ) (PR Qf (fun p => some (.int p)) (fun p => jw K σ)) PN := by
  refine Con.enter (own := RX8) hl (by decide) rfl (Nat.le_of_ble_eq_true rfl) ?_
  intro X hX hR C hret hnt
  generalize hQQ : jQ X K 0 0 (PR Qf (fun p => some (.int p)) (fun p => jw K σ)) PN False = QQ
  change J X K 4 False QQ 0 0 2017 (jw K σ) 0 [(0, .ref (K.2.2 + a0)), (1, .ref (K.2.2 + a1))] []
  have hj_58 : (∀ (l2_58 : Int32), Ok (f8_hasCursorsOf_j58 a0 a1 σ l2_58) Qf → J X K 4 False QQ 0 0 2017 (jw K σ) 58 [(2, .int l2_58)] []) := by
    intro l2_58 h
    unfold f8_hasCursorsOf_j58 at h
    refine J_iload_n (i := 2) (p := 0) C dX8_hasCursorsOf_58 rfl rfl rfl ?_
    obtain ⟨g_1, h⟩ := Ok.ofgd h
    rw [← hQQ]
    exact J_zret C hret (narB g_1).1 (Nat.le_of_ble_eq_true rfl) (Nat.le_of_ble_eq_true rfl) ⟨_, h.osome, rfl, rfl, rfl⟩ dX8_hasCursorsOf_59
  have hj_19 : (∀ (l2_19 : Int32) (l3_19 : Int32), Ok (f8_hasCursorsOf_j19 a0 a1 σ l2_19 l3_19) Qf → J X K 4 False QQ 0 0 2017 (jw K σ) 19 [(0, .ref (K.2.2 + a0)), (1, .ref (K.2.2 + a1)), (2, .int l2_19), (3, .int l3_19)] []) := by
    intro l2_19 l3_19 h
    unfold f8_hasCursorsOf_j19 at h
    refine loop_gen (S := Int32 × Int32) (P := fun s_19 => J X K 4 False QQ 0 0 2017 (jw K σ) 19 [(0, .ref (K.2.2 + a0)), (1, .ref (K.2.2 + a1)), (2, .int s_19.1), (3, .int s_19.2)] []) ?_ FU (l2_19, l3_19) (Ok.ofbnd h)
    intro B_19 hB_19 hE_19 s_19 h
    obtain ⟨l2_19, l3_19⟩ := s_19
    have h : Ok (f8_hasCursorsOf_b19 a0 a1 σ l2_19 l3_19) B_19 := h
    change J X K 4 False QQ 0 0 2017 (jw K σ) 19 [(0, .ref (K.2.2 + a0)), (1, .ref (K.2.2 + a1)), (2, .int l2_19), (3, .int l3_19)] []
    have hj_51 : (∀ (l3_51 : Int32) (s0_51 : Int32), Ok (f8_hasCursorsOf_j51 a0 a1 σ l3_51 s0_51) B_19 → J X K 4 False QQ 0 0 2017 (jw K σ) 51 [(0, .ref (K.2.2 + a0)), (1, .ref (K.2.2 + a1)), (3, .int l3_51)] [.int s0_51]) := by
      intro l3_51 s0_51 h
      unfold f8_hasCursorsOf_j51 at h
      obtain ⟨x2_1, e_x2_1, h⟩ := Ok.nm h
      refine J_istoreE_n (i := 2) (lv' := [(2, .int x2_1), (0, .ref (K.2.2 + a0)), (1, .ref (K.2.2 + a1)), (3, .int l3_51)]) C e_x2_1 dX8_hasCursorsOf_51 rfl (Nat.le_of_ble_eq_true rfl) rfl rfl ?_
      obtain ⟨x3_2, e_x3_2, h⟩ := Ok.nm h
      refine J_iincE (i := 3) (p := 3) (lv' := [(3, .int x3_2), (2, .int x2_1), (0, .ref (K.2.2 + a0)), (1, .ref (K.2.2 + a1))]) C e_x3_2 dX8_hasCursorsOf_52 rfl (by decide) (Nat.le_of_ble_eq_true rfl) rfl rfl ?_
      refine J_goto (t := 19) C dX8_hasCursorsOf_55 (by decide) ?_
      refine J.sub [2, 3, 1, 0] rfl ?_
      exact hB_19 (x2_1, x3_2) h.osome
    unfold f8_hasCursorsOf_b19 at h
    refine J_iload_n (i := 2) (p := 2) C dX8_hasCursorsOf_19 rfl rfl rfl ?_
    refine J_if_eq (t := 58) C dX8_hasCursorsOf_20 (by decide) rfl (fun c_2 => ?_) (fun c_2 => ?_)
    · have h := h.pos c_2
      have h := hE_19 l2_19 h.osome
      try dsimp only at h
      refine J.sub [2] rfl ?_
      exact hj_58 l2_19 h
    · have h := h.neg c_2
      refine J_iload_n (i := 3) (p := 3) C dX8_hasCursorsOf_23 rfl rfl rfl ?_
      refine J_aload_n (i := 0) (p := 0) C dX8_hasCursorsOf_24 rfl rfl rfl ?_
      refine Jc_getI C fp_RX8_33 h_a0 rfl dX8_hasCursorsOf_25 rfl ?_
      refine J_icmp_ge (t := 58) C dX8_hasCursorsOf_28 (by decide) rfl (fun c_3 => ?_) (fun c_3 => ?_)
      · have h := h.pos c_3
        have h := hE_19 l2_19 h.osome
        try dsimp only at h
        refine J.sub [2] rfl ?_
        exact hj_58 l2_19 h
      · have h := h.neg c_3
        refine J_aload_n (i := 0) (p := 0) C dX8_hasCursorsOf_31 rfl rfl rfl ?_
        refine Jc_getS (o2 := 4) (r2 := a0 + 4) C fp_RX8_30 rfl h_a0 rfl dX8_hasCursorsOf_32 rfl ?_
        refine J_iload_n (i := 3) (p := 3) C dX8_hasCursorsOf_35 rfl rfl rfl ?_
        obtain ⟨g_4, h⟩ := Ok.ofgd h
        refine Jc_iald C (ks_8_5 h_a0) (ls_8_5 h_a0) g_4 dX8_hasCursorsOf_36 rfl ?_
        refine J_aload_n (i := 1) (p := 1) C dX8_hasCursorsOf_37 rfl rfl rfl ?_
        refine Jc_getS (o2 := 4) (r2 := a1 + 4) C fp_RX8_30 rfl h_a1 rfl dX8_hasCursorsOf_38 rfl ?_
        refine J_iload_n (i := 3) (p := 3) C dX8_hasCursorsOf_41 rfl rfl rfl ?_
        obtain ⟨g_5, h⟩ := Ok.ofgd h
        refine Jc_iald C (ks_8_5 h_a1) (ls_8_5 h_a1) g_5 dX8_hasCursorsOf_42 rfl ?_
        refine J_icmp_ne (t := 50) C dX8_hasCursorsOf_43 (by decide) rfl (fun c_6 => ?_) (fun c_6 => ?_)
        · have h := h.neg c_6
          refine J_iconst (v := 0) C (by decide) dX8_hasCursorsOf_50 rfl ?_
          refine J.sub [0, 1, 3] rfl ?_
          exact hj_51 l3_19 (0 : Int32) h
        · have h := h.pos (Decidable.not_not.mp c_6)
          refine J_iconst (v := 1) C (by decide) dX8_hasCursorsOf_46 rfl ?_
          refine J_goto (t := 51) C dX8_hasCursorsOf_47 (by decide) ?_
          refine J.sub [0, 1, 3] rfl ?_
          exact hj_51 l3_19 (1 : Int32) h
  have hj_16 : (∀ (s0_16 : Int32), Ok (f8_hasCursorsOf_j16 a0 a1 σ s0_16) Qf → J X K 4 False QQ 0 0 2017 (jw K σ) 16 [(0, .ref (K.2.2 + a0)), (1, .ref (K.2.2 + a1))] [.int s0_16]) := by
    intro s0_16 h
    unfold f8_hasCursorsOf_j16 at h
    obtain ⟨x2_3, e_x2_3, h⟩ := Ok.nm h
    refine J_istoreE_n (i := 2) (lv' := [(2, .int x2_3), (0, .ref (K.2.2 + a0)), (1, .ref (K.2.2 + a1))]) C e_x2_3 dX8_hasCursorsOf_16 rfl (Nat.le_of_ble_eq_true rfl) rfl rfl ?_
    refine J_iconst (v := 0) C (by decide) dX8_hasCursorsOf_17 rfl ?_
    obtain ⟨x3_4, e_x3_4, h⟩ := Ok.nm h
    refine J_istoreE_n (i := 3) (lv' := [(3, .int x3_4), (2, .int x2_3), (0, .ref (K.2.2 + a0)), (1, .ref (K.2.2 + a1))]) C e_x3_4 dX8_hasCursorsOf_18 rfl (Nat.le_of_ble_eq_true rfl) rfl rfl ?_
    refine J.sub [2, 3, 1, 0] rfl ?_
    exact hj_19 x2_3 x3_4 h
  unfold f8_hasCursorsOf at h
  refine J_aload_n (i := 0) (p := 0) C dX8_hasCursorsOf_0 rfl rfl rfl ?_
  refine Jc_getI C fp_RX8_33 h_a0 rfl dX8_hasCursorsOf_1 rfl ?_
  refine J_aload_n (i := 1) (p := 1) C dX8_hasCursorsOf_4 rfl rfl rfl ?_
  refine Jc_getI C fp_RX8_33 h_a1 rfl dX8_hasCursorsOf_5 rfl ?_
  refine J_icmp_ne (t := 15) C dX8_hasCursorsOf_8 (by decide) rfl (fun c_7 => ?_) (fun c_7 => ?_)
  · have h := h.neg c_7
    refine J_iconst (v := 0) C (by decide) dX8_hasCursorsOf_15 rfl ?_
    exact hj_16 (0 : Int32) h
  · have h := h.pos (Decidable.not_not.mp c_7)
    refine J_iconst (v := 1) C (by decide) dX8_hasCursorsOf_11 rfl ?_
    refine J_goto (t := 16) C dX8_hasCursorsOf_12 (by decide) ?_
    exact hj_16 (1 : Int32) h
def f8_hasMarksOf_j56 (a0 : Nat) (a1 : Nat) (σ : Sto) (l2_56 : Int32) : Option (Int32) :=
  gd (isB l2_56) <|
  some l2_56
def f8_hasMarksOf_j49 (a0 : Nat) (a1 : Nat) (σ : Sto) (l3_49 : Int32) (s0_49 : Int32) : Option ((Int32 × Int32) ⊕ Int32) :=
  stp s0_49 fun x2_1 =>
  stp (l3_49 + (1 : Int32)) fun x3_2 =>
  some (.inl (x2_1, x3_2))
def f8_hasMarksOf_j48 (a0 : Nat) (a1 : Nat) (σ : Sto) (l3_48 : Int32) : Option ((Int32 × Int32) ⊕ Int32) :=
  f8_hasMarksOf_j49 a0 a1 σ l3_48 (0 : Int32)
def f8_hasMarksOf_b4 (a0 : Nat) (a1 : Nat) (σ : Sto) (l2_4 : Int32) (l3_4 : Int32) : Option ((Int32 × Int32) ⊕ Int32) :=
  if l2_4 = 0 then
    some (.inr l2_4)
  else
    if (16 : Int32) ≤ l3_4 then
      some (.inr l2_4)
    else
      gd (inb l3_4 16) <|
      gd (inb l3_4 16) <|
      if (aI σ (a0 + 5) (Int32.toNatClampNeg l3_4)) = (aI σ (a1 + 5) (Int32.toNatClampNeg l3_4)) then
        gd (inb l3_4 16) <|
        gd (inb l3_4 16) <|
        if (aI σ (a0 + 6) (Int32.toNatClampNeg l3_4)) = (aI σ (a1 + 6) (Int32.toNatClampNeg l3_4)) then
          f8_hasMarksOf_j49 a0 a1 σ l3_4 (1 : Int32)
        else
          f8_hasMarksOf_j48 a0 a1 σ l3_4
      else
        f8_hasMarksOf_j48 a0 a1 σ l3_4
def f8_hasMarksOf_j4 (a0 : Nat) (a1 : Nat) (σ : Sto) (l2_4 : Int32) (l3_4 : Int32) : Option (Int32) :=
  bnd (loopF (fun s_4 => f8_hasMarksOf_b4 a0 a1 σ s_4.1 s_4.2) FU (l2_4, l3_4)) fun r_4 =>
    f8_hasMarksOf_j56 a0 a1 σ r_4
def f8_hasMarksOf (σ : Sto) (a0 : Nat) (a1 : Nat) : Option (Int32) :=
  stp (1 : Int32) fun x2_3 =>
  stp (0 : Int32) fun x3_4 =>
  f8_hasMarksOf_j4 a0 a1 σ x2_3 x3_4
set_option maxHeartbeats 4000000 in
set_option maxRecDepth 100000 in
theorem k8_hasMarksOf {l : Launch} {K : JK} (hl : l.stackTraces = false) {σ : Sto} {a0 : Nat} {a1 : Nat} (h_a0 : kc a0 = 8) (h_a1 : kc a1 = 8) {Qf : Int32 → Prop} (h : Ok (f8_hasMarksOf σ a0 a1) Qf) : Con l K yX8_hasMarksOf (.code yX8_hasMarksOf cX8_hasMarksOf 4 (some .boolean) :: TB) 0 0 0 False [.ref (K.2.2 + a0), .ref (K.2.2 + a1)] 2017 (jw K σ) (PR Qf (fun p => some (.int p)) (fun p => jw K σ)) PN := by
  refine Con.enter (own := RX8) hl (by decide) rfl (Nat.le_of_ble_eq_true rfl) ?_
  intro X hX hR C hret hnt
  generalize hQQ : jQ X K 0 0 (PR Qf (fun p => some (.int p)) (fun p => jw K σ)) PN False = QQ
  change J X K 4 False QQ 0 0 2017 (jw K σ) 0 [(0, .ref (K.2.2 + a0)), (1, .ref (K.2.2 + a1))] []
  have hj_56 : (∀ (l2_56 : Int32), Ok (f8_hasMarksOf_j56 a0 a1 σ l2_56) Qf → J X K 4 False QQ 0 0 2017 (jw K σ) 56 [(2, .int l2_56)] []) := by
    intro l2_56 h
    unfold f8_hasMarksOf_j56 at h
    refine J_iload_n (i := 2) (p := 0) C dX8_hasMarksOf_56 rfl rfl rfl ?_
    obtain ⟨g_1, h⟩ := Ok.ofgd h
    rw [← hQQ]
    exact J_zret C hret (narB g_1).1 (Nat.le_of_ble_eq_true rfl) (Nat.le_of_ble_eq_true rfl) ⟨_, h.osome, rfl, rfl, rfl⟩ dX8_hasMarksOf_57
  have hj_4 : (∀ (l2_4 : Int32) (l3_4 : Int32), Ok (f8_hasMarksOf_j4 a0 a1 σ l2_4 l3_4) Qf → J X K 4 False QQ 0 0 2017 (jw K σ) 4 [(0, .ref (K.2.2 + a0)), (1, .ref (K.2.2 + a1)), (2, .int l2_4), (3, .int l3_4)] []) := by
    intro l2_4 l3_4 h
    unfold f8_hasMarksOf_j4 at h
    refine loop_gen (S := Int32 × Int32) (P := fun s_4 => J X K 4 False QQ 0 0 2017 (jw K σ) 4 [(0, .ref (K.2.2 + a0)), (1, .ref (K.2.2 + a1)), (2, .int s_4.1), (3, .int s_4.2)] []) ?_ FU (l2_4, l3_4) (Ok.ofbnd h)
    intro B_4 hB_4 hE_4 s_4 h
    obtain ⟨l2_4, l3_4⟩ := s_4
    have h : Ok (f8_hasMarksOf_b4 a0 a1 σ l2_4 l3_4) B_4 := h
    change J X K 4 False QQ 0 0 2017 (jw K σ) 4 [(0, .ref (K.2.2 + a0)), (1, .ref (K.2.2 + a1)), (2, .int l2_4), (3, .int l3_4)] []
    have hj_49 : (∀ (l3_49 : Int32) (s0_49 : Int32), Ok (f8_hasMarksOf_j49 a0 a1 σ l3_49 s0_49) B_4 → J X K 4 False QQ 0 0 2017 (jw K σ) 49 [(0, .ref (K.2.2 + a0)), (1, .ref (K.2.2 + a1)), (3, .int l3_49)] [.int s0_49]) := by
      intro l3_49 s0_49 h
      unfold f8_hasMarksOf_j49 at h
      obtain ⟨x2_1, e_x2_1, h⟩ := Ok.nm h
      refine J_istoreE_n (i := 2) (lv' := [(2, .int x2_1), (0, .ref (K.2.2 + a0)), (1, .ref (K.2.2 + a1)), (3, .int l3_49)]) C e_x2_1 dX8_hasMarksOf_49 rfl (Nat.le_of_ble_eq_true rfl) rfl rfl ?_
      obtain ⟨x3_2, e_x3_2, h⟩ := Ok.nm h
      refine J_iincE (i := 3) (p := 3) (lv' := [(3, .int x3_2), (2, .int x2_1), (0, .ref (K.2.2 + a0)), (1, .ref (K.2.2 + a1))]) C e_x3_2 dX8_hasMarksOf_50 rfl (by decide) (Nat.le_of_ble_eq_true rfl) rfl rfl ?_
      refine J_goto (t := 4) C dX8_hasMarksOf_53 (by decide) ?_
      refine J.sub [2, 3, 1, 0] rfl ?_
      exact hB_4 (x2_1, x3_2) h.osome
    have hj_48 : (∀ (l3_48 : Int32), Ok (f8_hasMarksOf_j48 a0 a1 σ l3_48) B_4 → J X K 4 False QQ 0 0 2017 (jw K σ) 48 [(0, .ref (K.2.2 + a0)), (1, .ref (K.2.2 + a1)), (3, .int l3_48)] []) := by
      intro l3_48 h
      unfold f8_hasMarksOf_j48 at h
      refine J_iconst (v := 0) C (by decide) dX8_hasMarksOf_48 rfl ?_
      exact hj_49 l3_48 (0 : Int32) h
    unfold f8_hasMarksOf_b4 at h
    refine J_iload_n (i := 2) (p := 2) C dX8_hasMarksOf_4 rfl rfl rfl ?_
    refine J_if_eq (t := 56) C dX8_hasMarksOf_5 (by decide) rfl (fun c_2 => ?_) (fun c_2 => ?_)
    · have h := h.pos c_2
      have h := hE_4 l2_4 h.osome
      try dsimp only at h
      refine J.sub [2] rfl ?_
      exact hj_56 l2_4 h
    · have h := h.neg c_2
      refine J_iload_n (i := 3) (p := 3) C dX8_hasMarksOf_8 rfl rfl rfl ?_
      refine J_bipush (v := 16) C (by decide) dX8_hasMarksOf_9 rfl ?_
      refine J_icmp_ge (t := 56) C dX8_hasMarksOf_11 (by decide) rfl (fun c_3 => ?_) (fun c_3 => ?_)
      · have h := h.pos c_3
        have h := hE_4 l2_4 h.osome
        try dsimp only at h
        refine J.sub [2] rfl ?_
        exact hj_56 l2_4 h
      · have h := h.neg c_3
        refine J_aload_n (i := 0) (p := 0) C dX8_hasMarksOf_14 rfl rfl rfl ?_
        refine Jc_getS (o2 := 5) (r2 := a0 + 5) C fp_RX8_36 rfl h_a0 rfl dX8_hasMarksOf_15 rfl ?_
        refine J_iload_n (i := 3) (p := 3) C dX8_hasMarksOf_18 rfl rfl rfl ?_
        obtain ⟨g_4, h⟩ := Ok.ofgd h
        refine Jc_iald C (ks_8_7 h_a0) (ls_8_7 h_a0) g_4 dX8_hasMarksOf_19 rfl ?_
        refine J_aload_n (i := 1) (p := 1) C dX8_hasMarksOf_20 rfl rfl rfl ?_
        refine Jc_getS (o2 := 5) (r2 := a1 + 5) C fp_RX8_36 rfl h_a1 rfl dX8_hasMarksOf_21 rfl ?_
        refine J_iload_n (i := 3) (p := 3) C dX8_hasMarksOf_24 rfl rfl rfl ?_
        obtain ⟨g_5, h⟩ := Ok.ofgd h
        refine Jc_iald C (ks_8_7 h_a1) (ls_8_7 h_a1) g_5 dX8_hasMarksOf_25 rfl ?_
        refine J_icmp_ne (t := 48) C dX8_hasMarksOf_26 (by decide) rfl (fun c_6 => ?_) (fun c_6 => ?_)
        · have h := h.neg c_6
          refine J.sub [0, 1, 3] rfl ?_
          exact hj_48 l3_4 h
        · have h := h.pos (Decidable.not_not.mp c_6)
          refine J_aload_n (i := 0) (p := 0) C dX8_hasMarksOf_29 rfl rfl rfl ?_
          refine Jc_getS (o2 := 6) (r2 := a0 + 6) C fp_RX8_39 rfl h_a0 rfl dX8_hasMarksOf_30 rfl ?_
          refine J_iload_n (i := 3) (p := 3) C dX8_hasMarksOf_33 rfl rfl rfl ?_
          obtain ⟨g_7, h⟩ := Ok.ofgd h
          refine Jc_zald C (ks_8_8 h_a0) (ls_8_8 h_a0) g_7 dX8_hasMarksOf_34 rfl ?_
          refine J_aload_n (i := 1) (p := 1) C dX8_hasMarksOf_35 rfl rfl rfl ?_
          refine Jc_getS (o2 := 6) (r2 := a1 + 6) C fp_RX8_39 rfl h_a1 rfl dX8_hasMarksOf_36 rfl ?_
          refine J_iload_n (i := 3) (p := 3) C dX8_hasMarksOf_39 rfl rfl rfl ?_
          obtain ⟨g_8, h⟩ := Ok.ofgd h
          refine Jc_zald C (ks_8_8 h_a1) (ls_8_8 h_a1) g_8 dX8_hasMarksOf_40 rfl ?_
          refine J_icmp_ne (t := 48) C dX8_hasMarksOf_41 (by decide) rfl (fun c_9 => ?_) (fun c_9 => ?_)
          · have h := h.neg c_9
            refine J.sub [0, 1, 3] rfl ?_
            exact hj_48 l3_4 h
          · have h := h.pos (Decidable.not_not.mp c_9)
            refine J_iconst (v := 1) C (by decide) dX8_hasMarksOf_44 rfl ?_
            refine J_goto (t := 49) C dX8_hasMarksOf_45 (by decide) ?_
            refine J.sub [0, 1, 3] rfl ?_
            exact hj_49 l3_4 (1 : Int32) h
  unfold f8_hasMarksOf at h
  refine J_iconst (v := 1) C (by decide) dX8_hasMarksOf_0 rfl ?_
  obtain ⟨x2_3, e_x2_3, h⟩ := Ok.nm h
  refine J_istoreE_n (i := 2) (lv' := [(2, .int x2_3), (0, .ref (K.2.2 + a0)), (1, .ref (K.2.2 + a1))]) C e_x2_3 dX8_hasMarksOf_1 rfl (Nat.le_of_ble_eq_true rfl) rfl rfl ?_
  refine J_iconst (v := 0) C (by decide) dX8_hasMarksOf_2 rfl ?_
  obtain ⟨x3_4, e_x3_4, h⟩ := Ok.nm h
  refine J_istoreE_n (i := 3) (lv' := [(3, .int x3_4), (2, .int x2_3), (0, .ref (K.2.2 + a0)), (1, .ref (K.2.2 + a1))]) C e_x3_4 dX8_hasMarksOf_3 rfl (Nat.le_of_ble_eq_true rfl) rfl rfl ?_
  refine J.sub [2, 3, 1, 0] rfl ?_
  exact hj_4 x2_3 x3_4 h
def f8_hasHiddenOf_j58 (a0 : Nat) (a1 : Nat) (σ : Sto) (l2_58 : Int32) : Option (Int32) :=
  gd (isB l2_58) <|
  some l2_58
def f8_hasHiddenOf_j51 (a0 : Nat) (a1 : Nat) (σ : Sto) (l3_51 : Int32) (s0_51 : Int32) : Option ((Int32 × Int32) ⊕ Int32) :=
  stp s0_51 fun x2_1 =>
  stp (l3_51 + (1 : Int32)) fun x3_2 =>
  some (.inl (x2_1, x3_2))
def f8_hasHiddenOf_b19 (a0 : Nat) (a1 : Nat) (σ : Sto) (l2_19 : Int32) (l3_19 : Int32) : Option ((Int32 × Int32) ⊕ Int32) :=
  if l2_19 = 0 then
    some (.inr l2_19)
  else
    if (fI σ a0 4) ≤ l3_19 then
      some (.inr l2_19)
    else
      gd (okr (fR σ a0 3) 14) <|
      gd (inb l3_19 (ln ((fR σ a0 3) - 1))) <|
      gd (okr (fR σ a1 3) 14) <|
      gd (inb l3_19 (ln ((fR σ a1 3) - 1))) <|
      if (aI σ ((fR σ a0 3) - 1) (Int32.toNatClampNeg l3_19)) = (aI σ ((fR σ a1 3) - 1) (Int32.toNatClampNeg l3_19)) then
        f8_hasHiddenOf_j51 a0 a1 σ l3_19 (1 : Int32)
      else
        f8_hasHiddenOf_j51 a0 a1 σ l3_19 (0 : Int32)
def f8_hasHiddenOf_j19 (a0 : Nat) (a1 : Nat) (σ : Sto) (l2_19 : Int32) (l3_19 : Int32) : Option (Int32) :=
  bnd (loopF (fun s_19 => f8_hasHiddenOf_b19 a0 a1 σ s_19.1 s_19.2) FU (l2_19, l3_19)) fun r_19 =>
    f8_hasHiddenOf_j58 a0 a1 σ r_19
def f8_hasHiddenOf_j16 (a0 : Nat) (a1 : Nat) (σ : Sto) (s0_16 : Int32) : Option (Int32) :=
  stp s0_16 fun x2_3 =>
  stp (0 : Int32) fun x3_4 =>
  f8_hasHiddenOf_j19 a0 a1 σ x2_3 x3_4
def f8_hasHiddenOf (σ : Sto) (a0 : Nat) (a1 : Nat) : Option (Int32) :=
  if (fI σ a0 4) = (fI σ a1 4) then
    f8_hasHiddenOf_j16 a0 a1 σ (1 : Int32)
  else
    f8_hasHiddenOf_j16 a0 a1 σ (0 : Int32)
set_option maxHeartbeats 4000000 in
set_option maxRecDepth 100000 in
theorem k8_hasHiddenOf {l : Launch} {K : JK} (hl : l.stackTraces = false) {σ : Sto} {a0 : Nat} {a1 : Nat} (h_a0 : kc a0 = 8) (h_a1 : kc a1 = 8) {Qf : Int32 → Prop} (h : Ok (f8_hasHiddenOf σ a0 a1) Qf) : Con l K yX8_hasHiddenOf (.code yX8_hasHiddenOf cX8_hasHiddenOf 4 (some .boolean) :: TB) 0 0 0 False [.ref (K.2.2 + a0), .ref (K.2.2 + a1)] 2017 (jw K σ) (PR Qf (fun p => some (.int p)) (fun p => jw K σ)) PN := by
  refine Con.enter (own := RX8) hl (by decide) rfl (Nat.le_of_ble_eq_true rfl) ?_
  intro X hX hR C hret hnt
  generalize hQQ : jQ X K 0 0 (PR Qf (fun p => some (.int p)) (fun p => jw K σ)) PN False = QQ
  change J X K 4 False QQ 0 0 2017 (jw K σ) 0 [(0, .ref (K.2.2 + a0)), (1, .ref (K.2.2 + a1))] []
  have hj_58 : (∀ (l2_58 : Int32), Ok (f8_hasHiddenOf_j58 a0 a1 σ l2_58) Qf → J X K 4 False QQ 0 0 2017 (jw K σ) 58 [(2, .int l2_58)] []) := by
    intro l2_58 h
    unfold f8_hasHiddenOf_j58 at h
    refine J_iload_n (i := 2) (p := 0) C dX8_hasHiddenOf_58 rfl rfl rfl ?_
    obtain ⟨g_1, h⟩ := Ok.ofgd h
    rw [← hQQ]
    exact J_zret C hret (narB g_1).1 (Nat.le_of_ble_eq_true rfl) (Nat.le_of_ble_eq_true rfl) ⟨_, h.osome, rfl, rfl, rfl⟩ dX8_hasHiddenOf_59
  have hj_19 : (∀ (l2_19 : Int32) (l3_19 : Int32), Ok (f8_hasHiddenOf_j19 a0 a1 σ l2_19 l3_19) Qf → J X K 4 False QQ 0 0 2017 (jw K σ) 19 [(0, .ref (K.2.2 + a0)), (1, .ref (K.2.2 + a1)), (2, .int l2_19), (3, .int l3_19)] []) := by
    intro l2_19 l3_19 h
    unfold f8_hasHiddenOf_j19 at h
    refine loop_gen (S := Int32 × Int32) (P := fun s_19 => J X K 4 False QQ 0 0 2017 (jw K σ) 19 [(0, .ref (K.2.2 + a0)), (1, .ref (K.2.2 + a1)), (2, .int s_19.1), (3, .int s_19.2)] []) ?_ FU (l2_19, l3_19) (Ok.ofbnd h)
    intro B_19 hB_19 hE_19 s_19 h
    obtain ⟨l2_19, l3_19⟩ := s_19
    have h : Ok (f8_hasHiddenOf_b19 a0 a1 σ l2_19 l3_19) B_19 := h
    change J X K 4 False QQ 0 0 2017 (jw K σ) 19 [(0, .ref (K.2.2 + a0)), (1, .ref (K.2.2 + a1)), (2, .int l2_19), (3, .int l3_19)] []
    have hj_51 : (∀ (l3_51 : Int32) (s0_51 : Int32), Ok (f8_hasHiddenOf_j51 a0 a1 σ l3_51 s0_51) B_19 → J X K 4 False QQ 0 0 2017 (jw K σ) 51 [(0, .ref (K.2.2 + a0)), (1, .ref (K.2.2 + a1)), (3, .int l3_51)] [.int s0_51]) := by
      intro l3_51 s0_51 h
      unfold f8_hasHiddenOf_j51 at h
      obtain ⟨x2_1, e_x2_1, h⟩ := Ok.nm h
      refine J_istoreE_n (i := 2) (lv' := [(2, .int x2_1), (0, .ref (K.2.2 + a0)), (1, .ref (K.2.2 + a1)), (3, .int l3_51)]) C e_x2_1 dX8_hasHiddenOf_51 rfl (Nat.le_of_ble_eq_true rfl) rfl rfl ?_
      obtain ⟨x3_2, e_x3_2, h⟩ := Ok.nm h
      refine J_iincE (i := 3) (p := 3) (lv' := [(3, .int x3_2), (2, .int x2_1), (0, .ref (K.2.2 + a0)), (1, .ref (K.2.2 + a1))]) C e_x3_2 dX8_hasHiddenOf_52 rfl (by decide) (Nat.le_of_ble_eq_true rfl) rfl rfl ?_
      refine J_goto (t := 19) C dX8_hasHiddenOf_55 (by decide) ?_
      refine J.sub [2, 3, 1, 0] rfl ?_
      exact hB_19 (x2_1, x3_2) h.osome
    unfold f8_hasHiddenOf_b19 at h
    refine J_iload_n (i := 2) (p := 2) C dX8_hasHiddenOf_19 rfl rfl rfl ?_
    refine J_if_eq (t := 58) C dX8_hasHiddenOf_20 (by decide) rfl (fun c_2 => ?_) (fun c_2 => ?_)
    · have h := h.pos c_2
      have h := hE_19 l2_19 h.osome
      try dsimp only at h
      refine J.sub [2] rfl ?_
      exact hj_58 l2_19 h
    · have h := h.neg c_2
      refine J_iload_n (i := 3) (p := 3) C dX8_hasHiddenOf_23 rfl rfl rfl ?_
      refine J_aload_n (i := 0) (p := 0) C dX8_hasHiddenOf_24 rfl rfl rfl ?_
      refine Jc_getI C fp_RX8_27 h_a0 rfl dX8_hasHiddenOf_25 rfl ?_
      refine J_icmp_ge (t := 58) C dX8_hasHiddenOf_28 (by decide) rfl (fun c_3 => ?_) (fun c_3 => ?_)
      · have h := h.pos c_3
        have h := hE_19 l2_19 h.osome
        try dsimp only at h
        refine J.sub [2] rfl ?_
        exact hj_58 l2_19 h
      · have h := h.neg c_3
        refine J_aload_n (i := 0) (p := 0) C dX8_hasHiddenOf_31 rfl rfl rfl ?_
        refine Jc_getD C fp_RX8_23 h_a0 rfl dX8_hasHiddenOf_32 rfl ?_
        refine J_iload_n (i := 3) (p := 3) C dX8_hasHiddenOf_35 rfl rfl rfl ?_
        obtain ⟨g_4, h⟩ := Ok.ofgd h
        rw [jv_pos (r := fR σ a0 3) (okr_spec g_4).1]
        obtain ⟨g_5, h⟩ := Ok.ofgd h
        refine Jc_zald C (okr_spec g_4).2 rfl g_5 dX8_hasHiddenOf_36 rfl ?_
        refine J_aload_n (i := 1) (p := 1) C dX8_hasHiddenOf_37 rfl rfl rfl ?_
        refine Jc_getD C fp_RX8_23 h_a1 rfl dX8_hasHiddenOf_38 rfl ?_
        refine J_iload_n (i := 3) (p := 3) C dX8_hasHiddenOf_41 rfl rfl rfl ?_
        obtain ⟨g_6, h⟩ := Ok.ofgd h
        rw [jv_pos (r := fR σ a1 3) (okr_spec g_6).1]
        obtain ⟨g_7, h⟩ := Ok.ofgd h
        refine Jc_zald C (okr_spec g_6).2 rfl g_7 dX8_hasHiddenOf_42 rfl ?_
        refine J_icmp_ne (t := 50) C dX8_hasHiddenOf_43 (by decide) rfl (fun c_8 => ?_) (fun c_8 => ?_)
        · have h := h.neg c_8
          refine J_iconst (v := 0) C (by decide) dX8_hasHiddenOf_50 rfl ?_
          refine J.sub [0, 1, 3] rfl ?_
          exact hj_51 l3_19 (0 : Int32) h
        · have h := h.pos (Decidable.not_not.mp c_8)
          refine J_iconst (v := 1) C (by decide) dX8_hasHiddenOf_46 rfl ?_
          refine J_goto (t := 51) C dX8_hasHiddenOf_47 (by decide) ?_
          refine J.sub [0, 1, 3] rfl ?_
          exact hj_51 l3_19 (1 : Int32) h
  have hj_16 : (∀ (s0_16 : Int32), Ok (f8_hasHiddenOf_j16 a0 a1 σ s0_16) Qf → J X K 4 False QQ 0 0 2017 (jw K σ) 16 [(0, .ref (K.2.2 + a0)), (1, .ref (K.2.2 + a1))] [.int s0_16]) := by
    intro s0_16 h
    unfold f8_hasHiddenOf_j16 at h
    obtain ⟨x2_3, e_x2_3, h⟩ := Ok.nm h
    refine J_istoreE_n (i := 2) (lv' := [(2, .int x2_3), (0, .ref (K.2.2 + a0)), (1, .ref (K.2.2 + a1))]) C e_x2_3 dX8_hasHiddenOf_16 rfl (Nat.le_of_ble_eq_true rfl) rfl rfl ?_
    refine J_iconst (v := 0) C (by decide) dX8_hasHiddenOf_17 rfl ?_
    obtain ⟨x3_4, e_x3_4, h⟩ := Ok.nm h
    refine J_istoreE_n (i := 3) (lv' := [(3, .int x3_4), (2, .int x2_3), (0, .ref (K.2.2 + a0)), (1, .ref (K.2.2 + a1))]) C e_x3_4 dX8_hasHiddenOf_18 rfl (Nat.le_of_ble_eq_true rfl) rfl rfl ?_
    refine J.sub [2, 3, 1, 0] rfl ?_
    exact hj_19 x2_3 x3_4 h
  unfold f8_hasHiddenOf at h
  refine J_aload_n (i := 0) (p := 0) C dX8_hasHiddenOf_0 rfl rfl rfl ?_
  refine Jc_getI C fp_RX8_27 h_a0 rfl dX8_hasHiddenOf_1 rfl ?_
  refine J_aload_n (i := 1) (p := 1) C dX8_hasHiddenOf_4 rfl rfl rfl ?_
  refine Jc_getI C fp_RX8_27 h_a1 rfl dX8_hasHiddenOf_5 rfl ?_
  refine J_icmp_ne (t := 15) C dX8_hasHiddenOf_8 (by decide) rfl (fun c_9 => ?_) (fun c_9 => ?_)
  · have h := h.neg c_9
    refine J_iconst (v := 0) C (by decide) dX8_hasHiddenOf_15 rfl ?_
    exact hj_16 (0 : Int32) h
  · have h := h.pos (Decidable.not_not.mp c_9)
    refine J_iconst (v := 1) C (by decide) dX8_hasHiddenOf_11 rfl ?_
    refine J_goto (t := 16) C dX8_hasHiddenOf_12 (by decide) ?_
    exact hj_16 (1 : Int32) h
def f8_countUnlike_j60 (a0 : Nat) (a1 : Nat) (σ : Sto) (s0_60 : Int32) (s1_60 : Int32) : Option (Int32) :=
  stp (s0_60 + s1_60) fun x2_1 =>
  some x2_1
def f8_countUnlike_j44 (a0 : Nat) (a1 : Nat) (σ : Sto) (s0_44 : Int32) (s1_44 : Int32) : Option (Int32) :=
  stp (s0_44 + s1_44) fun x2_2 =>
  bnd (f8_hasHiddenOf σ a0 a1) fun p_1 =>
  if p_1 = 0 then
    f8_countUnlike_j60 a0 a1 σ x2_2 (1 : Int32)
  else
    f8_countUnlike_j60 a0 a1 σ x2_2 (0 : Int32)
def f8_countUnlike_j28 (a0 : Nat) (a1 : Nat) (σ : Sto) (s0_28 : Int32) (s1_28 : Int32) : Option (Int32) :=
  stp (s0_28 + s1_28) fun x2_3 =>
  bnd (f8_hasMarksOf σ a0 a1) fun p_3 =>
  if p_3 = 0 then
    f8_countUnlike_j44 a0 a1 σ x2_3 (1 : Int32)
  else
    f8_countUnlike_j44 a0 a1 σ x2_3 (0 : Int32)
def f8_countUnlike_j13 (a0 : Nat) (a1 : Nat) (σ : Sto) (s0_13 : Int32) : Option (Int32) :=
  stp s0_13 fun x2_4 =>
  bnd (f8_hasCursorsOf σ a0 a1) fun p_5 =>
  if p_5 = 0 then
    f8_countUnlike_j28 a0 a1 σ x2_4 (1 : Int32)
  else
    f8_countUnlike_j28 a0 a1 σ x2_4 (0 : Int32)
def f8_countUnlike (σ : Sto) (a0 : Nat) (a1 : Nat) : Option (Int32) :=
  bnd (f8_hasTextOf σ a0 a1) fun p_7 =>
  if p_7 = 0 then
    f8_countUnlike_j13 a0 a1 σ (1 : Int32)
  else
    f8_countUnlike_j13 a0 a1 σ (0 : Int32)
set_option maxHeartbeats 4000000 in
set_option maxRecDepth 100000 in
theorem k8_countUnlike {l : Launch} {K : JK} (hl : l.stackTraces = false) {σ : Sto} {a0 : Nat} {a1 : Nat} (h_a0 : kc a0 = 8) (h_a1 : kc a1 = 8) {Qf : Int32 → Prop} (h : Ok (f8_countUnlike σ a0 a1) Qf) : Con l K yX8_countUnlike (.code yX8_countUnlike cX8_countUnlike 3 (some .int) :: TB) 1 0 0 False [.ref (K.2.2 + a0), .ref (K.2.2 + a1)] 2017 (jw K σ) (PR Qf (fun p => some (.int p)) (fun p => jw K σ)) PN := by
  refine Con.enter (own := RX8) hl (by decide) rfl (Nat.le_of_ble_eq_true rfl) ?_
  intro X hX hR C hret hnt
  generalize hQQ : jQ X K 0 0 (PR Qf (fun p => some (.int p)) (fun p => jw K σ)) PN False = QQ
  change J X K 3 False QQ 0 0 2017 (jw K σ) 0 [(0, .ref (K.2.2 + a0)), (1, .ref (K.2.2 + a1))] []
  have hj_60 : (∀ (s0_60 : Int32) (s1_60 : Int32), Ok (f8_countUnlike_j60 a0 a1 σ s0_60 s1_60) Qf → J X K 3 False QQ 0 0 2017 (jw K σ) 60 [] [.int s1_60, .int s0_60]) := by
    intro s0_60 s1_60 h
    unfold f8_countUnlike_j60 at h
    refine J_iadd C dX8_countUnlike_60 rfl ?_
    obtain ⟨x2_1, e_x2_1, h⟩ := Ok.nm h
    refine J_istoreE_n (i := 2) (lv' := [(2, .int x2_1)]) C e_x2_1 dX8_countUnlike_61 rfl (Nat.le_of_ble_eq_true rfl) rfl rfl ?_
    refine J_iload_n (i := 2) (p := 0) C dX8_countUnlike_62 rfl rfl rfl ?_
    rw [← hQQ]
    exact J_iret C hret (Nat.le_of_ble_eq_true rfl) (Nat.le_of_ble_eq_true rfl) ⟨_, h.osome, rfl, rfl, rfl⟩ dX8_countUnlike_63
  have hj_44 : (∀ (s0_44 : Int32) (s1_44 : Int32), Ok (f8_countUnlike_j44 a0 a1 σ s0_44 s1_44) Qf → J X K 3 False QQ 0 0 2017 (jw K σ) 44 [(0, .ref (K.2.2 + a0)), (1, .ref (K.2.2 + a1))] [.int s1_44, .int s0_44]) := by
    intro s0_44 s1_44 h
    unfold f8_countUnlike_j44 at h
    refine J_iadd C dX8_countUnlike_44 rfl ?_
    obtain ⟨x2_2, e_x2_2, h⟩ := Ok.nm h
    refine J_istoreE_n (i := 2) (lv' := [(2, .int x2_2), (0, .ref (K.2.2 + a0)), (1, .ref (K.2.2 + a1))]) C e_x2_2 dX8_countUnlike_45 rfl (Nat.le_of_ble_eq_true rfl) rfl rfl ?_
    refine J_iload_n (i := 2) (p := 0) C dX8_countUnlike_46 rfl rfl rfl ?_
    refine J_aload_n (i := 0) (p := 1) C dX8_countUnlike_47 rfl rfl rfl ?_
    refine J_aload_n (i := 1) (p := 2) C dX8_countUnlike_48 rfl rfl rfl ?_
    refine Jc_cV (rest := [.int x2_2]) (st9 := fun p_1 => [.int p_1, .int x2_2]) C hR hX cv_RX8_86 h_a0 (Nat.le_of_ble_eq_true rfl) (k8_hasHiddenOf hl h_a0 h_a1 (Ok.ofbnd h)) rfl rfl (Nat.le_of_ble_eq_true rfl) (Nat.le_of_ble_eq_true rfl) (Nat.le_of_ble_eq_true rfl) ⟨(Nat.le_of_ble_eq_true rfl), (Nat.le_of_ble_eq_true rfl)⟩ dX8_countUnlike_49 rfl (fun E n9 w9 hx => JT_n hx) (fun _ => rfl) (fun p_1 h => ?_)
    have h : Ok _ _ := h
    change J X K 3 False QQ 0 0 2017 (jw K σ) 52 [(2, .int x2_2), (0, .ref (K.2.2 + a0)), (1, .ref (K.2.2 + a1))] [.int p_1, .int x2_2]
    refine J_if_eq (t := 59) C dX8_countUnlike_52 (by decide) rfl (fun c_2 => ?_) (fun c_2 => ?_)
    · have h := h.pos c_2
      refine J_iconst (v := 1) C (by decide) dX8_countUnlike_59 rfl ?_
      refine J.sub [] rfl ?_
      exact hj_60 x2_2 (1 : Int32) h
    · have h := h.neg c_2
      refine J_iconst (v := 0) C (by decide) dX8_countUnlike_55 rfl ?_
      refine J_goto (t := 60) C dX8_countUnlike_56 (by decide) ?_
      refine J.sub [] rfl ?_
      exact hj_60 x2_2 (0 : Int32) h
  have hj_28 : (∀ (s0_28 : Int32) (s1_28 : Int32), Ok (f8_countUnlike_j28 a0 a1 σ s0_28 s1_28) Qf → J X K 3 False QQ 0 0 2017 (jw K σ) 28 [(0, .ref (K.2.2 + a0)), (1, .ref (K.2.2 + a1))] [.int s1_28, .int s0_28]) := by
    intro s0_28 s1_28 h
    unfold f8_countUnlike_j28 at h
    refine J_iadd C dX8_countUnlike_28 rfl ?_
    obtain ⟨x2_3, e_x2_3, h⟩ := Ok.nm h
    refine J_istoreE_n (i := 2) (lv' := [(2, .int x2_3), (0, .ref (K.2.2 + a0)), (1, .ref (K.2.2 + a1))]) C e_x2_3 dX8_countUnlike_29 rfl (Nat.le_of_ble_eq_true rfl) rfl rfl ?_
    refine J_iload_n (i := 2) (p := 0) C dX8_countUnlike_30 rfl rfl rfl ?_
    refine J_aload_n (i := 0) (p := 1) C dX8_countUnlike_31 rfl rfl rfl ?_
    refine J_aload_n (i := 1) (p := 2) C dX8_countUnlike_32 rfl rfl rfl ?_
    refine Jc_cV (rest := [.int x2_3]) (st9 := fun p_3 => [.int p_3, .int x2_3]) C hR hX cv_RX8_83 h_a0 (Nat.le_of_ble_eq_true rfl) (k8_hasMarksOf hl h_a0 h_a1 (Ok.ofbnd h)) rfl rfl (Nat.le_of_ble_eq_true rfl) (Nat.le_of_ble_eq_true rfl) (Nat.le_of_ble_eq_true rfl) ⟨(Nat.le_of_ble_eq_true rfl), (Nat.le_of_ble_eq_true rfl)⟩ dX8_countUnlike_33 rfl (fun E n9 w9 hx => JT_n hx) (fun _ => rfl) (fun p_3 h => ?_)
    have h : Ok _ _ := h
    change J X K 3 False QQ 0 0 2017 (jw K σ) 36 [(2, .int x2_3), (0, .ref (K.2.2 + a0)), (1, .ref (K.2.2 + a1))] [.int p_3, .int x2_3]
    refine J_if_eq (t := 43) C dX8_countUnlike_36 (by decide) rfl (fun c_4 => ?_) (fun c_4 => ?_)
    · have h := h.pos c_4
      refine J_iconst (v := 1) C (by decide) dX8_countUnlike_43 rfl ?_
      refine J.sub [1, 2] rfl ?_
      exact hj_44 x2_3 (1 : Int32) h
    · have h := h.neg c_4
      refine J_iconst (v := 0) C (by decide) dX8_countUnlike_39 rfl ?_
      refine J_goto (t := 44) C dX8_countUnlike_40 (by decide) ?_
      refine J.sub [1, 2] rfl ?_
      exact hj_44 x2_3 (0 : Int32) h
  have hj_13 : (∀ (s0_13 : Int32), Ok (f8_countUnlike_j13 a0 a1 σ s0_13) Qf → J X K 3 False QQ 0 0 2017 (jw K σ) 13 [(0, .ref (K.2.2 + a0)), (1, .ref (K.2.2 + a1))] [.int s0_13]) := by
    intro s0_13 h
    unfold f8_countUnlike_j13 at h
    obtain ⟨x2_4, e_x2_4, h⟩ := Ok.nm h
    refine J_istoreE_n (i := 2) (lv' := [(2, .int x2_4), (0, .ref (K.2.2 + a0)), (1, .ref (K.2.2 + a1))]) C e_x2_4 dX8_countUnlike_13 rfl (Nat.le_of_ble_eq_true rfl) rfl rfl ?_
    refine J_iload_n (i := 2) (p := 0) C dX8_countUnlike_14 rfl rfl rfl ?_
    refine J_aload_n (i := 0) (p := 1) C dX8_countUnlike_15 rfl rfl rfl ?_
    refine J_aload_n (i := 1) (p := 2) C dX8_countUnlike_16 rfl rfl rfl ?_
    refine Jc_cV (rest := [.int x2_4]) (st9 := fun p_5 => [.int p_5, .int x2_4]) C hR hX cv_RX8_80 h_a0 (Nat.le_of_ble_eq_true rfl) (k8_hasCursorsOf hl h_a0 h_a1 (Ok.ofbnd h)) rfl rfl (Nat.le_of_ble_eq_true rfl) (Nat.le_of_ble_eq_true rfl) (Nat.le_of_ble_eq_true rfl) ⟨(Nat.le_of_ble_eq_true rfl), (Nat.le_of_ble_eq_true rfl)⟩ dX8_countUnlike_17 rfl (fun E n9 w9 hx => JT_n hx) (fun _ => rfl) (fun p_5 h => ?_)
    have h : Ok _ _ := h
    change J X K 3 False QQ 0 0 2017 (jw K σ) 20 [(2, .int x2_4), (0, .ref (K.2.2 + a0)), (1, .ref (K.2.2 + a1))] [.int p_5, .int x2_4]
    refine J_if_eq (t := 27) C dX8_countUnlike_20 (by decide) rfl (fun c_6 => ?_) (fun c_6 => ?_)
    · have h := h.pos c_6
      refine J_iconst (v := 1) C (by decide) dX8_countUnlike_27 rfl ?_
      refine J.sub [1, 2] rfl ?_
      exact hj_28 x2_4 (1 : Int32) h
    · have h := h.neg c_6
      refine J_iconst (v := 0) C (by decide) dX8_countUnlike_23 rfl ?_
      refine J_goto (t := 28) C dX8_countUnlike_24 (by decide) ?_
      refine J.sub [1, 2] rfl ?_
      exact hj_28 x2_4 (0 : Int32) h
  unfold f8_countUnlike at h
  refine J_aload_n (i := 0) (p := 0) C dX8_countUnlike_0 rfl rfl rfl ?_
  refine J_aload_n (i := 1) (p := 1) C dX8_countUnlike_1 rfl rfl rfl ?_
  refine Jc_cV (rest := []) (st9 := fun p_7 => [.int p_7]) C hR hX cv_RX8_76 h_a0 (Nat.le_of_ble_eq_true rfl) (k8_hasTextOf hl h_a0 h_a1 (Ok.ofbnd h)) rfl rfl (Nat.le_of_ble_eq_true rfl) (Nat.le_of_ble_eq_true rfl) (Nat.le_of_ble_eq_true rfl) ⟨(Nat.le_of_ble_eq_true rfl), (Nat.le_of_ble_eq_true rfl)⟩ dX8_countUnlike_2 rfl (fun E n9 w9 hx => JT_n hx) (fun _ => rfl) (fun p_7 h => ?_)
  have h : Ok _ _ := h
  change J X K 3 False QQ 0 0 2017 (jw K σ) 5 [(0, .ref (K.2.2 + a0)), (1, .ref (K.2.2 + a1))] [.int p_7]
  refine J_if_eq (t := 12) C dX8_countUnlike_5 (by decide) rfl (fun c_8 => ?_) (fun c_8 => ?_)
  · have h := h.pos c_8
    refine J_iconst (v := 1) C (by decide) dX8_countUnlike_12 rfl ?_
    exact hj_13 (1 : Int32) h
  · have h := h.neg c_8
    refine J_iconst (v := 0) C (by decide) dX8_countUnlike_8 rfl ?_
    refine J_goto (t := 13) C dX8_countUnlike_9 (by decide) ?_
    exact hj_13 (0 : Int32) h
def f11_errors_j22 (σ_22 : Sto) (s0_22 : Int32) : Option (Int32 × Sto) :=
  stp s0_22 fun x1_1 =>
  bnd (f8_become σ_22 2005 1) fun p_1 =>
  bnd (f4_goBack p_1 1 (150 : Int32)) fun p_2 =>
  stp p_2.1 fun x3_2 =>
  bnd (f4_goOn p_2.2 1 x3_2) fun p_3 =>
  bnd (f8_countUnlike p_3.2 1 2005) fun p_4 =>
  some (x1_1 + p_4, p_3.2)
def f11_errors (σ : Sto) : Option (Int32 × Sto) :=
  bnd (f4_closeGroup σ) fun p_5 =>
  bnd (f8_hasTrueBegins p_5 1) fun p_6 =>
  if p_6 = 0 then
    f11_errors_j22 p_5 (1 : Int32)
  else
    f11_errors_j22 p_5 (0 : Int32)
set_option maxHeartbeats 4000000 in
set_option maxRecDepth 100000 in
theorem k11_errors {l : Launch} {K : JK} (hl : l.stackTraces = false) {σ : Sto}   {Qf : Int32 × Sto → Prop} (h : Ok (f11_errors σ) Qf) : Con l K yX11_errors (.code yX11_errors cX11_errors 4 (some .int) :: TB) 3 0 0 False [.ref (K.2.2 + 0)] 2017 (jw K σ) (PR Qf (fun p => some (.int p.1)) (fun p => jw K p.2)) PN := by
  refine Con.enter (own := RX11) hl (by decide) rfl (Nat.le_of_ble_eq_true rfl) ?_
  intro X hX hR C hret hnt
  generalize hQQ : jQ X K 0 0 (PR Qf (fun p => some (.int p.1)) (fun p => jw K p.2)) PN False = QQ
  change J X K 4 False QQ 0 0 2017 (jw K σ) 0 [(0, .ref (K.2.2 + 0))] []
  have hj_22 : (∀ (σ_22 : Sto) (s0_22 : Int32), Ok (f11_errors_j22 σ_22 s0_22) Qf → J X K 4 False QQ 0 0 2017 (jw K σ_22) 22 [(0, .ref (K.2.2 + 0))] [.int s0_22]) := by
    intro σ_22 s0_22 h
    unfold f11_errors_j22 at h
    obtain ⟨x1_1, e_x1_1, h⟩ := Ok.nm h
    refine J_istoreE_n (i := 1) (lv' := [(1, .int x1_1), (0, .ref (K.2.2 + 0))]) C e_x1_1 dX11_errors_22 rfl (Nat.le_of_ble_eq_true rfl) rfl rfl ?_
    refine J_aload_n (i := 0) (p := 1) C dX11_errors_23 rfl rfl rfl ?_
    refine Jc_getS (o2 := 1997) (r2 := 1997) C fp_RX11_63 rfl rfl rfl dX11_errors_24 rfl ?_
    refine Jc_getS (o2 := 8) (r2 := 2005) C fp_RX11_391 rfl rfl rfl dX11_errors_27 rfl ?_
    refine J_astore_n (i := 2) (lv' := [(2, .ref (K.2.2 + 2005)), (1, .int x1_1), (0, .ref (K.2.2 + 0))]) C dX11_errors_30 rfl (Nat.le_of_ble_eq_true rfl) rfl rfl ?_
    refine J_aload_n (i := 2) (p := 0) C dX11_errors_31 rfl rfl rfl ?_
    refine J_aload_n (i := 0) (p := 2) C dX11_errors_32 rfl rfl rfl ?_
    refine Jc_getS (o2 := 1) (r2 := 1) C fp_RX11_10 rfl rfl rfl dX11_errors_33 rfl ?_
    refine Jc_cV (rest := []) (st9 := fun p_1 => []) C hR hX cv_RX11_382 rfl (Nat.le_of_ble_eq_true rfl) (k8_become hl rfl rfl (Ok.ofbnd h)) rfl rfl (Nat.le_of_ble_eq_true rfl) (Nat.le_of_ble_eq_true rfl) (Nat.le_of_ble_eq_true rfl) ⟨(Nat.le_of_ble_eq_true rfl), (Nat.le_of_ble_eq_true rfl)⟩ dX11_errors_36 rfl (fun E n9 w9 hx => JT_n hx) (fun _ => rfl) (fun p_1 h => ?_)
    have h : Ok _ _ := h
    change J X K 4 False QQ 0 0 2017 (jw K p_1) 39 [(2, .ref (K.2.2 + 2005)), (1, .int x1_1), (0, .ref (K.2.2 + 0))] []
    refine J_aload_n (i := 0) (p := 2) C dX11_errors_39 rfl rfl rfl ?_
    refine Jc_getS (o2 := 24) (r2 := 24) C fp_RX11_42 rfl rfl rfl dX11_errors_40 rfl ?_
    refine J_aload_n (i := 0) (p := 2) C dX11_errors_43 rfl rfl rfl ?_
    refine Jc_getS (o2 := 1) (r2 := 1) C fp_RX11_10 rfl rfl rfl dX11_errors_44 rfl ?_
    refine J_sipush (v := 150) C (by decide) dX11_errors_47 rfl ?_
    refine Jc_cV (rest := []) (st9 := fun p_2 => [.int p_2.1]) C hR hX cv_RX11_221 rfl (Nat.le_of_ble_eq_true rfl) (k4_goBack hl rfl (Ok.ofbnd h)) rfl rfl (Nat.le_of_ble_eq_true rfl) (Nat.le_of_ble_eq_true rfl) (Nat.le_of_ble_eq_true rfl) ⟨(Nat.le_of_ble_eq_true rfl), (Nat.le_of_ble_eq_true rfl)⟩ dX11_errors_50 rfl (fun E n9 w9 hx => JT_n hx) (fun _ => rfl) (fun p_2 h => ?_)
    have h : Ok _ _ := h
    change J X K 4 False QQ 0 0 2017 (jw K p_2.2) 53 [(2, .ref (K.2.2 + 2005)), (1, .int x1_1), (0, .ref (K.2.2 + 0))] [.int p_2.1]
    obtain ⟨x3_2, e_x3_2, h⟩ := Ok.nm h
    refine J_istoreE_n (i := 3) (lv' := [(3, .int x3_2), (2, .ref (K.2.2 + 2005)), (1, .int x1_1), (0, .ref (K.2.2 + 0))]) C e_x3_2 dX11_errors_53 rfl (Nat.le_of_ble_eq_true rfl) rfl rfl ?_
    refine J_aload_n (i := 0) (p := 3) C dX11_errors_54 rfl rfl rfl ?_
    refine Jc_getS (o2 := 24) (r2 := 24) C fp_RX11_42 rfl rfl rfl dX11_errors_55 rfl ?_
    refine J_aload_n (i := 0) (p := 3) C dX11_errors_58 rfl rfl rfl ?_
    refine Jc_getS (o2 := 1) (r2 := 1) C fp_RX11_10 rfl rfl rfl dX11_errors_59 rfl ?_
    refine J_iload_n (i := 3) (p := 0) C dX11_errors_62 rfl rfl rfl ?_
    refine Jc_cV (rest := []) (st9 := fun p_3 => [.int p_3.1]) C hR hX cv_RX11_224 rfl (Nat.le_of_ble_eq_true rfl) (k4_goOn hl rfl (Ok.ofbnd h)) rfl rfl (Nat.le_of_ble_eq_true rfl) (Nat.le_of_ble_eq_true rfl) (Nat.le_of_ble_eq_true rfl) ⟨(Nat.le_of_ble_eq_true rfl), (Nat.le_of_ble_eq_true rfl)⟩ dX11_errors_63 rfl (fun E n9 w9 hx => JT_n hx) (fun _ => rfl) (fun p_3 h => ?_)
    have h : Ok _ _ := h
    change J X K 4 False QQ 0 0 2017 (jw K p_3.2) 66 [(3, .int x3_2), (2, .ref (K.2.2 + 2005)), (1, .int x1_1), (0, .ref (K.2.2 + 0))] [.int p_3.1]
    refine J_pop C rfl dX11_errors_66 rfl ?_
    refine J_iload_n (i := 1) (p := 2) C dX11_errors_67 rfl rfl rfl ?_
    refine J_aload_n (i := 0) (p := 3) C dX11_errors_68 rfl rfl rfl ?_
    refine Jc_getS (o2 := 1) (r2 := 1) C fp_RX11_10 rfl rfl rfl dX11_errors_69 rfl ?_
    refine J_aload_n (i := 2) (p := 1) C dX11_errors_72 rfl rfl rfl ?_
    refine Jc_cV (rest := [.int x1_1]) (st9 := fun p_4 => [.int p_4, .int x1_1]) C hR hX cv_RX11_394 rfl (Nat.le_of_ble_eq_true rfl) (k8_countUnlike hl rfl rfl (Ok.ofbnd h)) rfl rfl (Nat.le_of_ble_eq_true rfl) (Nat.le_of_ble_eq_true rfl) (Nat.le_of_ble_eq_true rfl) ⟨(Nat.le_of_ble_eq_true rfl), (Nat.le_of_ble_eq_true rfl)⟩ dX11_errors_73 rfl (fun E n9 w9 hx => JT_n hx) (fun _ => rfl) (fun p_4 h => ?_)
    have h : Ok _ _ := h
    change J X K 4 False QQ 0 0 2017 (jw K p_3.2) 76 [(3, .int x3_2), (2, .ref (K.2.2 + 2005)), (1, .int x1_1), (0, .ref (K.2.2 + 0))] [.int p_4, .int x1_1]
    refine J_iadd C dX11_errors_76 rfl ?_
    rw [← hQQ]
    exact J_iret C hret (Nat.le_of_ble_eq_true rfl) (Nat.le_of_ble_eq_true rfl) ⟨_, h.osome, rfl, rfl, rfl⟩ dX11_errors_77
  unfold f11_errors at h
  refine J_aload_n (i := 0) (p := 0) C dX11_errors_0 rfl rfl rfl ?_
  refine Jc_getS (o2 := 24) (r2 := 24) C fp_RX11_42 rfl rfl rfl dX11_errors_1 rfl ?_
  refine Jc_cV (rest := []) (st9 := fun p_5 => []) C hR hX cv_RX11_218 rfl (Nat.le_of_ble_eq_true rfl) (k4_closeGroup hl  (Ok.ofbnd h)) rfl rfl (Nat.le_of_ble_eq_true rfl) (Nat.le_of_ble_eq_true rfl) (Nat.le_of_ble_eq_true rfl) ⟨(Nat.le_of_ble_eq_true rfl), (Nat.le_of_ble_eq_true rfl)⟩ dX11_errors_4 rfl (fun E n9 w9 hx => JT_n hx) (fun _ => rfl) (fun p_5 h => ?_)
  have h : Ok _ _ := h
  change J X K 4 False QQ 0 0 2017 (jw K p_5) 7 [(0, .ref (K.2.2 + 0))] []
  refine J_aload_n (i := 0) (p := 0) C dX11_errors_7 rfl rfl rfl ?_
  refine Jc_getS (o2 := 1) (r2 := 1) C fp_RX11_10 rfl rfl rfl dX11_errors_8 rfl ?_
  refine Jc_cV (rest := []) (st9 := fun p_6 => [.int p_6]) C hR hX cv_RX11_388 rfl (Nat.le_of_ble_eq_true rfl) (k8_hasTrueBegins hl rfl (Ok.ofbnd h)) rfl rfl (Nat.le_of_ble_eq_true rfl) (Nat.le_of_ble_eq_true rfl) (Nat.le_of_ble_eq_true rfl) ⟨(Nat.le_of_ble_eq_true rfl), (Nat.le_of_ble_eq_true rfl)⟩ dX11_errors_11 rfl (fun E n9 w9 hx => JT_n hx) (fun _ => rfl) (fun p_6 h => ?_)
  have h : Ok _ _ := h
  change J X K 4 False QQ 0 0 2017 (jw K p_5) 14 [(0, .ref (K.2.2 + 0))] [.int p_6]
  refine J_if_eq (t := 21) C dX11_errors_14 (by decide) rfl (fun c_7 => ?_) (fun c_7 => ?_)
  · have h := h.pos c_7
    refine J_iconst (v := 1) C (by decide) dX11_errors_21 rfl ?_
    exact hj_22 p_5 (1 : Int32) h
  · have h := h.neg c_7
    refine J_iconst (v := 0) C (by decide) dX11_errors_17 rfl ?_
    refine J_goto (t := 22) C dX11_errors_18 (by decide) ?_
    exact hj_22 p_5 (0 : Int32) h
