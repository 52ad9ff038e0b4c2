def f4_countBehind_b10 (σ : Sto) (l1_10 : Int32) (l2_10 : Nat) : Option ((Int32 × Nat) ⊕ Int32) :=
  if l2_10 = 0 then
    some (.inr l1_10)
  else
    stp (l1_10 + (1 : Int32)) fun x1_1 =>
    gd (okr l2_10 0) <|
    stp (fR σ (l2_10 - 1) 0) fun x2_2 =>
    some (.inl (x1_1, x2_2))
def f4_countBehind_j10 (σ : Sto) (l1_10 : Int32) (l2_10 : Nat) : Option (Int32) :=
  bnd (loopF (fun s_10 => f4_countBehind_b10 σ s_10.1 s_10.2) FU (l1_10, l2_10)) fun r_10 =>
    some r_10
def f4_countBehind (σ : Sto) : Option (Int32) :=
  stp (0 : Int32) fun x1_3 =>
  gd (okr (fR σ 24 2) 0) <|
  stp (fR σ ((fR σ 24 2) - 1) 0) fun x2_4 =>
  f4_countBehind_j10 σ x1_3 x2_4
set_option maxHeartbeats 4000000 in
set_option maxRecDepth 100000 in
theorem k4_countBehind {l : Launch} {K : JK} (hl : l.stackTraces = false) {σ : Sto}   {Qf : Int32 → Prop} (h : Ok (f4_countBehind σ) Qf) : Con l K yX4_countBehind (.code yX4_countBehind cX4_countBehind 3 (some .int) :: TB) 0 0 0 False [.ref (K.2.2 + 24)] 2017 (jw K σ) (PR Qf (fun p => some (.int p)) (fun p => jw K σ)) PN := by
  refine Con.enter (own := RX4) hl (by decide) rfl (Nat.le_of_ble_eq_true rfl) ?_
  intro X hX hR C hret hnt
  generalize hQQ : jQ X K 0 0 (PR Qf (fun p => some (.int p)) (fun p => jw K σ)) PN False = QQ
  change J X K 3 False QQ 0 0 2017 (jw K σ) 0 [(0, .ref (K.2.2 + 24))] []
  have hj_10 : (∀ (l1_10 : Int32) (l2_10 : Nat), Ok (f4_countBehind_j10 σ l1_10 l2_10) Qf → J X K 3 False QQ 0 0 2017 (jw K σ) 10 [(1, .int l1_10), (2, jv K.2.2 l2_10)] []) := by
    intro l1_10 l2_10 h
    unfold f4_countBehind_j10 at h
    refine loop_gen (S := Int32 × Nat) (P := fun s_10 => J X K 3 False QQ 0 0 2017 (jw K σ) 10 [(1, .int s_10.1), (2, jv K.2.2 s_10.2)] []) ?_ FU (l1_10, l2_10) (Ok.ofbnd h)
    intro B_10 hB_10 hE_10 s_10 h
    obtain ⟨l1_10, l2_10⟩ := s_10
    have h : Ok (f4_countBehind_b10 σ l1_10 l2_10) B_10 := h
    change J X K 3 False QQ 0 0 2017 (jw K σ) 10 [(1, .int l1_10), (2, jv K.2.2 l2_10)] []
    unfold f4_countBehind_b10 at h
    refine J_aloadq_n (i := 2) (p := 1) C dX4_countBehind_10 rfl rfl rfl ?_
    refine J_ifnullq (t := 25) C dX4_countBehind_11 (by decide) rfl (fun c_1 => ?_) (fun c_1 => ?_)
    · have h := h.pos c_1
      have h := hE_10 l1_10 h.osome
      try dsimp only at h
      refine J_iload_n (i := 1) (p := 0) C dX4_countBehind_25 rfl rfl rfl ?_
      rw [← hQQ]
      exact J_iret C hret (Nat.le_of_ble_eq_true rfl) (Nat.le_of_ble_eq_true rfl) ⟨_, h.osome, rfl, rfl, rfl⟩ dX4_countBehind_26
    · have h := h.neg c_1
      obtain ⟨x1_1, e_x1_1, h⟩ := Ok.nm h
      refine J_iincE (i := 1) (p := 0) (lv' := [(1, .int x1_1), (2, jv K.2.2 l2_10)]) C e_x1_1 dX4_countBehind_14 rfl (by decide) (Nat.le_of_ble_eq_true rfl) rfl rfl ?_
      refine J_aloadq_n (i := 2) (p := 1) C dX4_countBehind_17 rfl rfl rfl ?_
      obtain ⟨g_2, h⟩ := Ok.ofgd h
      rw [jv_pos (r := l2_10) (okr_spec g_2).1]
      refine Jc_getD C fp_RX4_43 (okr_spec g_2).2 rfl dX4_countBehind_18 rfl ?_
      obtain ⟨x2_2, e_x2_2, h⟩ := Ok.nm h
      refine J_astoreqE_n (i := 2) (lv' := [(2, jv K.2.2 x2_2), (1, .int x1_1)]) C e_x2_2 dX4_countBehind_21 rfl (Nat.le_of_ble_eq_true rfl) rfl rfl ?_
      refine J_goto (t := 10) C dX4_countBehind_22 (by decide) ?_
      refine J.sub [1, 0] rfl ?_
      exact hB_10 (x1_1, x2_2) h.osome
  unfold f4_countBehind at h
  refine J_iconst (v := 0) C (by decide) dX4_countBehind_0 rfl ?_
  obtain ⟨x1_3, e_x1_3, h⟩ := Ok.nm h
  refine J_istoreE_n (i := 1) (lv' := [(1, .int x1_3), (0, .ref (K.2.2 + 24))]) C e_x1_3 dX4_countBehind_1 rfl (Nat.le_of_ble_eq_true rfl) rfl rfl ?_
  refine J_aload_n (i := 0) (p := 1) C dX4_countBehind_2 rfl rfl rfl ?_
  refine Jc_getD C fp_RX4_22 rfl rfl dX4_countBehind_3 rfl ?_
  obtain ⟨g_3, h⟩ := Ok.ofgd h
  rw [jv_pos (r := fR σ 24 2) (okr_spec g_3).1]
  refine Jc_getD C fp_RX4_43 (okr_spec g_3).2 rfl dX4_countBehind_6 rfl ?_
  obtain ⟨x2_4, e_x2_4, h⟩ := Ok.nm h
  refine J_astoreqE_n (i := 2) (lv' := [(2, jv K.2.2 x2_4), (1, .int x1_3), (0, .ref (K.2.2 + 24))]) C e_x2_4 dX4_countBehind_9 rfl (Nat.le_of_ble_eq_true rfl) rfl rfl ?_
  refine J.sub [1, 0] rfl ?_
  exact hj_10 x1_3 x2_4 h
def f4_countAhead_b10 (σ : Sto) (l1_10 : Int32) (l2_10 : Nat) : Option ((Int32 × Nat) ⊕ Int32) :=
  if l2_10 = 0 then
    some (.inr l1_10)
  else
    stp (l1_10 + (1 : Int32)) fun x1_1 =>
    gd (okr l2_10 0) <|
    stp (fR σ (l2_10 - 1) 1) fun x2_2 =>
    some (.inl (x1_1, x2_2))
def f4_countAhead_j10 (σ : Sto) (l1_10 : Int32) (l2_10 : Nat) : Option (Int32) :=
  bnd (loopF (fun s_10 => f4_countAhead_b10 σ s_10.1 s_10.2) FU (l1_10, l2_10)) fun r_10 =>
    some r_10
def f4_countAhead (σ : Sto) : Option (Int32) :=
  stp (0 : Int32) fun x1_3 =>
  gd (okr (fR σ 24 2) 0) <|
  stp (fR σ ((fR σ 24 2) - 1) 1) fun x2_4 =>
  f4_countAhead_j10 σ x1_3 x2_4
set_option maxHeartbeats 4000000 in
set_option maxRecDepth 100000 in
theorem k4_countAhead {l : Launch} {K : JK} (hl : l.stackTraces = false) {σ : Sto}   {Qf : Int32 → Prop} (h : Ok (f4_countAhead σ) Qf) : Con l K yX4_countAhead (.code yX4_countAhead cX4_countAhead 3 (some .int) :: TB) 0 0 0 False [.ref (K.2.2 + 24)] 2017 (jw K σ) (PR Qf (fun p => some (.int p)) (fun p => jw K σ)) PN := by
  refine Con.enter (own := RX4) hl (by decide) rfl (Nat.le_of_ble_eq_true rfl) ?_
  intro X hX hR C hret hnt
  generalize hQQ : jQ X K 0 0 (PR Qf (fun p => some (.int p)) (fun p => jw K σ)) PN False = QQ
  change J X K 3 False QQ 0 0 2017 (jw K σ) 0 [(0, .ref (K.2.2 + 24))] []
  have hj_10 : (∀ (l1_10 : Int32) (l2_10 : Nat), Ok (f4_countAhead_j10 σ l1_10 l2_10) Qf → J X K 3 False QQ 0 0 2017 (jw K σ) 10 [(1, .int l1_10), (2, jv K.2.2 l2_10)] []) := by
    intro l1_10 l2_10 h
    unfold f4_countAhead_j10 at h
    refine loop_gen (S := Int32 × Nat) (P := fun s_10 => J X K 3 False QQ 0 0 2017 (jw K σ) 10 [(1, .int s_10.1), (2, jv K.2.2 s_10.2)] []) ?_ FU (l1_10, l2_10) (Ok.ofbnd h)
    intro B_10 hB_10 hE_10 s_10 h
    obtain ⟨l1_10, l2_10⟩ := s_10
    have h : Ok (f4_countAhead_b10 σ l1_10 l2_10) B_10 := h
    change J X K 3 False QQ 0 0 2017 (jw K σ) 10 [(1, .int l1_10), (2, jv K.2.2 l2_10)] []
    unfold f4_countAhead_b10 at h
    refine J_aloadq_n (i := 2) (p := 1) C dX4_countAhead_10 rfl rfl rfl ?_
    refine J_ifnullq (t := 25) C dX4_countAhead_11 (by decide) rfl (fun c_1 => ?_) (fun c_1 => ?_)
    · have h := h.pos c_1
      have h := hE_10 l1_10 h.osome
      try dsimp only at h
      refine J_iload_n (i := 1) (p := 0) C dX4_countAhead_25 rfl rfl rfl ?_
      rw [← hQQ]
      exact J_iret C hret (Nat.le_of_ble_eq_true rfl) (Nat.le_of_ble_eq_true rfl) ⟨_, h.osome, rfl, rfl, rfl⟩ dX4_countAhead_26
    · have h := h.neg c_1
      obtain ⟨x1_1, e_x1_1, h⟩ := Ok.nm h
      refine J_iincE (i := 1) (p := 0) (lv' := [(1, .int x1_1), (2, jv K.2.2 l2_10)]) C e_x1_1 dX4_countAhead_14 rfl (by decide) (Nat.le_of_ble_eq_true rfl) rfl rfl ?_
      refine J_aloadq_n (i := 2) (p := 1) C dX4_countAhead_17 rfl rfl rfl ?_
      obtain ⟨g_2, h⟩ := Ok.ofgd h
      rw [jv_pos (r := l2_10) (okr_spec g_2).1]
      refine Jc_getD C fp_RX4_46 (okr_spec g_2).2 rfl dX4_countAhead_18 rfl ?_
      obtain ⟨x2_2, e_x2_2, h⟩ := Ok.nm h
      refine J_astoreqE_n (i := 2) (lv' := [(2, jv K.2.2 x2_2), (1, .int x1_1)]) C e_x2_2 dX4_countAhead_21 rfl (Nat.le_of_ble_eq_true rfl) rfl rfl ?_
      refine J_goto (t := 10) C dX4_countAhead_22 (by decide) ?_
      refine J.sub [1, 0] rfl ?_
      exact hB_10 (x1_1, x2_2) h.osome
  unfold f4_countAhead at h
  refine J_iconst (v := 0) C (by decide) dX4_countAhead_0 rfl ?_
  obtain ⟨x1_3, e_x1_3, h⟩ := Ok.nm h
  refine J_istoreE_n (i := 1) (lv' := [(1, .int x1_3), (0, .ref (K.2.2 + 24))]) C e_x1_3 dX4_countAhead_1 rfl (Nat.le_of_ble_eq_true rfl) rfl rfl ?_
  refine J_aload_n (i := 0) (p := 1) C dX4_countAhead_2 rfl rfl rfl ?_
  refine Jc_getD C fp_RX4_22 rfl rfl dX4_countAhead_3 rfl ?_
  obtain ⟨g_3, h⟩ := Ok.ofgd h
  rw [jv_pos (r := fR σ 24 2) (okr_spec g_3).1]
  refine Jc_getD C fp_RX4_46 (okr_spec g_3).2 rfl dX4_countAhead_6 rfl ?_
  obtain ⟨x2_4, e_x2_4, h⟩ := Ok.nm h
  refine J_astoreqE_n (i := 2) (lv' := [(2, jv K.2.2 x2_4), (1, .int x1_3), (0, .ref (K.2.2 + 24))]) C e_x2_4 dX4_countAhead_9 rfl (Nat.le_of_ble_eq_true rfl) rfl rfl ?_
  refine J.sub [1, 0] rfl ?_
  exact hj_10 x1_3 x2_4 h
def f11_acts (σ : Sto) (l1 : Int32) : Option ((Int32 × Sto) ⊕ (Nat × Sto)) :=
  if Int32.toInt l1 = 0 then
    some (.inl (fI σ 24 1, σ))
  else if Int32.toInt l1 = 1 then
    bnd (f4_countBehind σ) fun p_3 =>
    some (.inl (p_3, σ))
  else if Int32.toInt l1 = 2 then
    bnd (f4_countAhead σ) fun p_5 =>
    some (.inl (p_5, σ))
  else if Int32.toInt l1 = 3 then
    bnd (f4_countContinuations σ) fun p_7 =>
    some (.inl (p_7, σ))
  else
    some (.inr (2, σ))
set_option maxHeartbeats 4000000 in
set_option maxRecDepth 100000 in
theorem k11_acts {l : Launch} {K : JK} (hl : l.stackTraces = false) {σ : Sto} {l1 : Int32}  {Qf : (Int32 × Sto) ⊕ (Nat × Sto) → Prop} (h : Ok (f11_acts σ l1) Qf) : Con l K yX11_acts (.code yX11_acts cX11_acts 2 (some .int) :: TB) 6 1 6 False [.ref (K.2.2 + 0), .int l1] 2017 (jw K σ) (PR (fun p => Qf (.inl p)) (fun p => some (.int p.1)) (fun p => jw K p.2)) (PX Qf (fun s => jw K s)) := by
  refine Con.enter (own := RX11) hl (by decide) rfl (Nat.le_of_ble_eq_true rfl) ?_
  intro X hX hR C hret hnt
  generalize hQQ : jQ X K 1 6 (PR (fun p => Qf (.inl p)) (fun p => some (.int p.1)) (fun p => jw K p.2)) (PX Qf (fun s => jw K s)) False = QQ
  change J X K 2 False QQ 0 0 2017 (jw K σ) 0 [(0, .ref (K.2.2 + 0)), (1, .int l1)] []
  unfold f11_acts at h
  refine J_iload_n (i := 1) (p := 1) C dX11_acts_0 rfl rfl rfl ?_
  by_cases c_1 : Int32.toInt l1 = 0
  · have h := h.pos c_1
    refine J_tab (t := 32) C 0 c_1 dX11_acts_1 (by decide) (by decide) rfl (by decide) ?_
    refine J_aload_n (i := 0) (p := 0) C dX11_acts_32 rfl rfl rfl ?_
    refine Jc_getS (o2 := 24) (r2 := 24) C fp_RX11_42 rfl rfl rfl dX11_acts_33 rfl ?_
    refine Jc_getI C fp_RX11_253 rfl rfl dX11_acts_36 rfl ?_
    rw [← hQQ]
    exact J_iret C hret (Nat.le_of_ble_eq_true rfl) (Nat.le_of_ble_eq_true rfl) ⟨_, h.osome, rfl, rfl, rfl⟩ dX11_acts_39
  · have h := h.neg c_1
    by_cases c_3 : Int32.toInt l1 = 1
    · have h := h.pos c_3
      refine J_tab (t := 40) C 1 c_3 dX11_acts_1 (by decide) (by decide) rfl (by decide) ?_
      refine J_aload_n (i := 0) (p := 0) C dX11_acts_40 rfl rfl rfl ?_
      refine Jc_getS (o2 := 24) (r2 := 24) C fp_RX11_42 rfl rfl rfl dX11_acts_41 rfl ?_
      refine Jc_cV (rest := []) (st9 := fun p_3 => [.int p_3]) C hR hX cv_RX11_256 rfl (Nat.le_of_ble_eq_true rfl) (k4_countBehind hl  (Ok.ofbnd h)) rfl rfl (Nat.le_of_ble_eq_true rfl) (Nat.le_of_ble_eq_true rfl) (Nat.le_of_ble_eq_true rfl) ⟨(Nat.le_of_ble_eq_true rfl), (Nat.le_of_ble_eq_true rfl)⟩ dX11_acts_44 rfl (fun E n9 w9 hx => JT_n hx) (fun _ => rfl) (fun p_3 h => ?_)
      have h : Ok _ _ := h
      change J X K 2 False QQ 0 0 2017 (jw K σ) 47 [(0, .ref (K.2.2 + 0)), (1, .int l1)] [.int p_3]
      rw [← hQQ]
      exact J_iret C hret (Nat.le_of_ble_eq_true rfl) (Nat.le_of_ble_eq_true rfl) ⟨_, h.osome, rfl, rfl, rfl⟩ dX11_acts_47
    · have h := h.neg c_3
      by_cases c_5 : Int32.toInt l1 = 2
      · have h := h.pos c_5
        refine J_tab (t := 48) C 2 c_5 dX11_acts_1 (by decide) (by decide) rfl (by decide) ?_
        refine J_aload_n (i := 0) (p := 0) C dX11_acts_48 rfl rfl rfl ?_
        refine Jc_getS (o2 := 24) (r2 := 24) C fp_RX11_42 rfl rfl rfl dX11_acts_49 rfl ?_
        refine Jc_cV (rest := []) (st9 := fun p_5 => [.int p_5]) C hR hX cv_RX11_259 rfl (Nat.le_of_ble_eq_true rfl) (k4_countAhead hl  (Ok.ofbnd h)) rfl rfl (Nat.le_of_ble_eq_true rfl) (Nat.le_of_ble_eq_true rfl) (Nat.le_of_ble_eq_true rfl) ⟨(Nat.le_of_ble_eq_true rfl), (Nat.le_of_ble_eq_true rfl)⟩ dX11_acts_52 rfl (fun E n9 w9 hx => JT_n hx) (fun _ => rfl) (fun p_5 h => ?_)
        have h : Ok _ _ := h
        change J X K 2 False QQ 0 0 2017 (jw K σ) 55 [(0, .ref (K.2.2 + 0)), (1, .int l1)] [.int p_5]
        rw [← hQQ]
        exact J_iret C hret (Nat.le_of_ble_eq_true rfl) (Nat.le_of_ble_eq_true rfl) ⟨_, h.osome, rfl, rfl, rfl⟩ dX11_acts_55
      · have h := h.neg c_5
        by_cases c_7 : Int32.toInt l1 = 3
        · have h := h.pos c_7
          refine J_tab (t := 56) C 3 c_7 dX11_acts_1 (by decide) (by decide) rfl (by decide) ?_
          refine J_aload_n (i := 0) (p := 0) C dX11_acts_56 rfl rfl rfl ?_
          refine Jc_getS (o2 := 24) (r2 := 24) C fp_RX11_42 rfl rfl rfl dX11_acts_57 rfl ?_
          refine Jc_cV (rest := []) (st9 := fun p_7 => [.int p_7]) C hR hX cv_RX11_245 rfl (Nat.le_of_ble_eq_true rfl) (k4_countContinuations hl  (Ok.ofbnd h)) rfl rfl (Nat.le_of_ble_eq_true rfl) (Nat.le_of_ble_eq_true rfl) (Nat.le_of_ble_eq_true rfl) ⟨(Nat.le_of_ble_eq_true rfl), (Nat.le_of_ble_eq_true rfl)⟩ dX11_acts_60 rfl (fun E n9 w9 hx => JT_n hx) (fun _ => rfl) (fun p_7 h => ?_)
          have h : Ok _ _ := h
          change J X K 2 False QQ 0 0 2017 (jw K σ) 63 [(0, .ref (K.2.2 + 0)), (1, .int l1)] [.int p_7]
          rw [← hQQ]
          exact J_iret C hret (Nat.le_of_ble_eq_true rfl) (Nat.le_of_ble_eq_true rfl) ⟨_, h.osome, rfl, rfl, rfl⟩ dX11_acts_63
        · have h := h.neg c_7
          refine J_tabO (t := 64) C dX11_acts_1 (by omega) (by decide) ?_
          rw [← hQQ]
          exact J_throwW (is := 262) (text := "what is out of range") C hnt th_82 (by decide +kernel) dX11_acts_64 dX11_acts_67 dX11_acts_68 dX11_acts_71 dX11_acts_74 (by rw [hR]; exact (Nat.le_of_ble_eq_true rfl)) (by rw [hR]; exact (Nat.le_of_ble_eq_true rfl)) (by rw [hR]; exact (Nat.le_of_ble_eq_true rfl)) (by rw [hR]; exact (Nat.le_of_ble_eq_true rfl)) (Nat.le_of_ble_eq_true rfl) (Nat.le_of_ble_eq_true rfl) ⟨2, σ, h.osome, rfl, rfl, rfl⟩
def f11_setCursor (σ : Sto) (l1 : Int32) : Option ((Int32 × Sto) ⊕ (Nat × Sto)) :=
  bndX (f11_requirePlace σ l1) fun p_1 =>
  stp (fI p_1 1 6) fun x2_1 =>
  bnd (f8_leaveOneCursor p_1 1 l1) fun p_2 =>
  some (.inl (x2_1, p_2))
set_option maxHeartbeats 4000000 in
set_option maxRecDepth 100000 in
theorem k11_setCursor {l : Launch} {K : JK} (hl : l.stackTraces = false) {σ : Sto} {l1 : Int32}  {Qf : (Int32 × Sto) ⊕ (Nat × Sto) → Prop} (h : Ok (f11_setCursor σ l1) Qf) : Con l K yX11_setCursor (.code yX11_setCursor cX11_setCursor 3 (some .int) :: TB) 7 1 6 False [.ref (K.2.2 + 0), .int l1] 2017 (jw K σ) (PR (fun p => Qf (.inl p)) (fun p => some (.int p.1)) (fun p => jw K p.2)) (PX Qf (fun s => jw K s)) := by
  refine Con.enter (own := RX11) hl (by decide) rfl (Nat.le_of_ble_eq_true rfl) ?_
  intro X hX hR C hret hnt
  generalize hQQ : jQ X K 1 6 (PR (fun p => Qf (.inl p)) (fun p => some (.int p.1)) (fun p => jw K p.2)) (PX Qf (fun s => jw K s)) False = QQ
  change J X K 3 False QQ 0 0 2017 (jw K σ) 0 [(0, .ref (K.2.2 + 0)), (1, .int l1)] []
  unfold f11_setCursor at h
  refine J_aload_n (i := 0) (p := 0) C dX11_setCursor_0 rfl rfl rfl ?_
  refine J_iload_n (i := 1) (p := 1) C dX11_setCursor_1 rfl rfl rfl ?_
  refine Jc_cV (rest := []) (st9 := fun p_1 => []) C hR hX cv_RX11_264 rfl (Nat.le_of_ble_eq_true rfl) (k11_requirePlace hl  (Ok.ofbndX h)) rfl rfl (Nat.le_of_ble_eq_true rfl) (Nat.le_of_ble_eq_true rfl) (Nat.le_of_ble_eq_true rfl) ⟨(Nat.le_of_ble_eq_true rfl), (Nat.le_of_ble_eq_true rfl)⟩ dX11_setCursor_2 rfl (fun E n9 w9 hx => by rw [← hQQ]; exact JT_x C hnt (Nat.le_of_ble_eq_true rfl) (Nat.le_of_ble_eq_true rfl) (fun c h => h) E n9 w9 hx) (fun _ => rfl) (fun p_1 h => ?_)
  have h : Ok _ _ := h
  change J X K 3 False QQ 1 6 2017 (jw K p_1) 5 [(0, .ref (K.2.2 + 0)), (1, .int l1)] []
  refine J_aload_n (i := 0) (p := 0) C dX11_setCursor_5 rfl rfl rfl ?_
  refine Jc_getS (o2 := 1) (r2 := 1) C fp_RX11_10 rfl rfl rfl dX11_setCursor_6 rfl ?_
  refine Jc_getI C fp_RX11_267 rfl rfl dX11_setCursor_9 rfl ?_
  obtain ⟨x2_1, e_x2_1, h⟩ := Ok.nm h
  refine J_istoreE_n (i := 2) (lv' := [(2, .int x2_1), (0, .ref (K.2.2 + 0)), (1, .int l1)]) C e_x2_1 dX11_setCursor_12 rfl (Nat.le_of_ble_eq_true rfl) rfl rfl ?_
  refine J_aload_n (i := 0) (p := 1) C dX11_setCursor_13 rfl rfl rfl ?_
  refine Jc_getS (o2 := 1) (r2 := 1) C fp_RX11_10 rfl rfl rfl dX11_setCursor_14 rfl ?_
  refine J_iload_n (i := 1) (p := 2) C dX11_setCursor_17 rfl rfl rfl ?_
  refine Jc_cV (rest := []) (st9 := fun p_2 => []) C hR hX cv_RX11_215 rfl (Nat.le_of_ble_eq_true rfl) (k8_leaveOneCursor hl rfl (Ok.ofbnd h)) rfl rfl (Nat.le_of_ble_eq_true rfl) (Nat.le_of_ble_eq_true rfl) (Nat.le_of_ble_eq_true rfl) ⟨(Nat.le_of_ble_eq_true rfl), (Nat.le_of_ble_eq_true rfl)⟩ dX11_setCursor_18 rfl (fun E n9 w9 hx => JT_n hx) (fun _ => rfl) (fun p_2 h => ?_)
  have h : Ok _ _ := h
  change J X K 3 False QQ 1 6 2017 (jw K p_2) 21 [(2, .int x2_1), (0, .ref (K.2.2 + 0)), (1, .int l1)] []
  refine J_iload_n (i := 2) (p := 0) C dX11_setCursor_21 rfl rfl rfl ?_
  rw [← hQQ]
  exact J_iret C hret (Nat.le_of_ble_eq_true rfl) (Nat.le_of_ble_eq_true rfl) ⟨_, h.osome, rfl, rfl, rfl⟩ dX11_setCursor_22
def f8_hasCursorAt_b2 (a0 : Nat) (l1 : Int32) (σ : Sto) (l2_2 : Int32) : Option (Int32 ⊕ (Unit ⊕ Unit)) :=
  if (fI σ a0 6) ≤ l2_2 then
    some (.inr (Sum.inl ()))
  else
    gd (inb l2_2 8) <|
    if (aI σ (a0 + 4) (Int32.toNatClampNeg l2_2)) = l1 then
      some (.inr (Sum.inr ()))
    else
      stp (l2_2 + (1 : Int32)) fun x2_1 =>
      some (.inl x2_1)
def f8_hasCursorAt_j2 (a0 : Nat) (l1 : Int32) (σ : Sto) (l2_2 : Int32) : Option (Int32) :=
  bnd (loopF (fun s_2 => f8_hasCursorAt_b2 a0 l1 σ s_2) FU l2_2) fun r_2 =>
    match r_2 with
    | .inl r_2x =>
      some (0 : Int32)
    | .inr r_2y =>
      some (1 : Int32)
def f8_hasCursorAt (σ : Sto) (a0 : Nat) (l1 : Int32) : Option (Int32) :=
  stp (0 : Int32) fun x2_2 =>
  f8_hasCursorAt_j2 a0 l1 σ x2_2
set_option maxHeartbeats 4000000 in
set_option maxRecDepth 100000 in
theorem k8_hasCursorAt {l : Launch} {K : JK} (hl : l.stackTraces = false) {σ : Sto} {a0 : Nat} {l1 : Int32} (h_a0 : kc a0 = 8) {Qf : Int32 → Prop} (h : Ok (f8_hasCursorAt σ a0 l1) Qf) : Con l K yX8_hasCursorAt (.code yX8_hasCursorAt cX8_hasCursorAt 3 (some .boolean) :: TB) 0 0 0 False [.ref (K.2.2 + a0), .int l1] 2017 (jw K σ) (PR Qf (fun p => some (.int p)) (fun p => jw K σ)) PN := by
  refine Con.enter (own := RX8) hl (by decide) rfl (Nat.le_of_ble_eq_true rfl) ?_
  intro X hX hR C hret hnt
  generalize hQQ : jQ X K 0 0 (PR Qf (fun p => some (.int p)) (fun p => jw K σ)) PN False = QQ
  change J X K 3 False QQ 0 0 2017 (jw K σ) 0 [(0, .ref (K.2.2 + a0)), (1, .int l1)] []
  have hj_2 : (∀ (l2_2 : Int32), Ok (f8_hasCursorAt_j2 a0 l1 σ l2_2) Qf → J X K 3 False QQ 0 0 2017 (jw K σ) 2 [(0, .ref (K.2.2 + a0)), (1, .int l1), (2, .int l2_2)] []) := by
    intro l2_2 h
    unfold f8_hasCursorAt_j2 at h
    refine loop_gen (S := Int32) (P := fun s_2 => J X K 3 False QQ 0 0 2017 (jw K σ) 2 [(0, .ref (K.2.2 + a0)), (1, .int l1), (2, .int s_2)] []) ?_ FU l2_2 (Ok.ofbnd h)
    intro B_2 hB_2 hE_2 s_2 h
    generalize s_2 = l2_2 at h ⊢
    have h : Ok (f8_hasCursorAt_b2 a0 l1 σ l2_2) B_2 := h
    change J X K 3 False QQ 0 0 2017 (jw K σ) 2 [(0, .ref (K.2.2 + a0)), (1, .int l1), (2, .int l2_2)] []
    unfold f8_hasCursorAt_b2 at h
    refine J_iload_n (i := 2) (p := 2) C dX8_hasCursorAt_2 rfl rfl rfl ?_
    refine J_aload_n (i := 0) (p := 0) C dX8_hasCursorAt_3 rfl rfl rfl ?_
    refine Jc_getI C fp_RX8_33 h_a0 rfl dX8_hasCursorAt_4 rfl ?_
    refine J_icmp_ge (t := 28) C dX8_hasCursorAt_7 (by decide) rfl (fun c_1 => ?_) (fun c_1 => ?_)
    · have h := h.pos c_1
      have h := hE_2 (Sum.inl ()) h.osome
      try dsimp only at h
      refine J_iconst (v := 0) C (by decide) dX8_hasCursorAt_28 rfl ?_
      rw [← hQQ]
      exact J_zret C hret rfl (Nat.le_of_ble_eq_true rfl) (Nat.le_of_ble_eq_true rfl) ⟨_, h.osome, rfl, rfl, rfl⟩ dX8_hasCursorAt_29
    · have h := h.neg c_1
      refine J_aload_n (i := 0) (p := 0) C dX8_hasCursorAt_10 rfl rfl rfl ?_
      refine Jc_getS (o2 := 4) (r2 := a0 + 4) C fp_RX8_30 rfl h_a0 rfl dX8_hasCursorAt_11 rfl ?_
      refine J_iload_n (i := 2) (p := 2) C dX8_hasCursorAt_14 rfl rfl rfl ?_
      obtain ⟨g_2, h⟩ := Ok.ofgd h
      refine Jc_iald C (ks_8_5 h_a0) (ls_8_5 h_a0) g_2 dX8_hasCursorAt_15 rfl ?_
      refine J_iload_n (i := 1) (p := 1) C dX8_hasCursorAt_16 rfl rfl rfl ?_
      refine J_icmp_ne (t := 22) C dX8_hasCursorAt_17 (by decide) rfl (fun c_3 => ?_) (fun c_3 => ?_)
      · have h := h.neg c_3
        obtain ⟨x2_1, e_x2_1, h⟩ := Ok.nm h
        refine J_iincE (i := 2) (p := 2) (lv' := [(2, .int x2_1), (0, .ref (K.2.2 + a0)), (1, .int l1)]) C e_x2_1 dX8_hasCursorAt_22 rfl (by decide) (Nat.le_of_ble_eq_true rfl) rfl rfl ?_
        refine J_goto (t := 2) C dX8_hasCursorAt_25 (by decide) ?_
        refine J.sub [1, 2, 0] rfl ?_
        exact hB_2 x2_1 h.osome
      · have h := h.pos (Decidable.not_not.mp c_3)
        have h := hE_2 (Sum.inr ()) h.osome
        try dsimp only at h
        refine J_iconst (v := 1) C (by decide) dX8_hasCursorAt_20 rfl ?_
        rw [← hQQ]
        exact J_zret C hret rfl (Nat.le_of_ble_eq_true rfl) (Nat.le_of_ble_eq_true rfl) ⟨_, h.osome, rfl, rfl, rfl⟩ dX8_hasCursorAt_21
  unfold f8_hasCursorAt at h
  refine J_iconst (v := 0) C (by decide) dX8_hasCursorAt_0 rfl ?_
  obtain ⟨x2_2, e_x2_2, h⟩ := Ok.nm h
  refine J_istoreE_n (i := 2) (lv' := [(2, .int x2_2), (0, .ref (K.2.2 + a0)), (1, .int l1)]) C e_x2_2 dX8_hasCursorAt_1 rfl (Nat.le_of_ble_eq_true rfl) rfl rfl ?_
  refine J.sub [1, 2, 0] rfl ?_
  exact hj_2 x2_2 h
def f11_addCursor (σ : Sto) (l1 : Int32) : Option ((Int32 × Sto) ⊕ (Nat × Sto)) :=
  bndX (f11_requirePlace σ l1) fun p_1 =>
  bnd (f8_hasCursorAt p_1 1 l1) fun p_2 =>
  if p_2 = 0 then
    if (fI p_1 1 6) < (8 : Int32) then
      gd (inb (fI p_1 1 6) 8) <|
      stp (uA p_1 5 (Int32.toNatClampNeg (fI p_1 1 6)) l1) fun σx_1 =>
      stp (uI σx_1 1 6 ((fI σx_1 1 6) + (1 : Int32))) fun σx_2 =>
      bnd (f8_settleCursors σx_2 1) fun p_6 =>
      some (.inl (fI p_6 1 6, p_6))
    else
      some (.inr (3, p_1))
  else
    some (.inl (fI p_1 1 6, p_1))
set_option maxHeartbeats 4000000 in
set_option maxRecDepth 100000 in
theorem k11_addCursor {l : Launch} {K : JK} (hl : l.stackTraces = false) {σ : Sto} {l1 : Int32}  {Qf : (Int32 × Sto) ⊕ (Nat × Sto) → Prop} (h : Ok (f11_addCursor σ l1) Qf) : Con l K yX11_addCursor (.code yX11_addCursor cX11_addCursor 2 (some .int) :: TB) 7 2 12 False [.ref (K.2.2 + 0), .int l1] 2017 (jw K σ) (PR (fun p => Qf (.inl p)) (fun p => some (.int p.1)) (fun p => jw K p.2)) (PX Qf (fun s => jw K s)) := by
  refine Con.enter (own := RX11) hl (by decide) rfl (Nat.le_of_ble_eq_true rfl) ?_
  intro X hX hR C hret hnt
  generalize hQQ : jQ X K 2 12 (PR (fun p => Qf (.inl p)) (fun p => some (.int p.1)) (fun p => jw K p.2)) (PX Qf (fun s => jw K s)) False = QQ
  change J X K 2 False QQ 0 0 2017 (jw K σ) 0 [(0, .ref (K.2.2 + 0)), (1, .int l1)] []
  unfold f11_addCursor at h
  refine J_aload_n (i := 0) (p := 0) C dX11_addCursor_0 rfl rfl rfl ?_
  refine J_iload_n (i := 1) (p := 1) C dX11_addCursor_1 rfl rfl rfl ?_
  refine Jc_cV (rest := []) (st9 := fun p_1 => []) C hR hX cv_RX11_264 rfl (Nat.le_of_ble_eq_true rfl) (k11_requirePlace hl  (Ok.ofbndX h)) rfl rfl (Nat.le_of_ble_eq_true rfl) (Nat.le_of_ble_eq_true rfl) (Nat.le_of_ble_eq_true rfl) ⟨(Nat.le_of_ble_eq_true rfl), (Nat.le_of_ble_eq_true rfl)⟩ dX11_addCursor_2 rfl (fun E n9 w9 hx => by rw [← hQQ]; exact JT_x C hnt (Nat.le_of_ble_eq_true rfl) (Nat.le_of_ble_eq_true rfl) (fun c h => h) E n9 w9 hx) (fun _ => rfl) (fun p_1 h => ?_)
  have h : Ok _ _ := h
  change J X K 2 False QQ 1 6 2017 (jw K p_1) 5 [(0, .ref (K.2.2 + 0)), (1, .int l1)] []
  refine J_aload_n (i := 0) (p := 0) C dX11_addCursor_5 rfl rfl rfl ?_
  refine Jc_getS (o2 := 1) (r2 := 1) C fp_RX11_10 rfl rfl rfl dX11_addCursor_6 rfl ?_
  refine J_iload_n (i := 1) (p := 1) C dX11_addCursor_9 rfl rfl rfl ?_
  refine Jc_cV (rest := []) (st9 := fun p_2 => [.int p_2]) C hR hX cv_RX11_270 rfl (Nat.le_of_ble_eq_true rfl) (k8_hasCursorAt hl rfl (Ok.ofbnd h)) rfl rfl (Nat.le_of_ble_eq_true rfl) (Nat.le_of_ble_eq_true rfl) (Nat.le_of_ble_eq_true rfl) ⟨(Nat.le_of_ble_eq_true rfl), (Nat.le_of_ble_eq_true rfl)⟩ dX11_addCursor_10 rfl (fun E n9 w9 hx => JT_n hx) (fun _ => rfl) (fun p_2 h => ?_)
  have h : Ok _ _ := h
  change J X K 2 False QQ 1 6 2017 (jw K p_1) 13 [(0, .ref (K.2.2 + 0)), (1, .int l1)] [.int p_2]
  refine J_if_eq (t := 24) C dX11_addCursor_13 (by decide) rfl (fun c_3 => ?_) (fun c_3 => ?_)
  · have h := h.pos c_3
    refine J_aload_n (i := 0) (p := 0) C dX11_addCursor_24 rfl rfl rfl ?_
    refine Jc_getS (o2 := 1) (r2 := 1) C fp_RX11_10 rfl rfl rfl dX11_addCursor_25 rfl ?_
    refine Jc_getI C fp_RX11_267 rfl rfl dX11_addCursor_28 rfl ?_
    refine J_bipush (v := 8) C (by decide) dX11_addCursor_31 rfl ?_
    refine J_icmp_lt (t := 47) C dX11_addCursor_33 (by decide) rfl (fun c_4 => ?_) (fun c_4 => ?_)
    · have h := h.pos c_4
      refine J_aload_n (i := 0) (p := 0) C dX11_addCursor_47 rfl rfl rfl ?_
      refine Jc_getS (o2 := 1) (r2 := 1) C fp_RX11_10 rfl rfl rfl dX11_addCursor_48 rfl ?_
      refine Jc_getS (o2 := 4) (r2 := 5) C fp_RX11_205 rfl rfl rfl dX11_addCursor_51 rfl ?_
      refine J_aload_n (i := 0) (p := 0) C dX11_addCursor_54 rfl rfl rfl ?_
      refine Jc_getS (o2 := 1) (r2 := 1) C fp_RX11_10 rfl rfl rfl dX11_addCursor_55 rfl ?_
      refine Jc_getI C fp_RX11_267 rfl rfl dX11_addCursor_58 rfl ?_
      refine J_iload_n (i := 1) (p := 1) C dX11_addCursor_61 rfl rfl rfl ?_
      obtain ⟨g_5, h⟩ := Ok.ofgd h
      obtain ⟨σx_1, e_σx_1, h⟩ := Ok.nm h
      refine Jc_iast C id rfl rfl g_5 e_σx_1 dX11_addCursor_62 rfl ?_
      refine J_aload_n (i := 0) (p := 0) C dX11_addCursor_63 rfl rfl rfl ?_
      refine Jc_getS (o2 := 1) (r2 := 1) C fp_RX11_10 rfl rfl rfl dX11_addCursor_64 rfl ?_
      refine J_dup C rfl dX11_addCursor_67 rfl ?_
      refine Jc_getI C fp_RX11_267 rfl rfl dX11_addCursor_68 rfl ?_
      refine J_iconst (v := 1) C (by decide) dX11_addCursor_71 rfl ?_
      refine J_iadd C dX11_addCursor_72 rfl ?_
      obtain ⟨σx_2, e_σx_2, h⟩ := Ok.nm h
      refine Jc_putI C id fp_RX11_267 fw_8_6 rfl rfl rfl e_σx_2 dX11_addCursor_73 rfl ?_
      refine J_aload_n (i := 0) (p := 0) C dX11_addCursor_76 rfl rfl rfl ?_
      refine Jc_getS (o2 := 1) (r2 := 1) C fp_RX11_10 rfl rfl rfl dX11_addCursor_77 rfl ?_
      refine Jc_cV (rest := []) (st9 := fun p_6 => []) C hR hX cv_RX11_275 rfl (Nat.le_of_ble_eq_true rfl) (k8_settleCursors hl rfl (Ok.ofbnd h)) rfl rfl (Nat.le_of_ble_eq_true rfl) (Nat.le_of_ble_eq_true rfl) (Nat.le_of_ble_eq_true rfl) ⟨(Nat.le_of_ble_eq_true rfl), (Nat.le_of_ble_eq_true rfl)⟩ dX11_addCursor_80 rfl (fun E n9 w9 hx => JT_n hx) (fun _ => rfl) (fun p_6 h => ?_)
      have h : Ok _ _ := h
      change J X K 2 False QQ 1 6 2017 (jw K p_6) 83 [(0, .ref (K.2.2 + 0)), (1, .int l1)] []
      refine J_aload_n (i := 0) (p := 0) C dX11_addCursor_83 rfl rfl rfl ?_
      refine Jc_getS (o2 := 1) (r2 := 1) C fp_RX11_10 rfl rfl rfl dX11_addCursor_84 rfl ?_
      refine Jc_getI C fp_RX11_267 rfl rfl dX11_addCursor_87 rfl ?_
      rw [← hQQ]
      exact J_iret C hret (Nat.le_of_ble_eq_true rfl) (Nat.le_of_ble_eq_true rfl) ⟨_, h.osome, rfl, rfl, rfl⟩ dX11_addCursor_90
    · have h := h.neg c_4
      rw [← hQQ]
      exact J_throwW (is := 273) (text := "there are 8 cursors") C hnt th_92 (by decide +kernel) dX11_addCursor_36 dX11_addCursor_39 dX11_addCursor_40 dX11_addCursor_43 dX11_addCursor_46 (by rw [hR]; exact (Nat.le_of_ble_eq_true rfl)) (by rw [hR]; exact (Nat.le_of_ble_eq_true rfl)) (by rw [hR]; exact (Nat.le_of_ble_eq_true rfl)) (by rw [hR]; exact (Nat.le_of_ble_eq_true rfl)) (Nat.le_of_ble_eq_true rfl) (Nat.le_of_ble_eq_true rfl) ⟨3, p_1, h.osome, rfl, rfl, rfl⟩
  · have h := h.neg c_3
    refine J_aload_n (i := 0) (p := 0) C dX11_addCursor_16 rfl rfl rfl ?_
    refine Jc_getS (o2 := 1) (r2 := 1) C fp_RX11_10 rfl rfl rfl dX11_addCursor_17 rfl ?_
    refine Jc_getI C fp_RX11_267 rfl rfl dX11_addCursor_20 rfl ?_
    rw [← hQQ]
    exact J_iret C hret (Nat.le_of_ble_eq_true rfl) (Nat.le_of_ble_eq_true rfl) ⟨_, h.osome, rfl, rfl, rfl⟩ dX11_addCursor_23
def f11_columnBehind_j11 (l0 : Int32) (l1 : Int32) (l2 : Int32) : Option (Int32) :=
  some (l0 + (1 : Int32))
def f11_columnBehind (l0 : Int32) (l1 : Int32) (l2 : Int32) : Option (Int32) :=
  if l1 = (9 : Int32) then
    if (1 : Int32) ≤ l2 then
      gd (nz l2) <|
      some ((l0 + l2) - (l0 - l0 / l2 * l2))
    else
      f11_columnBehind_j11 l0 l1 l2
  else
    f11_columnBehind_j11 l0 l1 l2
set_option maxHeartbeats 4000000 in
set_option maxRecDepth 100000 in
theorem k11_columnBehind {l : Launch} {K : JK} (hl : l.stackTraces = false) {σ : Sto} {l0 : Int32} {l1 : Int32} {l2 : Int32}  {Qf : Int32 → Prop} (h : Ok (f11_columnBehind l0 l1 l2) Qf) : Con l K yX11_columnBehind (.code yX11_columnBehind cX11_columnBehind 3 (some .int) :: TB) 0 0 0 False [.int l0, .int l1, .int l2] 2017 (jw K σ) (PR Qf (fun p => some (.int p)) (fun p => jw K σ)) PN := by
  refine Con.enter (own := RX11) hl (by decide) rfl (Nat.le_of_ble_eq_true rfl) ?_
  intro X hX hR C hret hnt
  generalize hQQ : jQ X K 0 0 (PR Qf (fun p => some (.int p)) (fun p => jw K σ)) PN False = QQ
  change J X K 3 False QQ 0 0 2017 (jw K σ) 0 [(0, .int l0), (1, .int l1), (2, .int l2)] []
  have hj_11 : (Ok (f11_columnBehind_j11 l0 l1 l2) Qf → J X K 3 False QQ 0 0 2017 (jw K σ) 11 [(0, .int l0)] []) := by
    intro h
    unfold f11_columnBehind_j11 at h
    refine J_iload_n (i := 0) (p := 0) C dX11_columnBehind_11 rfl rfl rfl ?_
    refine J_iconst (v := 1) C (by decide) dX11_columnBehind_12 rfl ?_
    refine J_iadd C dX11_columnBehind_13 rfl ?_
    rw [← hQQ]
    exact J_iret C hret (Nat.le_of_ble_eq_true rfl) (Nat.le_of_ble_eq_true rfl) ⟨_, h.osome, rfl, rfl, rfl⟩ dX11_columnBehind_14
  unfold f11_columnBehind at h
  refine J_iload_n (i := 1) (p := 1) C dX11_columnBehind_0 rfl rfl rfl ?_
  refine J_bipush (v := 9) C (by decide) dX11_columnBehind_1 rfl ?_
  refine J_icmp_ne (t := 11) C dX11_columnBehind_3 (by decide) rfl (fun c_1 => ?_) (fun c_1 => ?_)
  · have h := h.neg c_1
    refine J.sub [0] rfl ?_
    exact hj_11  h
  · have h := h.pos (Decidable.not_not.mp c_1)
    refine J_iload_n (i := 2) (p := 2) C dX11_columnBehind_6 rfl rfl rfl ?_
    refine J_iconst (v := 1) C (by decide) dX11_columnBehind_7 rfl ?_
    refine J_icmp_ge (t := 15) C dX11_columnBehind_8 (by decide) rfl (fun c_2 => ?_) (fun c_2 => ?_)
    · have h := h.pos c_2
      refine J_iload_n (i := 0) (p := 0) C dX11_columnBehind_15 rfl rfl rfl ?_
      refine J_iload_n (i := 2) (p := 2) C dX11_columnBehind_16 rfl rfl rfl ?_
      refine J_iadd C dX11_columnBehind_17 rfl ?_
      refine J_iload_n (i := 0) (p := 0) C dX11_columnBehind_18 rfl rfl rfl ?_
      refine J_iload_n (i := 2) (p := 2) C dX11_columnBehind_19 rfl rfl rfl ?_
      obtain ⟨g_3, h⟩ := Ok.ofgd h
      refine J_irem C (nz_spec g_3) dX11_columnBehind_20 rfl ?_
      refine J_isub C dX11_columnBehind_21 rfl ?_
      rw [← hQQ]
      exact J_iret C hret (Nat.le_of_ble_eq_true rfl) (Nat.le_of_ble_eq_true rfl) ⟨_, h.osome, rfl, rfl, rfl⟩ dX11_columnBehind_22
    · have h := h.neg c_2
      refine J.sub [0] rfl ?_
      exact hj_11  h
def f8_columnWith_b14 (a0 : Nat) (l1 : Int32) (l2 : Int32) (σ : Sto) (l3_14 : Int32) (l4_14 : Int32) : Option ((Int32 × Int32) ⊕ Int32) :=
  if l1 ≤ l4_14 then
    some (.inr l3_14)
  else
    gd (okr (fR σ a0 0) 13) <|
    gd (inb l4_14 (ln ((fR σ a0 0) - 1))) <|
    bnd (f11_columnBehind l3_14 (aI σ ((fR σ a0 0) - 1) (Int32.toNatClampNeg l4_14)) l2) fun p_4 =>
    stp p_4 fun x3_1 =>
    stp (l4_14 + (1 : Int32)) fun x4_2 =>
    some (.inl (x3_1, x4_2))
def f8_columnWith_j14 (a0 : Nat) (l1 : Int32) (l2 : Int32) (σ : Sto) (l3_14 : Int32) (l4_14 : Int32) : Option (Int32) :=
  bnd (loopF (fun s_14 => f8_columnWith_b14 a0 l1 l2 σ s_14.1 s_14.2) FU (l3_14, l4_14)) fun r_14 =>
    some r_14
def f8_columnWith (σ : Sto) (a0 : Nat) (l1 : Int32) (l2 : Int32) : Option (Int32) :=
  stp (0 : Int32) fun x3_3 =>
  bnd (f8_lineWith σ a0 l1) fun p_5 =>
  gd (okr (fR σ a0 2) 12) <|
  gd (inb p_5 (ln ((fR σ a0 2) - 1))) <|
  stp (aI σ ((fR σ a0 2) - 1) (Int32.toNatClampNeg p_5)) fun x4_4 =>
  f8_columnWith_j14 a0 l1 l2 σ x3_3 x4_4
set_option maxHeartbeats 4000000 in
set_option maxRecDepth 100000 in
theorem k8_columnWith {l : Launch} {K : JK} (hl : l.stackTraces = false) {σ : Sto} {a0 : Nat} {l1 : Int32} {l2 : Int32} (h_a0 : kc a0 = 8) {Qf : Int32 → Prop} (h : Ok (f8_columnWith σ a0 l1 l2) Qf) : Con l K yX8_columnWith (.code yX8_columnWith cX8_columnWith 5 (some .int) :: TB) 1 0 0 False [.ref (K.2.2 + a0), .int l1, .int l2] 2017 (jw K σ) (PR Qf (fun p => some (.int p)) (fun p => jw K σ)) PN := by
  refine Con.enter (own := RX8) hl (by decide) rfl (Nat.le_of_ble_eq_true rfl) ?_
  intro X hX hR C hret hnt
  generalize hQQ : jQ X K 0 0 (PR Qf (fun p => some (.int p)) (fun p => jw K σ)) PN False = QQ
  change J X K 5 False QQ 0 0 2017 (jw K σ) 0 [(0, .ref (K.2.2 + a0)), (1, .int l1), (2, .int l2)] []
  have hj_14 : (∀ (l3_14 : Int32) (l4_14 : Int32), Ok (f8_columnWith_j14 a0 l1 l2 σ l3_14 l4_14) Qf → J X K 5 False QQ 0 0 2017 (jw K σ) 14 [(0, .ref (K.2.2 + a0)), (1, .int l1), (2, .int l2), (3, .int l3_14), (4, .int l4_14)] []) := by
    intro l3_14 l4_14 h
    unfold f8_columnWith_j14 at h
    refine loop_gen (S := Int32 × Int32) (P := fun s_14 => J X K 5 False QQ 0 0 2017 (jw K σ) 14 [(0, .ref (K.2.2 + a0)), (1, .int l1), (2, .int l2), (3, .int s_14.1), (4, .int s_14.2)] []) ?_ FU (l3_14, l4_14) (Ok.ofbnd h)
    intro B_14 hB_14 hE_14 s_14 h
    obtain ⟨l3_14, l4_14⟩ := s_14
    have h : Ok (f8_columnWith_b14 a0 l1 l2 σ l3_14 l4_14) B_14 := h
    change J X K 5 False QQ 0 0 2017 (jw K σ) 14 [(0, .ref (K.2.2 + a0)), (1, .int l1), (2, .int l2), (3, .int l3_14), (4, .int l4_14)] []
    unfold f8_columnWith_b14 at h
    refine J_iload (i := 4) (p := 4) C dX8_columnWith_14 rfl rfl ?_
    refine J_iload_n (i := 1) (p := 1) C dX8_columnWith_16 rfl rfl rfl ?_
    refine J_icmp_ge (t := 39) C dX8_columnWith_17 (by decide) rfl (fun c_1 => ?_) (fun c_1 => ?_)
    · have h := h.pos c_1
      have h := hE_14 l3_14 h.osome
      try dsimp only at h
      refine J_iload_n (i := 3) (p := 3) C dX8_columnWith_39 rfl rfl rfl ?_
      rw [← hQQ]
      exact J_iret C hret (Nat.le_of_ble_eq_true rfl) (Nat.le_of_ble_eq_true rfl) ⟨_, h.osome, rfl, rfl, rfl⟩ dX8_columnWith_40
    · have h := h.neg c_1
      refine J_iload_n (i := 3) (p := 3) C dX8_columnWith_20 rfl rfl rfl ?_
      refine J_aload_n (i := 0) (p := 0) C dX8_columnWith_21 rfl rfl rfl ?_
      refine Jc_getD C fp_RX8_9 h_a0 rfl dX8_columnWith_22 rfl ?_
      refine J_iload (i := 4) (p := 4) C dX8_columnWith_25 rfl rfl ?_
      obtain ⟨g_2, h⟩ := Ok.ofgd h
      rw [jv_pos (r := fR σ a0 0) (okr_spec g_2).1]
      obtain ⟨g_3, h⟩ := Ok.ofgd h
      refine Jc_bald C (okr_spec g_2).2 rfl g_3 dX8_columnWith_27 rfl ?_
      refine J_iload_n (i := 2) (p := 2) C dX8_columnWith_28 rfl rfl rfl ?_
      refine J_cSN (rest := []) (st9 := fun p_4 => [.int p_4]) C hR hX cn_RX8_52 (k11_columnBehind hl  (Ok.ofbnd h)) rfl rfl (Nat.le_of_ble_eq_true rfl) (Nat.le_of_ble_eq_true rfl) (Nat.le_of_ble_eq_true rfl) ⟨(Nat.le_of_ble_eq_true rfl), (Nat.le_of_ble_eq_true rfl)⟩ dX8_columnWith_29 rfl (fun E n9 w9 hx => JT_n hx) (fun _ => rfl) (fun p_4 h => ?_)
      have h : Ok _ _ := h
      change J X K 5 False QQ 0 0 2017 (jw K σ) 32 [(0, .ref (K.2.2 + a0)), (1, .int l1), (2, .int l2), (3, .int l3_14), (4, .int l4_14)] [.int p_4]
      obtain ⟨x3_1, e_x3_1, h⟩ := Ok.nm h
      refine J_istoreE_n (i := 3) (lv' := [(3, .int x3_1), (0, .ref (K.2.2 + a0)), (1, .int l1), (2, .int l2), (4, .int l4_14)]) C e_x3_1 dX8_columnWith_32 rfl (Nat.le_of_ble_eq_true rfl) rfl rfl ?_
      obtain ⟨x4_2, e_x4_2, h⟩ := Ok.nm h
      refine J_iincE (i := 4) (p := 4) (lv' := [(4, .int x4_2), (3, .int x3_1), (0, .ref (K.2.2 + a0)), (1, .int l1), (2, .int l2)]) C e_x4_2 dX8_columnWith_33 rfl (by decide) (Nat.le_of_ble_eq_true rfl) rfl rfl ?_
      refine J_goto (t := 14) C dX8_columnWith_36 (by decide) ?_
      refine J.sub [2, 3, 4, 1, 0] rfl ?_
      exact hB_14 (x3_1, x4_2) h.osome
  unfold f8_columnWith at h
  refine J_iconst (v := 0) C (by decide) dX8_columnWith_0 rfl ?_
  obtain ⟨x3_3, e_x3_3, h⟩ := Ok.nm h
  refine J_istoreE_n (i := 3) (lv' := [(3, .int x3_3), (0, .ref (K.2.2 + a0)), (1, .int l1), (2, .int l2)]) C e_x3_3 dX8_columnWith_1 rfl (Nat.le_of_ble_eq_true rfl) rfl rfl ?_
  refine J_aload_n (i := 0) (p := 1) C dX8_columnWith_2 rfl rfl rfl ?_
  refine Jc_getD C fp_RX8_19 h_a0 rfl dX8_columnWith_3 rfl ?_
  refine J_aload_n (i := 0) (p := 1) C dX8_columnWith_6 rfl rfl rfl ?_
  refine J_iload_n (i := 1) (p := 2) C dX8_columnWith_7 rfl rfl rfl ?_
  refine Jc_cV (rest := [jv K.2.2 (fR σ a0 2)]) (st9 := fun p_5 => [.int p_5, jv K.2.2 (fR σ a0 2)]) C hR hX cv_RX8_48 h_a0 (Nat.le_of_ble_eq_true rfl) (k8_lineWith hl h_a0 (Ok.ofbnd h)) rfl rfl (Nat.le_of_ble_eq_true rfl) (Nat.le_of_ble_eq_true rfl) (by simp only [List.map, List.sum_cons, List.sum_nil, jv_cat, cat_i, cat_l, cat_d, cat_r]; decide) ⟨(Nat.le_of_ble_eq_true rfl), (Nat.le_of_ble_eq_true rfl)⟩ dX8_columnWith_8 rfl (fun E n9 w9 hx => JT_n hx) (fun _ => rfl) (fun p_5 h => ?_)
  have h : Ok _ _ := h
  change J X K 5 False QQ 0 0 2017 (jw K σ) 11 [(3, .int x3_3), (0, .ref (K.2.2 + a0)), (1, .int l1), (2, .int l2)] [.int p_5, jv K.2.2 (fR σ a0 2)]
  obtain ⟨g_6, h⟩ := Ok.ofgd h
  rw [jv_pos (r := fR σ a0 2) (okr_spec g_6).1]
  obtain ⟨g_7, h⟩ := Ok.ofgd h
  refine Jc_iald C (okr_spec g_6).2 rfl g_7 dX8_columnWith_11 rfl ?_
  obtain ⟨x4_4, e_x4_4, h⟩ := Ok.nm h
  refine J_istoreE (i := 4) (lv' := [(4, .int x4_4), (3, .int x3_3), (0, .ref (K.2.2 + a0)), (1, .int l1), (2, .int l2)]) C e_x4_4 dX8_columnWith_12 (Nat.le_of_ble_eq_true rfl) rfl rfl ?_
  refine J.sub [2, 3, 4, 1, 0] rfl ?_
  exact hj_14 x3_3 x4_4 h
def f8_placeWith_j52 (a0 : Nat) (l1 : Int32) (l2 : Int32) (l3 : Int32) (σ : Sto) (l6_52 : Int32) : Option (Int32) :=
  some l6_52
def f8_placeWith_b18 (a0 : Nat) (l1 : Int32) (l2 : Int32) (l3 : Int32) (σ : Sto) (l4_18 : Int32) (l5_18 : Int32) (l6_18 : Int32) : Option ((Int32 × Int32) ⊕ Int32) :=
  if l4_18 ≤ l6_18 then
    some (.inr l6_18)
  else
    if l2 ≤ l5_18 then
      some (.inr l6_18)
    else
      gd (okr (fR σ a0 0) 13) <|
      gd (inb l6_18 (ln ((fR σ a0 0) - 1))) <|
      bnd (f11_columnBehind l5_18 (aI σ ((fR σ a0 0) - 1) (Int32.toNatClampNeg l6_18)) l3) fun p_5 =>
      stp p_5 fun x5_1 =>
      stp (l6_18 + (1 : Int32)) fun x6_2 =>
      some (.inl (x5_1, x6_2))
def f8_placeWith_j18 (a0 : Nat) (l1 : Int32) (l2 : Int32) (l3 : Int32) (σ : Sto) (l4_18 : Int32) (l5_18 : Int32) (l6_18 : Int32) : Option (Int32) :=
  bnd (loopF (fun s_18 => f8_placeWith_b18 a0 l1 l2 l3 σ l4_18 s_18.1 s_18.2) FU (l5_18, l6_18)) fun r_18 =>
    f8_placeWith_j52 a0 l1 l2 l3 σ r_18
def f8_placeWith (σ : Sto) (a0 : Nat) (l1 : Int32) (l2 : Int32) (l3 : Int32) : Option (Int32) :=
  bnd (f8_endOf σ a0 l1) fun p_6 =>
  stp p_6 fun x4_3 =>
  stp (0 : Int32) fun x5_4 =>
  gd (okr (fR σ a0 2) 12) <|
  gd (inb l1 (ln ((fR σ a0 2) - 1))) <|
  stp (aI σ ((fR σ a0 2) - 1) (Int32.toNatClampNeg l1)) fun x6_5 =>
  f8_placeWith_j18 a0 l1 l2 l3 σ x4_3 x5_4 x6_5
set_option maxHeartbeats 4000000 in
set_option maxRecDepth 100000 in
theorem k8_placeWith {l : Launch} {K : JK} (hl : l.stackTraces = false) {σ : Sto} {a0 : Nat} {l1 : Int32} {l2 : Int32} {l3 : Int32} (h_a0 : kc a0 = 8) {Qf : Int32 → Prop} (h : Ok (f8_placeWith σ a0 l1 l2 l3) Qf) : Con l K yX8_placeWith (.code yX8_placeWith cX8_placeWith 7 (some .int) :: TB) 1 0 0 False [.ref (K.2.2 + a0), .int l1, .int l2, .int l3] 2017 (jw K σ) (PR Qf (fun p => some (.int p)) (fun p => jw K σ)) PN := by
  refine Con.enter (own := RX8) hl (by decide) rfl (Nat.le_of_ble_eq_true rfl) ?_
  intro X hX hR C hret hnt
  generalize hQQ : jQ X K 0 0 (PR Qf (fun p => some (.int p)) (fun p => jw K σ)) PN False = QQ
  change J X K 7 False QQ 0 0 2017 (jw K σ) 0 [(0, .ref (K.2.2 + a0)), (1, .int l1), (2, .int l2), (3, .int l3)] []
  have hj_52 : (∀ (l6_52 : Int32), Ok (f8_placeWith_j52 a0 l1 l2 l3 σ l6_52) Qf → J X K 7 False QQ 0 0 2017 (jw K σ) 52 [(6, .int l6_52)] []) := by
    intro l6_52 h
    unfold f8_placeWith_j52 at h
    refine J_iload (i := 6) (p := 0) C dX8_placeWith_52 rfl rfl ?_
    rw [← hQQ]
    exact J_iret C hret (Nat.le_of_ble_eq_true rfl) (Nat.le_of_ble_eq_true rfl) ⟨_, h.osome, rfl, rfl, rfl⟩ dX8_placeWith_54
  have hj_18 : (∀ (l4_18 : Int32) (l5_18 : Int32) (l6_18 : Int32), Ok (f8_placeWith_j18 a0 l1 l2 l3 σ l4_18 l5_18 l6_18) Qf → J X K 7 False QQ 0 0 2017 (jw K σ) 18 [(0, .ref (K.2.2 + a0)), (2, .int l2), (3, .int l3), (4, .int l4_18), (5, .int l5_18), (6, .int l6_18)] []) := by
    intro l4_18 l5_18 l6_18 h
    unfold f8_placeWith_j18 at h
    refine loop_gen (S := Int32 × Int32) (P := fun s_18 => J X K 7 False QQ 0 0 2017 (jw K σ) 18 [(0, .ref (K.2.2 + a0)), (2, .int l2), (3, .int l3), (4, .int l4_18), (5, .int s_18.1), (6, .int s_18.2)] []) ?_ FU (l5_18, l6_18) (Ok.ofbnd h)
    intro B_18 hB_18 hE_18 s_18 h
    obtain ⟨l5_18, l6_18⟩ := s_18
    have h : Ok (f8_placeWith_b18 a0 l1 l2 l3 σ l4_18 l5_18 l6_18) B_18 := h
    change J X K 7 False QQ 0 0 2017 (jw K σ) 18 [(0, .ref (K.2.2 + a0)), (2, .int l2), (3, .int l3), (4, .int l4_18), (5, .int l5_18), (6, .int l6_18)] []
    unfold f8_placeWith_b18 at h
    refine J_iload (i := 6) (p := 5) C dX8_placeWith_18 rfl rfl ?_
    refine J_iload (i := 4) (p := 3) C dX8_placeWith_20 rfl rfl ?_
    refine J_icmp_ge (t := 52) C dX8_placeWith_22 (by decide) rfl (fun c_1 => ?_) (fun c_1 => ?_)
    · have h := h.pos c_1
      have h := hE_18 l6_18 h.osome
      try dsimp only at h
      refine J.sub [5] rfl ?_
      exact hj_52 l6_18 h
    · have h := h.neg c_1
      refine J_iload (i := 5) (p := 4) C dX8_placeWith_25 rfl rfl ?_
      refine J_iload_n (i := 2) (p := 1) C dX8_placeWith_27 rfl rfl rfl ?_
      refine J_icmp_ge (t := 52) C dX8_placeWith_28 (by decide) rfl (fun c_2 => ?_) (fun c_2 => ?_)
      · have h := h.pos c_2
        have h := hE_18 l6_18 h.osome
        try dsimp only at h
        refine J.sub [5] rfl ?_
        exact hj_52 l6_18 h
      · have h := h.neg c_2
        refine J_iload (i := 5) (p := 4) C dX8_placeWith_31 rfl rfl ?_
        refine J_aload_n (i := 0) (p := 0) C dX8_placeWith_33 rfl rfl rfl ?_
        refine Jc_getD C fp_RX8_9 h_a0 rfl dX8_placeWith_34 rfl ?_
        refine J_iload (i := 6) (p := 5) C dX8_placeWith_37 rfl rfl ?_
        obtain ⟨g_3, h⟩ := Ok.ofgd h
        rw [jv_pos (r := fR σ a0 0) (okr_spec g_3).1]
        obtain ⟨g_4, h⟩ := Ok.ofgd h
        refine Jc_bald C (okr_spec g_3).2 rfl g_4 dX8_placeWith_39 rfl ?_
        refine J_iload_n (i := 3) (p := 2) C dX8_placeWith_40 rfl rfl rfl ?_
        refine J_cSN (rest := []) (st9 := fun p_5 => [.int p_5]) C hR hX cn_RX8_52 (k11_columnBehind hl  (Ok.ofbnd h)) rfl rfl (Nat.le_of_ble_eq_true rfl) (Nat.le_of_ble_eq_true rfl) (Nat.le_of_ble_eq_true rfl) ⟨(Nat.le_of_ble_eq_true rfl), (Nat.le_of_ble_eq_true rfl)⟩ dX8_placeWith_41 rfl (fun E n9 w9 hx => JT_n hx) (fun _ => rfl) (fun p_5 h => ?_)
        have h : Ok _ _ := h
        change J X K 7 False QQ 0 0 2017 (jw K σ) 44 [(0, .ref (K.2.2 + a0)), (2, .int l2), (3, .int l3), (4, .int l4_18), (5, .int l5_18), (6, .int l6_18)] [.int p_5]
        obtain ⟨x5_1, e_x5_1, h⟩ := Ok.nm h
        refine J_istoreE (i := 5) (lv' := [(5, .int x5_1), (0, .ref (K.2.2 + a0)), (2, .int l2), (3, .int l3), (4, .int l4_18), (6, .int l6_18)]) C e_x5_1 dX8_placeWith_44 (Nat.le_of_ble_eq_true rfl) rfl rfl ?_
        obtain ⟨x6_2, e_x6_2, h⟩ := Ok.nm h
        refine J_iincE (i := 6) (p := 5) (lv' := [(6, .int x6_2), (5, .int x5_1), (0, .ref (K.2.2 + a0)), (2, .int l2), (3, .int l3), (4, .int l4_18)]) C e_x6_2 dX8_placeWith_46 rfl (by decide) (Nat.le_of_ble_eq_true rfl) rfl rfl ?_
        refine J_goto (t := 18) C dX8_placeWith_49 (by decide) ?_
        refine J.sub [2, 3, 4, 5, 1, 0] rfl ?_
        exact hB_18 (x5_1, x6_2) h.osome
  unfold f8_placeWith at h
  refine J_aload_n (i := 0) (p := 0) C dX8_placeWith_0 rfl rfl rfl ?_
  refine J_iload_n (i := 1) (p := 1) C dX8_placeWith_1 rfl rfl rfl ?_
  refine Jc_cV (rest := []) (st9 := fun p_6 => [.int p_6]) C hR hX cv_RX8_56 h_a0 (Nat.le_of_ble_eq_true rfl) (k8_endOf hl h_a0 (Ok.ofbnd h)) rfl rfl (Nat.le_of_ble_eq_true rfl) (Nat.le_of_ble_eq_true rfl) (Nat.le_of_ble_eq_true rfl) ⟨(Nat.le_of_ble_eq_true rfl), (Nat.le_of_ble_eq_true rfl)⟩ dX8_placeWith_2 rfl (fun E n9 w9 hx => JT_n hx) (fun _ => rfl) (fun p_6 h => ?_)
  have h : Ok _ _ := h
  change J X K 7 False QQ 0 0 2017 (jw K σ) 5 [(0, .ref (K.2.2 + a0)), (1, .int l1), (2, .int l2), (3, .int l3)] [.int p_6]
  obtain ⟨x4_3, e_x4_3, h⟩ := Ok.nm h
  refine J_istoreE (i := 4) (lv' := [(4, .int x4_3), (0, .ref (K.2.2 + a0)), (1, .int l1), (2, .int l2), (3, .int l3)]) C e_x4_3 dX8_placeWith_5 (Nat.le_of_ble_eq_true rfl) rfl rfl ?_
  refine J_iconst (v := 0) C (by decide) dX8_placeWith_7 rfl ?_
  obtain ⟨x5_4, e_x5_4, h⟩ := Ok.nm h
  refine J_istoreE (i := 5) (lv' := [(5, .int x5_4), (4, .int x4_3), (0, .ref (K.2.2 + a0)), (1, .int l1), (2, .int l2), (3, .int l3)]) C e_x5_4 dX8_placeWith_8 (Nat.le_of_ble_eq_true rfl) rfl rfl ?_
  refine J_aload_n (i := 0) (p := 2) C dX8_placeWith_10 rfl rfl rfl ?_
  refine Jc_getD C fp_RX8_19 h_a0 rfl dX8_placeWith_11 rfl ?_
  refine J_iload_n (i := 1) (p := 3) C dX8_placeWith_14 rfl rfl rfl ?_
  obtain ⟨g_7, h⟩ := Ok.ofgd h
  rw [jv_pos (r := fR σ a0 2) (okr_spec g_7).1]
  obtain ⟨g_8, h⟩ := Ok.ofgd h
  refine Jc_iald C (okr_spec g_7).2 rfl g_8 dX8_placeWith_15 rfl ?_
  obtain ⟨x6_5, e_x6_5, h⟩ := Ok.nm h
  refine J_istoreE (i := 6) (lv' := [(6, .int x6_5), (5, .int x5_4), (4, .int x4_3), (0, .ref (K.2.2 + a0)), (1, .int l1), (2, .int l2), (3, .int l3)]) C e_x6_5 dX8_placeWith_16 (Nat.le_of_ble_eq_true rfl) rfl rfl ?_
  refine J.sub [3, 5, 6, 2, 1, 0] rfl ?_
  exact hj_18 x4_3 x5_4 x6_5 h
def f10_overLines_j81 (a0 : Nat) (l1 : Int32) (l2 : Int32) (l3 : Int32) (σ : Sto) (l7_81 : Int32) : Option (Int32) :=
  bnd (f8_columnWith σ a0 l1 l3) fun p_1 =>
  bnd (f8_placeWith σ a0 l7_81 p_1 l3) fun p_2 =>
  some p_2
def f10_overLines_j71 (a0 : Nat) (l1 : Int32) (l2 : Int32) (l3 : Int32) (σ : Sto) (l4_35 : Int32) (l5_71 : Int32) (l7_71 : Int32) (l8_71 : Int32) : Option ((Int32 × Int32 × Int32) ⊕ Int32) :=
  stp (l8_71 + l4_35) fun x8_1 =>
  some (.inl (l5_71, l7_71, x8_1))
def f10_overLines_b35 (a0 : Nat) (l1 : Int32) (l2 : Int32) (l3 : Int32) (σ : Sto) (l4_35 : Int32) (l5_35 : Int32) (l7_35 : Int32) (l8_35 : Int32) : Option ((Int32 × Int32 × Int32) ⊕ Int32) :=
  if l5_35 ≤ 0 then
    some (.inr l7_35)
  else
    if l8_35 < 0 then
      some (.inr l7_35)
    else
      if (fI σ a0 4) ≤ l8_35 then
        some (.inr l7_35)
      else
        gd (okr (fR σ a0 3) 14) <|
        gd (inb l8_35 (ln ((fR σ a0 3) - 1))) <|
        if (aI σ ((fR σ a0 3) - 1) (Int32.toNatClampNeg l8_35)) = 0 then
          stp l8_35 fun x7_2 =>
          stp (l5_35 + (-1 : Int32)) fun x5_3 =>
          f10_overLines_j71 a0 l1 l2 l3 σ l4_35 x5_3 x7_2 l8_35
        else
          f10_overLines_j71 a0 l1 l2 l3 σ l4_35 l5_35 l7_35 l8_35
def f10_overLines_j35 (a0 : Nat) (l1 : Int32) (l2 : Int32) (l3 : Int32) (σ : Sto) (l4_35 : Int32) (l5_35 : Int32) (l7_35 : Int32) (l8_35 : Int32) : Option (Int32) :=
  bnd (loopF (fun s_35 => f10_overLines_b35 a0 l1 l2 l3 σ l4_35 s_35.1 s_35.2.1 s_35.2.2) FU (l5_35, l7_35, l8_35)) fun r_35 =>
    f10_overLines_j81 a0 l1 l2 l3 σ r_35
def f10_overLines_j9 (a0 : Nat) (l1 : Int32) (l2 : Int32) (l3 : Int32) (σ : Sto) (s0_9 : Int32) : Option (Int32) :=
  stp s0_9 fun x4_4 =>
  stp (iabs l2) fun x5_5 =>
  bnd (f8_lineWith σ a0 l1) fun p_9 =>
  stp p_9 fun x6_6 =>
  stp x6_6 fun x7_7 =>
  stp (x6_6 + x4_4) fun x8_8 =>
  f10_overLines_j35 a0 l1 l2 l3 σ x4_4 x5_5 x7_7 x8_8
def f10_overLines (σ : Sto) (a0 : Nat) (l1 : Int32) (l2 : Int32) (l3 : Int32) : Option (Int32) :=
  if 0 ≤ l2 then
    f10_overLines_j9 a0 l1 l2 l3 σ (1 : Int32)
  else
    f10_overLines_j9 a0 l1 l2 l3 σ (-1 : Int32)
set_option maxHeartbeats 4000000 in
set_option maxRecDepth 100000 in
theorem k10_overLines {l : Launch} {K : JK} (hl : l.stackTraces = false) {σ : Sto} {a0 : Nat} {l1 : Int32} {l2 : Int32} {l3 : Int32} (h_a0 : kc a0 = 8) {Qf : Int32 → Prop} (h : Ok (f10_overLines σ a0 l1 l2 l3) Qf) : Con l K yX10_overLines (.code yX10_overLines cX10_overLines 9 (some .int) :: TB) 2 0 0 False [.ref (K.2.2 + a0), .int l1, .int l2, .int l3] 2017 (jw K σ) (PR Qf (fun p => some (.int p)) (fun p => jw K σ)) PN := by
  refine Con.enter (own := RX10) hl (by decide) rfl (Nat.le_of_ble_eq_true rfl) ?_
  intro X hX hR C hret hnt
  generalize hQQ : jQ X K 0 0 (PR Qf (fun p => some (.int p)) (fun p => jw K σ)) PN False = QQ
  change J X K 9 False QQ 0 0 2017 (jw K σ) 0 [(0, .ref (K.2.2 + a0)), (1, .int l1), (2, .int l2), (3, .int l3)] []
  have hj_81 : (∀ (l7_81 : Int32), Ok (f10_overLines_j81 a0 l1 l2 l3 σ l7_81) Qf → J X K 9 False QQ 0 0 2017 (jw K σ) 81 [(0, .ref (K.2.2 + a0)), (1, .int l1), (3, .int l3), (7, .int l7_81)] []) := by
    intro l7_81 h
    unfold f10_overLines_j81 at h
    refine J_aload_n (i := 0) (p := 0) C dX10_overLines_81 rfl rfl rfl ?_
    refine J_iload (i := 7) (p := 3) C dX10_overLines_82 rfl rfl ?_
    refine J_aload_n (i := 0) (p := 0) C dX10_overLines_84 rfl rfl rfl ?_
    refine J_iload_n (i := 1) (p := 1) C dX10_overLines_85 rfl rfl rfl ?_
    refine J_iload_n (i := 3) (p := 2) C dX10_overLines_86 rfl rfl rfl ?_
    refine Jc_cV (rest := [.int l7_81, .ref (K.2.2 + a0)]) (st9 := fun p_1 => [.int p_1, .int l7_81, .ref (K.2.2 + a0)]) C hR hX cv_RX10_26 h_a0 (Nat.le_of_ble_eq_true rfl) (k8_columnWith hl h_a0 (Ok.ofbnd h)) rfl rfl (Nat.le_of_ble_eq_true rfl) (Nat.le_of_ble_eq_true rfl) (Nat.le_of_ble_eq_true rfl) ⟨(Nat.le_of_ble_eq_true rfl), (Nat.le_of_ble_eq_true rfl)⟩ dX10_overLines_87 rfl (fun E n9 w9 hx => JT_n hx) (fun _ => rfl) (fun p_1 h => ?_)
    have h : Ok _ _ := h
    change J X K 9 False QQ 0 0 2017 (jw K σ) 90 [(0, .ref (K.2.2 + a0)), (1, .int l1), (3, .int l3), (7, .int l7_81)] [.int p_1, .int l7_81, .ref (K.2.2 + a0)]
    refine J_iload_n (i := 3) (p := 2) C dX10_overLines_90 rfl rfl rfl ?_
    refine Jc_cV (rest := []) (st9 := fun p_2 => [.int p_2]) C hR hX cv_RX10_30 h_a0 (Nat.le_of_ble_eq_true rfl) (k8_placeWith hl h_a0 (Ok.ofbnd h)) rfl rfl (Nat.le_of_ble_eq_true rfl) (Nat.le_of_ble_eq_true rfl) (Nat.le_of_ble_eq_true rfl) ⟨(Nat.le_of_ble_eq_true rfl), (Nat.le_of_ble_eq_true rfl)⟩ dX10_overLines_91 rfl (fun E n9 w9 hx => JT_n hx) (fun _ => rfl) (fun p_2 h => ?_)
    have h : Ok _ _ := h
    change J X K 9 False QQ 0 0 2017 (jw K σ) 94 [(0, .ref (K.2.2 + a0)), (1, .int l1), (3, .int l3), (7, .int l7_81)] [.int p_2]
    rw [← hQQ]
    exact J_iret C hret (Nat.le_of_ble_eq_true rfl) (Nat.le_of_ble_eq_true rfl) ⟨_, h.osome, rfl, rfl, rfl⟩ dX10_overLines_94
  have hj_35 : (∀ (l4_35 : Int32) (l5_35 : Int32) (l7_35 : Int32) (l8_35 : Int32), Ok (f10_overLines_j35 a0 l1 l2 l3 σ l4_35 l5_35 l7_35 l8_35) Qf → J X K 9 False QQ 0 0 2017 (jw K σ) 35 [(0, .ref (K.2.2 + a0)), (1, .int l1), (3, .int l3), (4, .int l4_35), (5, .int l5_35), (7, .int l7_35), (8, .int l8_35)] []) := by
    intro l4_35 l5_35 l7_35 l8_35 h
    unfold f10_overLines_j35 at h
    refine loop_gen (S := Int32 × Int32 × Int32) (P := fun s_35 => J X K 9 False QQ 0 0 2017 (jw K σ) 35 [(0, .ref (K.2.2 + a0)), (1, .int l1), (3, .int l3), (4, .int l4_35), (5, .int s_35.1), (7, .int s_35.2.1), (8, .int s_35.2.2)] []) ?_ FU (l5_35, l7_35, l8_35) (Ok.ofbnd h)
    intro B_35 hB_35 hE_35 s_35 h
    obtain ⟨l5_35, l7_35, l8_35⟩ := s_35
    have h : Ok (f10_overLines_b35 a0 l1 l2 l3 σ l4_35 l5_35 l7_35 l8_35) B_35 := h
    change J X K 9 False QQ 0 0 2017 (jw K σ) 35 [(0, .ref (K.2.2 + a0)), (1, .int l1), (3, .int l3), (4, .int l4_35), (5, .int l5_35), (7, .int l7_35), (8, .int l8_35)] []
    have hj_71 : (∀ (l5_71 : Int32) (l7_71 : Int32) (l8_71 : Int32), Ok (f10_overLines_j71 a0 l1 l2 l3 σ l4_35 l5_71 l7_71 l8_71) B_35 → J X K 9 False QQ 0 0 2017 (jw K σ) 71 [(0, .ref (K.2.2 + a0)), (1, .int l1), (3, .int l3), (4, .int l4_35), (5, .int l5_71), (7, .int l7_71), (8, .int l8_71)] []) := by
      intro l5_71 l7_71 l8_71 h
      unfold f10_overLines_j71 at h
      refine J_iload (i := 8) (p := 6) C dX10_overLines_71 rfl rfl ?_
      refine J_iload (i := 4) (p := 3) C dX10_overLines_73 rfl rfl ?_
      refine J_iadd C dX10_overLines_75 rfl ?_
      obtain ⟨x8_1, e_x8_1, h⟩ := Ok.nm h
      refine J_istoreE (i := 8) (lv' := [(8, .int x8_1), (0, .ref (K.2.2 + a0)), (1, .int l1), (3, .int l3), (4, .int l4_35), (5, .int l5_71), (7, .int l7_71)]) C e_x8_1 dX10_overLines_76 (Nat.le_of_ble_eq_true rfl) rfl rfl ?_
      refine J_goto (t := 35) C dX10_overLines_78 (by decide) ?_
      refine J.sub [1, 2, 3, 4, 5, 6, 0] rfl ?_
      exact hB_35 (l5_71, l7_71, x8_1) h.osome
    unfold f10_overLines_b35 at h
    refine J_iload (i := 5) (p := 4) C dX10_overLines_35 rfl rfl ?_
    refine J_if_le (t := 81) C dX10_overLines_37 (by decide) rfl (fun c_3 => ?_) (fun c_3 => ?_)
    · have h := h.pos c_3
      have h := hE_35 l7_35 h.osome
      try dsimp only at h
      refine J.sub [0, 1, 2, 5] rfl ?_
      exact hj_81 l7_35 h
    · have h := h.neg c_3
      refine J_iload (i := 8) (p := 6) C dX10_overLines_40 rfl rfl ?_
      refine J_if_lt (t := 81) C dX10_overLines_42 (by decide) rfl (fun c_4 => ?_) (fun c_4 => ?_)
      · have h := h.pos c_4
        have h := hE_35 l7_35 h.osome
        try dsimp only at h
        refine J.sub [0, 1, 2, 5] rfl ?_
        exact hj_81 l7_35 h
      · have h := h.neg c_4
        refine J_iload (i := 8) (p := 6) C dX10_overLines_45 rfl rfl ?_
        refine J_aload_n (i := 0) (p := 0) C dX10_overLines_47 rfl rfl rfl ?_
        refine Jc_getI C fp_RX10_18 h_a0 rfl dX10_overLines_48 rfl ?_
        refine J_icmp_ge (t := 81) C dX10_overLines_51 (by decide) rfl (fun c_5 => ?_) (fun c_5 => ?_)
        · have h := h.pos c_5
          have h := hE_35 l7_35 h.osome
          try dsimp only at h
          refine J.sub [0, 1, 2, 5] rfl ?_
          exact hj_81 l7_35 h
        · have h := h.neg c_5
          refine J_aload_n (i := 0) (p := 0) C dX10_overLines_54 rfl rfl rfl ?_
          refine Jc_getD C fp_RX10_22 h_a0 rfl dX10_overLines_55 rfl ?_
          refine J_iload (i := 8) (p := 6) C dX10_overLines_58 rfl rfl ?_
          obtain ⟨g_6, h⟩ := Ok.ofgd h
          rw [jv_pos (r := fR σ a0 3) (okr_spec g_6).1]
          obtain ⟨g_7, h⟩ := Ok.ofgd h
          refine Jc_zald C (okr_spec g_6).2 rfl g_7 dX10_overLines_60 rfl ?_
          refine J_if_ne (t := 71) C dX10_overLines_61 (by decide) rfl (fun c_8 => ?_) (fun c_8 => ?_)
          · have h := h.neg c_8
            exact hj_71 l5_35 l7_35 l8_35 h
          · have h := h.pos (Decidable.not_not.mp c_8)
            refine J_iload (i := 8) (p := 6) C dX10_overLines_64 rfl rfl ?_
            obtain ⟨x7_2, e_x7_2, h⟩ := Ok.nm h
            refine J_istoreE (i := 7) (lv' := [(7, .int x7_2), (0, .ref (K.2.2 + a0)), (1, .int l1), (3, .int l3), (4, .int l4_35), (5, .int l5_35), (8, .int l8_35)]) C e_x7_2 dX10_overLines_66 (Nat.le_of_ble_eq_true rfl) rfl rfl ?_
            obtain ⟨x5_3, e_x5_3, h⟩ := Ok.nm h
            refine J_iincE (i := 5) (p := 5) (lv' := [(5, .int x5_3), (7, .int x7_2), (0, .ref (K.2.2 + a0)), (1, .int l1), (3, .int l3), (4, .int l4_35), (8, .int l8_35)]) C e_x5_3 dX10_overLines_68 rfl (by decide) (Nat.le_of_ble_eq_true rfl) rfl rfl ?_
            refine J.sub [2, 3, 4, 5, 0, 1, 6] rfl ?_
            exact hj_71 x5_3 x7_2 l8_35 h
  have hj_9 : (∀ (s0_9 : Int32), Ok (f10_overLines_j9 a0 l1 l2 l3 σ s0_9) Qf → J X K 9 False QQ 0 0 2017 (jw K σ) 9 [(0, .ref (K.2.2 + a0)), (1, .int l1), (2, .int l2), (3, .int l3)] [.int s0_9]) := by
    intro s0_9 h
    unfold f10_overLines_j9 at h
    obtain ⟨x4_4, e_x4_4, h⟩ := Ok.nm h
    refine J_istoreE (i := 4) (lv' := [(4, .int x4_4), (0, .ref (K.2.2 + a0)), (1, .int l1), (2, .int l2), (3, .int l3)]) C e_x4_4 dX10_overLines_9 (Nat.le_of_ble_eq_true rfl) rfl rfl ?_
    refine J_iload_n (i := 2) (p := 3) C dX10_overLines_11 rfl rfl rfl ?_
    refine J_mabs C hR mm_RX10_7 (Nat.le_of_ble_eq_true rfl) (Nat.le_of_ble_eq_true rfl) (Nat.le_of_ble_eq_true rfl) (Nat.le_of_ble_eq_true rfl) dX10_overLines_12 rfl ?_
    obtain ⟨x5_5, e_x5_5, h⟩ := Ok.nm h
    refine J_istoreE (i := 5) (lv' := [(5, .int x5_5), (4, .int x4_4), (0, .ref (K.2.2 + a0)), (1, .int l1), (2, .int l2), (3, .int l3)]) C e_x5_5 dX10_overLines_15 (Nat.le_of_ble_eq_true rfl) rfl rfl ?_
    refine J_aload_n (i := 0) (p := 2) C dX10_overLines_17 rfl rfl rfl ?_
    refine J_iload_n (i := 1) (p := 3) C dX10_overLines_18 rfl rfl rfl ?_
    refine Jc_cV (rest := []) (st9 := fun p_9 => [.int p_9]) C hR hX cv_RX10_13 h_a0 (Nat.le_of_ble_eq_true rfl) (k8_lineWith hl h_a0 (Ok.ofbnd h)) rfl rfl (Nat.le_of_ble_eq_true rfl) (Nat.le_of_ble_eq_true rfl) (Nat.le_of_ble_eq_true rfl) ⟨(Nat.le_of_ble_eq_true rfl), (Nat.le_of_ble_eq_true rfl)⟩ dX10_overLines_19 rfl (fun E n9 w9 hx => JT_n hx) (fun _ => rfl) (fun p_9 h => ?_)
    have h : Ok _ _ := h
    change J X K 9 False QQ 0 0 2017 (jw K σ) 22 [(5, .int x5_5), (4, .int x4_4), (0, .ref (K.2.2 + a0)), (1, .int l1), (2, .int l2), (3, .int l3)] [.int p_9]
    obtain ⟨x6_6, e_x6_6, h⟩ := Ok.nm h
    refine J_istoreE (i := 6) (lv' := [(6, .int x6_6), (5, .int x5_5), (4, .int x4_4), (0, .ref (K.2.2 + a0)), (1, .int l1), (2, .int l2), (3, .int l3)]) C e_x6_6 dX10_overLines_22 (Nat.le_of_ble_eq_true rfl) rfl rfl ?_
    refine J_iload (i := 6) (p := 0) C dX10_overLines_24 rfl rfl ?_
    obtain ⟨x7_7, e_x7_7, h⟩ := Ok.nm h
    refine J_istoreE (i := 7) (lv' := [(7, .int x7_7), (6, .int x6_6), (5, .int x5_5), (4, .int x4_4), (0, .ref (K.2.2 + a0)), (1, .int l1), (2, .int l2), (3, .int l3)]) C e_x7_7 dX10_overLines_26 (Nat.le_of_ble_eq_true rfl) rfl rfl ?_
    refine J_iload (i := 6) (p := 1) C dX10_overLines_28 rfl rfl ?_
    refine J_iload (i := 4) (p := 3) C dX10_overLines_30 rfl rfl ?_
    refine J_iadd C dX10_overLines_32 rfl ?_
    obtain ⟨x8_8, e_x8_8, h⟩ := Ok.nm h
    refine J_istoreE (i := 8) (lv' := [(8, .int x8_8), (7, .int x7_7), (6, .int x6_6), (5, .int x5_5), (4, .int x4_4), (0, .ref (K.2.2 + a0)), (1, .int l1), (2, .int l2), (3, .int l3)]) C e_x8_8 dX10_overLines_33 (Nat.le_of_ble_eq_true rfl) rfl rfl ?_
    refine J.sub [5, 6, 8, 4, 3, 1, 0] rfl ?_
    exact hj_35 x4_4 x5_5 x7_7 x8_8 h
  unfold f10_overLines at h
  refine J_iload_n (i := 2) (p := 2) C dX10_overLines_0 rfl rfl rfl ?_
  refine J_if_ge (t := 8) C dX10_overLines_1 (by decide) rfl (fun c_10 => ?_) (fun c_10 => ?_)
  · have h := h.pos c_10
    refine J_iconst (v := 1) C (by decide) dX10_overLines_8 rfl ?_
    exact hj_9 (1 : Int32) h
  · have h := h.neg c_10
    refine J_iconst (v := -1) C (by decide) dX10_overLines_4 rfl ?_
    refine J_goto (t := 9) C dX10_overLines_5 (by decide) ?_
    exact hj_9 (-1 : Int32) h
def f10_wordForward_j54 (a0 : Nat) (l1 : Int32) (σ : Sto) (l2_54 : Int32) : Option (Int32) :=
  some l2_54
def f10_wordForward_b28 (a0 : Nat) (l1 : Int32) (σ : Sto) (l2_28 : Int32) : Option (Int32 ⊕ Int32) :=
  if (fI σ a0 1) ≤ l2_28 then
    some (.inr l2_28)
  else
    gd (okr (fR σ a0 0) 13) <|
    gd (inb l2_28 (ln ((fR σ a0 0) - 1))) <|
    bnd (f11_isOfWord (aI σ ((fR σ a0 0) - 1) (Int32.toNatClampNeg l2_28))) fun p_4 =>
    if p_4 = 0 then
      some (.inr l2_28)
    else
      stp (l2_28 + (1 : Int32)) fun x2_1 =>
      some (.inl x2_1)
def f10_wordForward_j28 (a0 : Nat) (l1 : Int32) (σ : Sto) (l2_28 : Int32) : Option (Int32) :=
  bnd (loopF (fun s_28 => f10_wordForward_b28 a0 l1 σ s_28) FU l2_28) fun r_28 =>
    f10_wordForward_j54 a0 l1 σ r_28
def f10_wordForward_b2 (a0 : Nat) (l1 : Int32) (σ : Sto) (l2_2 : Int32) : Option (Int32 ⊕ Int32) :=
  if (fI σ a0 1) ≤ l2_2 then
    some (.inr l2_2)
  else
    gd (okr (fR σ a0 0) 13) <|
    gd (inb l2_2 (ln ((fR σ a0 0) - 1))) <|
    bnd (f11_isOfWord (aI σ ((fR σ a0 0) - 1) (Int32.toNatClampNeg l2_2))) fun p_9 =>
    if p_9 = 0 then
      stp (l2_2 + (1 : Int32)) fun x2_2 =>
      some (.inl x2_2)
    else
      some (.inr l2_2)
def f10_wordForward_j2 (a0 : Nat) (l1 : Int32) (σ : Sto) (l2_2 : Int32) : Option (Int32) :=
  bnd (loopF (fun s_2 => f10_wordForward_b2 a0 l1 σ s_2) FU l2_2) fun r_2 =>
    f10_wordForward_j28 a0 l1 σ r_2
def f10_wordForward (σ : Sto) (a0 : Nat) (l1 : Int32) : Option (Int32) :=
  stp l1 fun x2_3 =>
  f10_wordForward_j2 a0 l1 σ x2_3
set_option maxHeartbeats 4000000 in
set_option maxRecDepth 100000 in
theorem k10_wordForward {l : Launch} {K : JK} (hl : l.stackTraces = false) {σ : Sto} {a0 : Nat} {l1 : Int32} (h_a0 : kc a0 = 8) {Qf : Int32 → Prop} (h : Ok (f10_wordForward σ a0 l1) Qf) : Con l K yX10_wordForward (.code yX10_wordForward cX10_wordForward 3 (some .int) :: TB) 1 0 0 False [.ref (K.2.2 + a0), .int l1] 2017 (jw K σ) (PR Qf (fun p => some (.int p)) (fun p => jw K σ)) PN := by
  refine Con.enter (own := RX10) hl (by decide) rfl (Nat.le_of_ble_eq_true rfl) ?_
  intro X hX hR C hret hnt
  generalize hQQ : jQ X K 0 0 (PR Qf (fun p => some (.int p)) (fun p => jw K σ)) PN False = QQ
  change J X K 3 False QQ 0 0 2017 (jw K σ) 0 [(0, .ref (K.2.2 + a0)), (1, .int l1)] []
  have hj_54 : (∀ (l2_54 : Int32), Ok (f10_wordForward_j54 a0 l1 σ l2_54) Qf → J X K 3 False QQ 0 0 2017 (jw K σ) 54 [(2, .int l2_54)] []) := by
    intro l2_54 h
    unfold f10_wordForward_j54 at h
    refine J_iload_n (i := 2) (p := 0) C dX10_wordForward_54 rfl rfl rfl ?_
    rw [← hQQ]
    exact J_iret C hret (Nat.le_of_ble_eq_true rfl) (Nat.le_of_ble_eq_true rfl) ⟨_, h.osome, rfl, rfl, rfl⟩ dX10_wordForward_55
  have hj_28 : (∀ (l2_28 : Int32), Ok (f10_wordForward_j28 a0 l1 σ l2_28) Qf → J X K 3 False QQ 0 0 2017 (jw K σ) 28 [(0, .ref (K.2.2 + a0)), (2, .int l2_28)] []) := by
    intro l2_28 h
    unfold f10_wordForward_j28 at h
    refine loop_gen (S := Int32) (P := fun s_28 => J X K 3 False QQ 0 0 2017 (jw K σ) 28 [(0, .ref (K.2.2 + a0)), (2, .int s_28)] []) ?_ FU l2_28 (Ok.ofbnd h)
    intro B_28 hB_28 hE_28 s_28 h
    generalize s_28 = l2_28 at h ⊢
    have h : Ok (f10_wordForward_b28 a0 l1 σ l2_28) B_28 := h
    change J X K 3 False QQ 0 0 2017 (jw K σ) 28 [(0, .ref (K.2.2 + a0)), (2, .int l2_28)] []
    unfold f10_wordForward_b28 at h
    refine J_iload_n (i := 2) (p := 1) C dX10_wordForward_28 rfl rfl rfl ?_
    refine J_aload_n (i := 0) (p := 0) C dX10_wordForward_29 rfl rfl rfl ?_
    refine Jc_getI C fp_RX10_43 h_a0 rfl dX10_wordForward_30 rfl ?_
    refine J_icmp_ge (t := 54) C dX10_wordForward_33 (by decide) rfl (fun c_1 => ?_) (fun c_1 => ?_)
    · have h := h.pos c_1
      have h := hE_28 l2_28 h.osome
      try dsimp only at h
      refine J.sub [1] rfl ?_
      exact hj_54 l2_28 h
    · have h := h.neg c_1
      refine J_aload_n (i := 0) (p := 0) C dX10_wordForward_36 rfl rfl rfl ?_
      refine Jc_getD C fp_RX10_46 h_a0 rfl dX10_wordForward_37 rfl ?_
      refine J_iload_n (i := 2) (p := 1) C dX10_wordForward_40 rfl rfl rfl ?_
      obtain ⟨g_2, h⟩ := Ok.ofgd h
      rw [jv_pos (r := fR σ a0 0) (okr_spec g_2).1]
      obtain ⟨g_3, h⟩ := Ok.ofgd h
      refine Jc_bald C (okr_spec g_2).2 rfl g_3 dX10_wordForward_41 rfl ?_
      refine J_cSN (rest := []) (st9 := fun p_4 => [.int p_4]) C hR hX cn_RX10_50 (k11_isOfWord hl  (Ok.ofbnd h)) rfl rfl (Nat.le_of_ble_eq_true rfl) (Nat.le_of_ble_eq_true rfl) (Nat.le_of_ble_eq_true rfl) ⟨(Nat.le_of_ble_eq_true rfl), (Nat.le_of_ble_eq_true rfl)⟩ dX10_wordForward_42 rfl (fun E n9 w9 hx => JT_n hx) (fun _ => rfl) (fun p_4 h => ?_)
      have h : Ok _ _ := h
      change J X K 3 False QQ 0 0 2017 (jw K σ) 45 [(0, .ref (K.2.2 + a0)), (2, .int l2_28)] [.int p_4]
      refine J_if_eq (t := 54) C dX10_wordForward_45 (by decide) rfl (fun c_5 => ?_) (fun c_5 => ?_)
      · have h := h.pos c_5
        have h := hE_28 l2_28 h.osome
        try dsimp only at h
        refine J.sub [1] rfl ?_
        exact hj_54 l2_28 h
      · have h := h.neg c_5
        obtain ⟨x2_1, e_x2_1, h⟩ := Ok.nm h
        refine J_iincE (i := 2) (p := 1) (lv' := [(2, .int x2_1), (0, .ref (K.2.2 + a0))]) C e_x2_1 dX10_wordForward_48 rfl (by decide) (Nat.le_of_ble_eq_true rfl) rfl rfl ?_
        refine J_goto (t := 28) C dX10_wordForward_51 (by decide) ?_
        refine J.sub [1, 0] rfl ?_
        exact hB_28 x2_1 h.osome
  have hj_2 : (∀ (l2_2 : Int32), Ok (f10_wordForward_j2 a0 l1 σ l2_2) Qf → J X K 3 False QQ 0 0 2017 (jw K σ) 2 [(0, .ref (K.2.2 + a0)), (2, .int l2_2)] []) := by
    intro l2_2 h
    unfold f10_wordForward_j2 at h
    refine loop_gen (S := Int32) (P := fun s_2 => J X K 3 False QQ 0 0 2017 (jw K σ) 2 [(0, .ref (K.2.2 + a0)), (2, .int s_2)] []) ?_ FU l2_2 (Ok.ofbnd h)
    intro B_2 hB_2 hE_2 s_2 h
    generalize s_2 = l2_2 at h ⊢
    have h : Ok (f10_wordForward_b2 a0 l1 σ l2_2) B_2 := h
    change J X K 3 False QQ 0 0 2017 (jw K σ) 2 [(0, .ref (K.2.2 + a0)), (2, .int l2_2)] []
    unfold f10_wordForward_b2 at h
    refine J_iload_n (i := 2) (p := 1) C dX10_wordForward_2 rfl rfl rfl ?_
    refine J_aload_n (i := 0) (p := 0) C dX10_wordForward_3 rfl rfl rfl ?_
    refine Jc_getI C fp_RX10_43 h_a0 rfl dX10_wordForward_4 rfl ?_
    refine J_icmp_ge (t := 28) C dX10_wordForward_7 (by decide) rfl (fun c_6 => ?_) (fun c_6 => ?_)
    · have h := h.pos c_6
      have h := hE_2 l2_2 h.osome
      try dsimp only at h
      exact hj_28 l2_2 h
    · have h := h.neg c_6
      refine J_aload_n (i := 0) (p := 0) C dX10_wordForward_10 rfl rfl rfl ?_
      refine Jc_getD C fp_RX10_46 h_a0 rfl dX10_wordForward_11 rfl ?_
      refine J_iload_n (i := 2) (p := 1) C dX10_wordForward_14 rfl rfl rfl ?_
      obtain ⟨g_7, h⟩ := Ok.ofgd h
      rw [jv_pos (r := fR σ a0 0) (okr_spec g_7).1]
      obtain ⟨g_8, h⟩ := Ok.ofgd h
      refine Jc_bald C (okr_spec g_7).2 rfl g_8 dX10_wordForward_15 rfl ?_
      refine J_cSN (rest := []) (st9 := fun p_9 => [.int p_9]) C hR hX cn_RX10_50 (k11_isOfWord hl  (Ok.ofbnd h)) rfl rfl (Nat.le_of_ble_eq_true rfl) (Nat.le_of_ble_eq_true rfl) (Nat.le_of_ble_eq_true rfl) ⟨(Nat.le_of_ble_eq_true rfl), (Nat.le_of_ble_eq_true rfl)⟩ dX10_wordForward_16 rfl (fun E n9 w9 hx => JT_n hx) (fun _ => rfl) (fun p_9 h => ?_)
      have h : Ok _ _ := h
      change J X K 3 False QQ 0 0 2017 (jw K σ) 19 [(0, .ref (K.2.2 + a0)), (2, .int l2_2)] [.int p_9]
      refine J_if_ne (t := 28) C dX10_wordForward_19 (by decide) rfl (fun c_10 => ?_) (fun c_10 => ?_)
      · have h := h.neg c_10
        have h := hE_2 l2_2 h.osome
        try dsimp only at h
        exact hj_28 l2_2 h
      · have h := h.pos (Decidable.not_not.mp c_10)
        obtain ⟨x2_2, e_x2_2, h⟩ := Ok.nm h
        refine J_iincE (i := 2) (p := 1) (lv' := [(2, .int x2_2), (0, .ref (K.2.2 + a0))]) C e_x2_2 dX10_wordForward_22 rfl (by decide) (Nat.le_of_ble_eq_true rfl) rfl rfl ?_
        refine J_goto (t := 2) C dX10_wordForward_25 (by decide) ?_
        refine J.sub [1, 0] rfl ?_
        exact hB_2 x2_2 h.osome
  unfold f10_wordForward at h
  refine J_iload_n (i := 1) (p := 1) C dX10_wordForward_0 rfl rfl rfl ?_
  obtain ⟨x2_3, e_x2_3, h⟩ := Ok.nm h
  refine J_istoreE_n (i := 2) (lv' := [(2, .int x2_3), (0, .ref (K.2.2 + a0)), (1, .int l1)]) C e_x2_3 dX10_wordForward_1 rfl (Nat.le_of_ble_eq_true rfl) rfl rfl ?_
  refine J.sub [1, 0] rfl ?_
  exact hj_2 x2_3 h
def f10_wordBack_j50 (a0 : Nat) (l1 : Int32) (σ : Sto) (l2_50 : Int32) : Option (Int32) :=
  some l2_50
def f10_wordBack_b26 (a0 : Nat) (l1 : Int32) (σ : Sto) (l2_26 : Int32) : Option (Int32 ⊕ Int32) :=
  if l2_26 ≤ 0 then
    some (.inr l2_26)
  else
    gd (okr (fR σ a0 0) 13) <|
    gd (inb (l2_26 - (1 : Int32)) (ln ((fR σ a0 0) - 1))) <|
    bnd (f11_isOfWord (aI σ ((fR σ a0 0) - 1) (Int32.toNatClampNeg (l2_26 - (1 : Int32))))) fun p_4 =>
    if p_4 = 0 then
      some (.inr l2_26)
    else
      stp (l2_26 + (-1 : Int32)) fun x2_1 =>
      some (.inl x2_1)
def f10_wordBack_j26 (a0 : Nat) (l1 : Int32) (σ : Sto) (l2_26 : Int32) : Option (Int32) :=
  bnd (loopF (fun s_26 => f10_wordBack_b26 a0 l1 σ s_26) FU l2_26) fun r_26 =>
    f10_wordBack_j50 a0 l1 σ r_26
def f10_wordBack_b2 (a0 : Nat) (l1 : Int32) (σ : Sto) (l2_2 : Int32) : Option (Int32 ⊕ Int32) :=
  if l2_2 ≤ 0 then
    some (.inr l2_2)
  else
    gd (okr (fR σ a0 0) 13) <|
    gd (inb (l2_2 - (1 : Int32)) (ln ((fR σ a0 0) - 1))) <|
    bnd (f11_isOfWord (aI σ ((fR σ a0 0) - 1) (Int32.toNatClampNeg (l2_2 - (1 : Int32))))) fun p_9 =>
    if p_9 = 0 then
      stp (l2_2 + (-1 : Int32)) fun x2_2 =>
      some (.inl x2_2)
    else
      some (.inr l2_2)
def f10_wordBack_j2 (a0 : Nat) (l1 : Int32) (σ : Sto) (l2_2 : Int32) : Option (Int32) :=
  bnd (loopF (fun s_2 => f10_wordBack_b2 a0 l1 σ s_2) FU l2_2) fun r_2 =>
    f10_wordBack_j26 a0 l1 σ r_2
def f10_wordBack (σ : Sto) (a0 : Nat) (l1 : Int32) : Option (Int32) :=
  stp l1 fun x2_3 =>
  f10_wordBack_j2 a0 l1 σ x2_3
set_option maxHeartbeats 4000000 in
set_option maxRecDepth 100000 in
theorem k10_wordBack {l : Launch} {K : JK} (hl : l.stackTraces = false) {σ : Sto} {a0 : Nat} {l1 : Int32} (h_a0 : kc a0 = 8) {Qf : Int32 → Prop} (h : Ok (f10_wordBack σ a0 l1) Qf) : Con l K yX10_wordBack (.code yX10_wordBack cX10_wordBack 3 (some .int) :: TB) 1 0 0 False [.ref (K.2.2 + a0), .int l1] 2017 (jw K σ) (PR Qf (fun p => some (.int p)) (fun p => jw K σ)) PN := by
  refine Con.enter (own := RX10) hl (by decide) rfl (Nat.le_of_ble_eq_true rfl) ?_
  intro X hX hR C hret hnt
  generalize hQQ : jQ X K 0 0 (PR Qf (fun p => some (.int p)) (fun p => jw K σ)) PN False = QQ
  change J X K 3 False QQ 0 0 2017 (jw K σ) 0 [(0, .ref (K.2.2 + a0)), (1, .int l1)] []
  have hj_50 : (∀ (l2_50 : Int32), Ok (f10_wordBack_j50 a0 l1 σ l2_50) Qf → J X K 3 False QQ 0 0 2017 (jw K σ) 50 [(2, .int l2_50)] []) := by
    intro l2_50 h
    unfold f10_wordBack_j50 at h
    refine J_iload_n (i := 2) (p := 0) C dX10_wordBack_50 rfl rfl rfl ?_
    rw [← hQQ]
    exact J_iret C hret (Nat.le_of_ble_eq_true rfl) (Nat.le_of_ble_eq_true rfl) ⟨_, h.osome, rfl, rfl, rfl⟩ dX10_wordBack_51
  have hj_26 : (∀ (l2_26 : Int32), Ok (f10_wordBack_j26 a0 l1 σ l2_26) Qf → J X K 3 False QQ 0 0 2017 (jw K σ) 26 [(0, .ref (K.2.2 + a0)), (2, .int l2_26)] []) := by
    intro l2_26 h
    unfold f10_wordBack_j26 at h
    refine loop_gen (S := Int32) (P := fun s_26 => J X K 3 False QQ 0 0 2017 (jw K σ) 26 [(0, .ref (K.2.2 + a0)), (2, .int s_26)] []) ?_ FU l2_26 (Ok.ofbnd h)
    intro B_26 hB_26 hE_26 s_26 h
    generalize s_26 = l2_26 at h ⊢
    have h : Ok (f10_wordBack_b26 a0 l1 σ l2_26) B_26 := h
    change J X K 3 False QQ 0 0 2017 (jw K σ) 26 [(0, .ref (K.2.2 + a0)), (2, .int l2_26)] []
    unfold f10_wordBack_b26 at h
    refine J_iload_n (i := 2) (p := 1) C dX10_wordBack_26 rfl rfl rfl ?_
    refine J_if_le (t := 50) C dX10_wordBack_27 (by decide) rfl (fun c_1 => ?_) (fun c_1 => ?_)
    · have h := h.pos c_1
      have h := hE_26 l2_26 h.osome
      try dsimp only at h
      refine J.sub [1] rfl ?_
      exact hj_50 l2_26 h
    · have h := h.neg c_1
      refine J_aload_n (i := 0) (p := 0) C dX10_wordBack_30 rfl rfl rfl ?_
      refine Jc_getD C fp_RX10_46 h_a0 rfl dX10_wordBack_31 rfl ?_
      refine J_iload_n (i := 2) (p := 1) C dX10_wordBack_34 rfl rfl rfl ?_
      refine J_iconst (v := 1) C (by decide) dX10_wordBack_35 rfl ?_
      refine J_isub C dX10_wordBack_36 rfl ?_
      obtain ⟨g_2, h⟩ := Ok.ofgd h
      rw [jv_pos (r := fR σ a0 0) (okr_spec g_2).1]
      obtain ⟨g_3, h⟩ := Ok.ofgd h
      refine Jc_bald C (okr_spec g_2).2 rfl g_3 dX10_wordBack_37 rfl ?_
      refine J_cSN (rest := []) (st9 := fun p_4 => [.int p_4]) C hR hX cn_RX10_50 (k11_isOfWord hl  (Ok.ofbnd h)) rfl rfl (Nat.le_of_ble_eq_true rfl) (Nat.le_of_ble_eq_true rfl) (Nat.le_of_ble_eq_true rfl) ⟨(Nat.le_of_ble_eq_true rfl), (Nat.le_of_ble_eq_true rfl)⟩ dX10_wordBack_38 rfl (fun E n9 w9 hx => JT_n hx) (fun _ => rfl) (fun p_4 h => ?_)
      have h : Ok _ _ := h
      change J X K 3 False QQ 0 0 2017 (jw K σ) 41 [(0, .ref (K.2.2 + a0)), (2, .int l2_26)] [.int p_4]
      refine J_if_eq (t := 50) C dX10_wordBack_41 (by decide) rfl (fun c_5 => ?_) (fun c_5 => ?_)
      · have h := h.pos c_5
        have h := hE_26 l2_26 h.osome
        try dsimp only at h
        refine J.sub [1] rfl ?_
        exact hj_50 l2_26 h
      · have h := h.neg c_5
        obtain ⟨x2_1, e_x2_1, h⟩ := Ok.nm h
        refine J_iincE (i := 2) (p := 1) (lv' := [(2, .int x2_1), (0, .ref (K.2.2 + a0))]) C e_x2_1 dX10_wordBack_44 rfl (by decide) (Nat.le_of_ble_eq_true rfl) rfl rfl ?_
        refine J_goto (t := 26) C dX10_wordBack_47 (by decide) ?_
        refine J.sub [1, 0] rfl ?_
        exact hB_26 x2_1 h.osome
  have hj_2 : (∀ (l2_2 : Int32), Ok (f10_wordBack_j2 a0 l1 σ l2_2) Qf → J X K 3 False QQ 0 0 2017 (jw K σ) 2 [(0, .ref (K.2.2 + a0)), (2, .int l2_2)] []) := by
    intro l2_2 h
    unfold f10_wordBack_j2 at h
    refine loop_gen (S := Int32) (P := fun s_2 => J X K 3 False QQ 0 0 2017 (jw K σ) 2 [(0, .ref (K.2.2 + a0)), (2, .int s_2)] []) ?_ FU l2_2 (Ok.ofbnd h)
    intro B_2 hB_2 hE_2 s_2 h
    generalize s_2 = l2_2 at h ⊢
    have h : Ok (f10_wordBack_b2 a0 l1 σ l2_2) B_2 := h
    change J X K 3 False QQ 0 0 2017 (jw K σ) 2 [(0, .ref (K.2.2 + a0)), (2, .int l2_2)] []
    unfold f10_wordBack_b2 at h
    refine J_iload_n (i := 2) (p := 1) C dX10_wordBack_2 rfl rfl rfl ?_
    refine J_if_le (t := 26) C dX10_wordBack_3 (by decide) rfl (fun c_6 => ?_) (fun c_6 => ?_)
    · have h := h.pos c_6
      have h := hE_2 l2_2 h.osome
      try dsimp only at h
      exact hj_26 l2_2 h
    · have h := h.neg c_6
      refine J_aload_n (i := 0) (p := 0) C dX10_wordBack_6 rfl rfl rfl ?_
      refine Jc_getD C fp_RX10_46 h_a0 rfl dX10_wordBack_7 rfl ?_
      refine J_iload_n (i := 2) (p := 1) C dX10_wordBack_10 rfl rfl rfl ?_
      refine J_iconst (v := 1) C (by decide) dX10_wordBack_11 rfl ?_
      refine J_isub C dX10_wordBack_12 rfl ?_
      obtain ⟨g_7, h⟩ := Ok.ofgd h
      rw [jv_pos (r := fR σ a0 0) (okr_spec g_7).1]
      obtain ⟨g_8, h⟩ := Ok.ofgd h
      refine Jc_bald C (okr_spec g_7).2 rfl g_8 dX10_wordBack_13 rfl ?_
      refine J_cSN (rest := []) (st9 := fun p_9 => [.int p_9]) C hR hX cn_RX10_50 (k11_isOfWord hl  (Ok.ofbnd h)) rfl rfl (Nat.le_of_ble_eq_true rfl) (Nat.le_of_ble_eq_true rfl) (Nat.le_of_ble_eq_true rfl) ⟨(Nat.le_of_ble_eq_true rfl), (Nat.le_of_ble_eq_true rfl)⟩ dX10_wordBack_14 rfl (fun E n9 w9 hx => JT_n hx) (fun _ => rfl) (fun p_9 h => ?_)
      have h : Ok _ _ := h
      change J X K 3 False QQ 0 0 2017 (jw K σ) 17 [(0, .ref (K.2.2 + a0)), (2, .int l2_2)] [.int p_9]
      refine J_if_ne (t := 26) C dX10_wordBack_17 (by decide) rfl (fun c_10 => ?_) (fun c_10 => ?_)
      · have h := h.neg c_10
        have h := hE_2 l2_2 h.osome
        try dsimp only at h
        exact hj_26 l2_2 h
      · have h := h.pos (Decidable.not_not.mp c_10)
        obtain ⟨x2_2, e_x2_2, h⟩ := Ok.nm h
        refine J_iincE (i := 2) (p := 1) (lv' := [(2, .int x2_2), (0, .ref (K.2.2 + a0))]) C e_x2_2 dX10_wordBack_20 rfl (by decide) (Nat.le_of_ble_eq_true rfl) rfl rfl ?_
        refine J_goto (t := 2) C dX10_wordBack_23 (by decide) ?_
        refine J.sub [1, 0] rfl ?_
        exact hB_2 x2_2 h.osome
  unfold f10_wordBack at h
  refine J_iload_n (i := 1) (p := 1) C dX10_wordBack_0 rfl rfl rfl ?_
  obtain ⟨x2_3, e_x2_3, h⟩ := Ok.nm h
  refine J_istoreE_n (i := 2) (lv' := [(2, .int x2_3), (0, .ref (K.2.2 + a0)), (1, .int l1)]) C e_x2_3 dX10_wordBack_1 rfl (Nat.le_of_ble_eq_true rfl) rfl rfl ?_
  refine J.sub [1, 0] rfl ?_
  exact hj_2 x2_3 h
def f10_overWords_b26 (a0 : Nat) (l1 : Int32) (l2 : Int32) (σ : Sto) (l3_26 : Int32) (l4_26 : Int32) : Option ((Int32 × Int32) ⊕ Int32) :=
  if l4_26 ≤ l2 then
    some (.inr l3_26)
  else
    bnd (f10_wordBack σ a0 l3_26) fun p_2 =>
    stp p_2 fun x3_1 =>
    stp (l4_26 + (-1 : Int32)) fun x4_2 =>
    some (.inl (x3_1, x4_2))
def f10_overWords_j26 (a0 : Nat) (l1 : Int32) (l2 : Int32) (σ : Sto) (l3_26 : Int32) (l4_26 : Int32) : Option (Int32) :=
  bnd (loopF (fun s_26 => f10_overWords_b26 a0 l1 l2 σ s_26.1 s_26.2) FU (l3_26, l4_26)) fun r_26 =>
    some r_26
def f10_overWords_b5 (a0 : Nat) (l1 : Int32) (l2 : Int32) (σ : Sto) (l3_5 : Int32) (l4_5 : Int32) : Option ((Int32 × Int32) ⊕ Int32) :=
  if l2 ≤ l4_5 then
    some (.inr l3_5)
  else
    bnd (f10_wordForward σ a0 l3_5) fun p_4 =>
    stp p_4 fun x3_4 =>
    stp (l4_5 + (1 : Int32)) fun x4_5 =>
    some (.inl (x3_4, x4_5))
def f10_overWords_j5 (a0 : Nat) (l1 : Int32) (l2 : Int32) (σ : Sto) (l3_5 : Int32) (l4_5 : Int32) : Option (Int32) :=
  bnd (loopF (fun s_5 => f10_overWords_b5 a0 l1 l2 σ s_5.1 s_5.2) FU (l3_5, l4_5)) fun r_5 =>
    stp (0 : Int32) fun x4_6 =>
    f10_overWords_j26 a0 l1 l2 σ r_5 x4_6
def f10_overWords (σ : Sto) (a0 : Nat) (l1 : Int32) (l2 : Int32) : Option (Int32) :=
  stp l1 fun x3_7 =>
  stp (0 : Int32) fun x4_8 =>
  f10_overWords_j5 a0 l1 l2 σ x3_7 x4_8
set_option maxHeartbeats 4000000 in
set_option maxRecDepth 100000 in
theorem k10_overWords {l : Launch} {K : JK} (hl : l.stackTraces = false) {σ : Sto} {a0 : Nat} {l1 : Int32} {l2 : Int32} (h_a0 : kc a0 = 8) {Qf : Int32 → Prop} (h : Ok (f10_overWords σ a0 l1 l2) Qf) : Con l K yX10_overWords (.code yX10_overWords cX10_overWords 5 (some .int) :: TB) 2 0 0 False [.ref (K.2.2 + a0), .int l1, .int l2] 2017 (jw K σ) (PR Qf (fun p => some (.int p)) (fun p => jw K σ)) PN := by
  refine Con.enter (own := RX10) hl (by decide) rfl (Nat.le_of_ble_eq_true rfl) ?_
  intro X hX hR C hret hnt
  generalize hQQ : jQ X K 0 0 (PR Qf (fun p => some (.int p)) (fun p => jw K σ)) PN False = QQ
  change J X K 5 False QQ 0 0 2017 (jw K σ) 0 [(0, .ref (K.2.2 + a0)), (1, .int l1), (2, .int l2)] []
  have hj_26 : (∀ (l3_26 : Int32) (l4_26 : Int32), Ok (f10_overWords_j26 a0 l1 l2 σ l3_26 l4_26) Qf → J X K 5 False QQ 0 0 2017 (jw K σ) 26 [(0, .ref (K.2.2 + a0)), (2, .int l2), (3, .int l3_26), (4, .int l4_26)] []) := by
    intro l3_26 l4_26 h
    unfold f10_overWords_j26 at h
    refine loop_gen (S := Int32 × Int32) (P := fun s_26 => J X K 5 False QQ 0 0 2017 (jw K σ) 26 [(0, .ref (K.2.2 + a0)), (2, .int l2), (3, .int s_26.1), (4, .int s_26.2)] []) ?_ FU (l3_26, l4_26) (Ok.ofbnd h)
    intro B_26 hB_26 hE_26 s_26 h
    obtain ⟨l3_26, l4_26⟩ := s_26
    have h : Ok (f10_overWords_b26 a0 l1 l2 σ l3_26 l4_26) B_26 := h
    change J X K 5 False QQ 0 0 2017 (jw K σ) 26 [(0, .ref (K.2.2 + a0)), (2, .int l2), (3, .int l3_26), (4, .int l4_26)] []
    unfold f10_overWords_b26 at h
    refine J_iload (i := 4) (p := 3) C dX10_overWords_26 rfl rfl ?_
    refine J_iload_n (i := 2) (p := 1) C dX10_overWords_28 rfl rfl rfl ?_
    refine J_icmp_le (t := 44) C dX10_overWords_29 (by decide) rfl (fun c_1 => ?_) (fun c_1 => ?_)
    · have h := h.pos c_1
      have h := hE_26 l3_26 h.osome
      try dsimp only at h
      refine J_iload_n (i := 3) (p := 2) C dX10_overWords_44 rfl rfl rfl ?_
      rw [← hQQ]
      exact J_iret C hret (Nat.le_of_ble_eq_true rfl) (Nat.le_of_ble_eq_true rfl) ⟨_, h.osome, rfl, rfl, rfl⟩ dX10_overWords_45
    · have h := h.neg c_1
      refine J_aload_n (i := 0) (p := 0) C dX10_overWords_32 rfl rfl rfl ?_
      refine J_iload_n (i := 3) (p := 2) C dX10_overWords_33 rfl rfl rfl ?_
      refine J_cS (rest := []) (st9 := fun p_2 => [.int p_2]) C hR hX cs_RX10_40 (k10_wordBack hl h_a0 (Ok.ofbnd h)) rfl rfl (Nat.le_of_ble_eq_true rfl) (Nat.le_of_ble_eq_true rfl) (Nat.le_of_ble_eq_true rfl) ⟨(Nat.le_of_ble_eq_true rfl), (Nat.le_of_ble_eq_true rfl)⟩ dX10_overWords_34 rfl (fun E n9 w9 hx => JT_n hx) (fun _ => rfl) (fun p_2 h => ?_)
      have h : Ok _ _ := h
      change J X K 5 False QQ 0 0 2017 (jw K σ) 37 [(0, .ref (K.2.2 + a0)), (2, .int l2), (3, .int l3_26), (4, .int l4_26)] [.int p_2]
      obtain ⟨x3_1, e_x3_1, h⟩ := Ok.nm h
      refine J_istoreE_n (i := 3) (lv' := [(3, .int x3_1), (0, .ref (K.2.2 + a0)), (2, .int l2), (4, .int l4_26)]) C e_x3_1 dX10_overWords_37 rfl (Nat.le_of_ble_eq_true rfl) rfl rfl ?_
      obtain ⟨x4_2, e_x4_2, h⟩ := Ok.nm h
      refine J_iincE (i := 4) (p := 3) (lv' := [(4, .int x4_2), (3, .int x3_1), (0, .ref (K.2.2 + a0)), (2, .int l2)]) C e_x4_2 dX10_overWords_38 rfl (by decide) (Nat.le_of_ble_eq_true rfl) rfl rfl ?_
      refine J_goto (t := 26) C dX10_overWords_41 (by decide) ?_
      refine J.sub [2, 3, 1, 0] rfl ?_
      exact hB_26 (x3_1, x4_2) h.osome
  have hj_5 : (∀ (l3_5 : Int32) (l4_5 : Int32), Ok (f10_overWords_j5 a0 l1 l2 σ l3_5 l4_5) Qf → J X K 5 False QQ 0 0 2017 (jw K σ) 5 [(0, .ref (K.2.2 + a0)), (2, .int l2), (3, .int l3_5), (4, .int l4_5)] []) := by
    intro l3_5 l4_5 h
    unfold f10_overWords_j5 at h
    refine loop_gen (S := Int32 × Int32) (P := fun s_5 => J X K 5 False QQ 0 0 2017 (jw K σ) 5 [(0, .ref (K.2.2 + a0)), (2, .int l2), (3, .int s_5.1), (4, .int s_5.2)] []) ?_ FU (l3_5, l4_5) (Ok.ofbnd h)
    intro B_5 hB_5 hE_5 s_5 h
    obtain ⟨l3_5, l4_5⟩ := s_5
    have h : Ok (f10_overWords_b5 a0 l1 l2 σ l3_5 l4_5) B_5 := h
    change J X K 5 False QQ 0 0 2017 (jw K σ) 5 [(0, .ref (K.2.2 + a0)), (2, .int l2), (3, .int l3_5), (4, .int l4_5)] []
    unfold f10_overWords_b5 at h
    refine J_iload (i := 4) (p := 3) C dX10_overWords_5 rfl rfl ?_
    refine J_iload_n (i := 2) (p := 1) C dX10_overWords_7 rfl rfl rfl ?_
    refine J_icmp_ge (t := 23) C dX10_overWords_8 (by decide) rfl (fun c_3 => ?_) (fun c_3 => ?_)
    · have h := h.pos c_3
      have h := hE_5 l3_5 h.osome
      try dsimp only at h
      refine J_iconst (v := 0) C (by decide) dX10_overWords_23 rfl ?_
      obtain ⟨x4_3, e_x4_3, h⟩ := Ok.nm h
      refine J_istoreE (i := 4) (lv' := [(4, .int x4_3), (0, .ref (K.2.2 + a0)), (2, .int l2), (3, .int l3_5)]) C e_x4_3 dX10_overWords_24 (Nat.le_of_ble_eq_true rfl) rfl rfl ?_
      refine J.sub [1, 2, 3, 0] rfl ?_
      exact hj_26 l3_5 x4_3 h
    · have h := h.neg c_3
      refine J_aload_n (i := 0) (p := 0) C dX10_overWords_11 rfl rfl rfl ?_
      refine J_iload_n (i := 3) (p := 2) C dX10_overWords_12 rfl rfl rfl ?_
      refine J_cS (rest := []) (st9 := fun p_4 => [.int p_4]) C hR hX cs_RX10_34 (k10_wordForward hl h_a0 (Ok.ofbnd h)) rfl rfl (Nat.le_of_ble_eq_true rfl) (Nat.le_of_ble_eq_true rfl) (Nat.le_of_ble_eq_true rfl) ⟨(Nat.le_of_ble_eq_true rfl), (Nat.le_of_ble_eq_true rfl)⟩ dX10_overWords_13 rfl (fun E n9 w9 hx => JT_n hx) (fun _ => rfl) (fun p_4 h => ?_)
      have h : Ok _ _ := h
      change J X K 5 False QQ 0 0 2017 (jw K σ) 16 [(0, .ref (K.2.2 + a0)), (2, .int l2), (3, .int l3_5), (4, .int l4_5)] [.int p_4]
      obtain ⟨x3_4, e_x3_4, h⟩ := Ok.nm h
      refine J_istoreE_n (i := 3) (lv' := [(3, .int x3_4), (0, .ref (K.2.2 + a0)), (2, .int l2), (4, .int l4_5)]) C e_x3_4 dX10_overWords_16 rfl (Nat.le_of_ble_eq_true rfl) rfl rfl ?_
      obtain ⟨x4_5, e_x4_5, h⟩ := Ok.nm h
      refine J_iincE (i := 4) (p := 3) (lv' := [(4, .int x4_5), (3, .int x3_4), (0, .ref (K.2.2 + a0)), (2, .int l2)]) C e_x4_5 dX10_overWords_17 rfl (by decide) (Nat.le_of_ble_eq_true rfl) rfl rfl ?_
      refine J_goto (t := 5) C dX10_overWords_20 (by decide) ?_
      refine J.sub [2, 3, 1, 0] rfl ?_
      exact hB_5 (x3_4, x4_5) h.osome
  unfold f10_overWords at h
  refine J_iload_n (i := 1) (p := 1) C dX10_overWords_0 rfl rfl rfl ?_
  obtain ⟨x3_7, e_x3_7, h⟩ := Ok.nm h
  refine J_istoreE_n (i := 3) (lv' := [(3, .int x3_7), (0, .ref (K.2.2 + a0)), (1, .int l1), (2, .int l2)]) C e_x3_7 dX10_overWords_1 rfl (Nat.le_of_ble_eq_true rfl) rfl rfl ?_
  refine J_iconst (v := 0) C (by decide) dX10_overWords_2 rfl ?_
  obtain ⟨x4_8, e_x4_8, h⟩ := Ok.nm h
  refine J_istoreE (i := 4) (lv' := [(4, .int x4_8), (3, .int x3_7), (0, .ref (K.2.2 + a0)), (1, .int l1), (2, .int l2)]) C e_x4_8 dX10_overWords_3 (Nat.le_of_ble_eq_true rfl) rfl rfl ?_
  refine J.sub [2, 4, 1, 0] rfl ?_
  exact hj_5 x3_7 x4_8 h
def f8_isBlankLine_j67 (a0 : Nat) (l1 : Int32) (σ : Sto) (s0_67 : Int32) : Option (Int32) :=
  gd (isB s0_67) <|
  some s0_67
def f8_isBlankLine_j62 (a0 : Nat) (l1 : Int32) (σ : Sto) : Option (Int32) :=
  f8_isBlankLine_j67 a0 l1 σ (1 : Int32)
def f8_isBlankLine_j43 (a0 : Nat) (l1 : Int32) (σ : Sto) (l2_43 : Int32) : Option (Int32) :=
  if (fI σ a0 1) ≤ l2_43 then
    f8_isBlankLine_j62 a0 l1 σ
  else
    gd (okr (fR σ a0 0) 13) <|
    gd (inb l2_43 (ln ((fR σ a0 0) - 1))) <|
    if (aI σ ((fR σ a0 0) - 1) (Int32.toNatClampNeg l2_43)) = (10 : Int32) then
      f8_isBlankLine_j62 a0 l1 σ
    else
      f8_isBlankLine_j67 a0 l1 σ (0 : Int32)
def f8_isBlankLine_j37 (a0 : Nat) (l1 : Int32) (σ : Sto) (l2_37 : Int32) : Option (Int32 ⊕ Int32) :=
  stp (l2_37 + (1 : Int32)) fun x2_1 =>
  some (.inl x2_1)
def f8_isBlankLine_b7 (a0 : Nat) (l1 : Int32) (σ : Sto) (l2_7 : Int32) : Option (Int32 ⊕ Int32) :=
  if (fI σ a0 1) ≤ l2_7 then
    some (.inr l2_7)
  else
    gd (okr (fR σ a0 0) 13) <|
    gd (inb l2_7 (ln ((fR σ a0 0) - 1))) <|
    if (aI σ ((fR σ a0 0) - 1) (Int32.toNatClampNeg l2_7)) = (32 : Int32) then
      f8_isBlankLine_j37 a0 l1 σ l2_7
    else
      gd (okr (fR σ a0 0) 13) <|
      gd (inb l2_7 (ln ((fR σ a0 0) - 1))) <|
      if (aI σ ((fR σ a0 0) - 1) (Int32.toNatClampNeg l2_7)) = (9 : Int32) then
        f8_isBlankLine_j37 a0 l1 σ l2_7
      else
        some (.inr l2_7)
def f8_isBlankLine_j7 (a0 : Nat) (l1 : Int32) (σ : Sto) (l2_7 : Int32) : Option (Int32) :=
  bnd (loopF (fun s_7 => f8_isBlankLine_b7 a0 l1 σ s_7) FU l2_7) fun r_7 =>
    f8_isBlankLine_j43 a0 l1 σ r_7
def f8_isBlankLine (σ : Sto) (a0 : Nat) (l1 : Int32) : Option (Int32) :=
  gd (okr (fR σ a0 2) 12) <|
  gd (inb l1 (ln ((fR σ a0 2) - 1))) <|
  stp (aI σ ((fR σ a0 2) - 1) (Int32.toNatClampNeg l1)) fun x2_2 =>
  f8_isBlankLine_j7 a0 l1 σ x2_2
set_option maxHeartbeats 4000000 in
set_option maxRecDepth 100000 in
theorem k8_isBlankLine {l : Launch} {K : JK} (hl : l.stackTraces = false) {σ : Sto} {a0 : Nat} {l1 : Int32} (h_a0 : kc a0 = 8) {Qf : Int32 → Prop} (h : Ok (f8_isBlankLine σ a0 l1) Qf) : Con l K yX8_isBlankLine (.code yX8_isBlankLine cX8_isBlankLine 3 (some .boolean) :: TB) 0 0 0 False [.ref (K.2.2 + a0), .int l1] 2017 (jw K σ) (PR Qf (fun p => some (.int p)) (fun p => jw K σ)) PN := by
  refine Con.enter (own := RX8) hl (by decide) rfl (Nat.le_of_ble_eq_true rfl) ?_
  intro X hX hR C hret hnt
  generalize hQQ : jQ X K 0 0 (PR Qf (fun p => some (.int p)) (fun p => jw K σ)) PN False = QQ
  change J X K 3 False QQ 0 0 2017 (jw K σ) 0 [(0, .ref (K.2.2 + a0)), (1, .int l1)] []
  have hj_67 : (∀ (s0_67 : Int32), Ok (f8_isBlankLine_j67 a0 l1 σ s0_67) Qf → J X K 3 False QQ 0 0 2017 (jw K σ) 67 [] [.int s0_67]) := by
    intro s0_67 h
    unfold f8_isBlankLine_j67 at h
    obtain ⟨g_1, h⟩ := Ok.ofgd h
    rw [← hQQ]
    exact J_zret C hret (narB g_1).1 (Nat.le_of_ble_eq_true rfl) (Nat.le_of_ble_eq_true rfl) ⟨_, h.osome, rfl, rfl, rfl⟩ dX8_isBlankLine_67
  have hj_62 : (Ok (f8_isBlankLine_j62 a0 l1 σ) Qf → J X K 3 False QQ 0 0 2017 (jw K σ) 62 [] []) := by
    intro h
    unfold f8_isBlankLine_j62 at h
    refine J_iconst (v := 1) C (by decide) dX8_isBlankLine_62 rfl ?_
    refine J_goto (t := 67) C dX8_isBlankLine_63 (by decide) ?_
    exact hj_67 (1 : Int32) h
  have hj_43 : (∀ (l2_43 : Int32), Ok (f8_isBlankLine_j43 a0 l1 σ l2_43) Qf → J X K 3 False QQ 0 0 2017 (jw K σ) 43 [(0, .ref (K.2.2 + a0)), (2, .int l2_43)] []) := by
    intro l2_43 h
    unfold f8_isBlankLine_j43 at h
    refine J_iload_n (i := 2) (p := 1) C dX8_isBlankLine_43 rfl rfl rfl ?_
    refine J_aload_n (i := 0) (p := 0) C dX8_isBlankLine_44 rfl rfl rfl ?_
    refine Jc_getI C fp_RX8_15 h_a0 rfl dX8_isBlankLine_45 rfl ?_
    refine J_icmp_ge (t := 62) C dX8_isBlankLine_48 (by decide) rfl (fun c_2 => ?_) (fun c_2 => ?_)
    · have h := h.pos c_2
      refine J.sub [] rfl ?_
      exact hj_62  h
    · have h := h.neg c_2
      refine J_aload_n (i := 0) (p := 0) C dX8_isBlankLine_51 rfl rfl rfl ?_
      refine Jc_getD C fp_RX8_9 h_a0 rfl dX8_isBlankLine_52 rfl ?_
      refine J_iload_n (i := 2) (p := 1) C dX8_isBlankLine_55 rfl rfl rfl ?_
      obtain ⟨g_3, h⟩ := Ok.ofgd h
      rw [jv_pos (r := fR σ a0 0) (okr_spec g_3).1]
      obtain ⟨g_4, h⟩ := Ok.ofgd h
      refine Jc_bald C (okr_spec g_3).2 rfl g_4 dX8_isBlankLine_56 rfl ?_
      refine J_bipush (v := 10) C (by decide) dX8_isBlankLine_57 rfl ?_
      refine J_icmp_ne (t := 66) C dX8_isBlankLine_59 (by decide) rfl (fun c_5 => ?_) (fun c_5 => ?_)
      · have h := h.neg c_5
        refine J_iconst (v := 0) C (by decide) dX8_isBlankLine_66 rfl ?_
        refine J.sub [] rfl ?_
        exact hj_67 (0 : Int32) h
      · have h := h.pos (Decidable.not_not.mp c_5)
        refine J.sub [] rfl ?_
        exact hj_62  h
  have hj_7 : (∀ (l2_7 : Int32), Ok (f8_isBlankLine_j7 a0 l1 σ l2_7) Qf → J X K 3 False QQ 0 0 2017 (jw K σ) 7 [(0, .ref (K.2.2 + a0)), (2, .int l2_7)] []) := by
    intro l2_7 h
    unfold f8_isBlankLine_j7 at h
    refine loop_gen (S := Int32) (P := fun s_7 => J X K 3 False QQ 0 0 2017 (jw K σ) 7 [(0, .ref (K.2.2 + a0)), (2, .int s_7)] []) ?_ FU l2_7 (Ok.ofbnd h)
    intro B_7 hB_7 hE_7 s_7 h
    generalize s_7 = l2_7 at h ⊢
    have h : Ok (f8_isBlankLine_b7 a0 l1 σ l2_7) B_7 := h
    change J X K 3 False QQ 0 0 2017 (jw K σ) 7 [(0, .ref (K.2.2 + a0)), (2, .int l2_7)] []
    have hj_37 : (∀ (l2_37 : Int32), Ok (f8_isBlankLine_j37 a0 l1 σ l2_37) B_7 → J X K 3 False QQ 0 0 2017 (jw K σ) 37 [(0, .ref (K.2.2 + a0)), (2, .int l2_37)] []) := by
      intro l2_37 h
      unfold f8_isBlankLine_j37 at h
      obtain ⟨x2_1, e_x2_1, h⟩ := Ok.nm h
      refine J_iincE (i := 2) (p := 1) (lv' := [(2, .int x2_1), (0, .ref (K.2.2 + a0))]) C e_x2_1 dX8_isBlankLine_37 rfl (by decide) (Nat.le_of_ble_eq_true rfl) rfl rfl ?_
      refine J_goto (t := 7) C dX8_isBlankLine_40 (by decide) ?_
      refine J.sub [1, 0] rfl ?_
      exact hB_7 x2_1 h.osome
    unfold f8_isBlankLine_b7 at h
    refine J_iload_n (i := 2) (p := 1) C dX8_isBlankLine_7 rfl rfl rfl ?_
    refine J_aload_n (i := 0) (p := 0) C dX8_isBlankLine_8 rfl rfl rfl ?_
    refine Jc_getI C fp_RX8_15 h_a0 rfl dX8_isBlankLine_9 rfl ?_
    refine J_icmp_ge (t := 43) C dX8_isBlankLine_12 (by decide) rfl (fun c_6 => ?_) (fun c_6 => ?_)
    · have h := h.pos c_6
      have h := hE_7 l2_7 h.osome
      try dsimp only at h
      exact hj_43 l2_7 h
    · have h := h.neg c_6
      refine J_aload_n (i := 0) (p := 0) C dX8_isBlankLine_15 rfl rfl rfl ?_
      refine Jc_getD C fp_RX8_9 h_a0 rfl dX8_isBlankLine_16 rfl ?_
      refine J_iload_n (i := 2) (p := 1) C dX8_isBlankLine_19 rfl rfl rfl ?_
      obtain ⟨g_7, h⟩ := Ok.ofgd h
      rw [jv_pos (r := fR σ a0 0) (okr_spec g_7).1]
      obtain ⟨g_8, h⟩ := Ok.ofgd h
      refine Jc_bald C (okr_spec g_7).2 rfl g_8 dX8_isBlankLine_20 rfl ?_
      refine J_bipush (v := 32) C (by decide) dX8_isBlankLine_21 rfl ?_
      refine J_icmp_eq (t := 37) C dX8_isBlankLine_23 (by decide) rfl (fun c_9 => ?_) (fun c_9 => ?_)
      · have h := h.pos c_9
        exact hj_37 l2_7 h
      · have h := h.neg c_9
        refine J_aload_n (i := 0) (p := 0) C dX8_isBlankLine_26 rfl rfl rfl ?_
        refine Jc_getD C fp_RX8_9 h_a0 rfl dX8_isBlankLine_27 rfl ?_
        refine J_iload_n (i := 2) (p := 1) C dX8_isBlankLine_30 rfl rfl rfl ?_
        obtain ⟨g_10, h⟩ := Ok.ofgd h
        rw [jv_pos (r := fR σ a0 0) (okr_spec g_10).1]
        obtain ⟨g_11, h⟩ := Ok.ofgd h
        refine Jc_bald C (okr_spec g_10).2 rfl g_11 dX8_isBlankLine_31 rfl ?_
        refine J_bipush (v := 9) C (by decide) dX8_isBlankLine_32 rfl ?_
        refine J_icmp_ne (t := 43) C dX8_isBlankLine_34 (by decide) rfl (fun c_12 => ?_) (fun c_12 => ?_)
        · have h := h.neg c_12
          have h := hE_7 l2_7 h.osome
          try dsimp only at h
          exact hj_43 l2_7 h
        · have h := h.pos (Decidable.not_not.mp c_12)
          exact hj_37 l2_7 h
  unfold f8_isBlankLine at h
  refine J_aload_n (i := 0) (p := 0) C dX8_isBlankLine_0 rfl rfl rfl ?_
  refine Jc_getD C fp_RX8_19 h_a0 rfl dX8_isBlankLine_1 rfl ?_
  refine J_iload_n (i := 1) (p := 1) C dX8_isBlankLine_4 rfl rfl rfl ?_
  obtain ⟨g_13, h⟩ := Ok.ofgd h
  rw [jv_pos (r := fR σ a0 2) (okr_spec g_13).1]
  obtain ⟨g_14, h⟩ := Ok.ofgd h
  refine Jc_iald C (okr_spec g_13).2 rfl g_14 dX8_isBlankLine_5 rfl ?_
  obtain ⟨x2_2, e_x2_2, h⟩ := Ok.nm h
  refine J_istoreE_n (i := 2) (lv' := [(2, .int x2_2), (0, .ref (K.2.2 + a0)), (1, .int l1)]) C e_x2_2 dX8_isBlankLine_6 rfl (Nat.le_of_ble_eq_true rfl) rfl rfl ?_
  refine J.sub [1, 0] rfl ?_
  exact hj_7 x2_2 h
def f8_isParagraph_j27 (a0 : Nat) (l1 : Int32) (σ : Sto) (s0_27 : Int32) : Option (Int32) :=
  gd (isB s0_27) <|
  some s0_27
def f8_isParagraph_j26 (a0 : Nat) (l1 : Int32) (σ : Sto) : Option (Int32) :=
  f8_isParagraph_j27 a0 l1 σ (0 : Int32)
def f8_isParagraph_j22 (a0 : Nat) (l1 : Int32) (σ : Sto) : Option (Int32) :=
  f8_isParagraph_j27 a0 l1 σ (1 : Int32)
def f8_isParagraph (σ : Sto) (a0 : Nat) (l1 : Int32) : Option (Int32) :=
  bnd (f8_isBlankLine σ a0 l1) fun p_2 =>
  if p_2 = 0 then
    if l1 = 0 then
      f8_isParagraph_j22 a0 l1 σ
    else
      bnd (f8_isBlankLine σ a0 (l1 - (1 : Int32))) fun p_5 =>
      if p_5 = 0 then
        f8_isParagraph_j26 a0 l1 σ
      else
        f8_isParagraph_j22 a0 l1 σ
  else
    f8_isParagraph_j26 a0 l1 σ
set_option maxHeartbeats 4000000 in
set_option maxRecDepth 100000 in
theorem k8_isParagraph {l : Launch} {K : JK} (hl : l.stackTraces = false) {σ : Sto} {a0 : Nat} {l1 : Int32} (h_a0 : kc a0 = 8) {Qf : Int32 → Prop} (h : Ok (f8_isParagraph σ a0 l1) Qf) : Con l K yX8_isParagraph (.code yX8_isParagraph cX8_isParagraph 2 (some .boolean) :: TB) 1 0 0 False [.ref (K.2.2 + a0), .int l1] 2017 (jw K σ) (PR Qf (fun p => some (.int p)) (fun p => jw K σ)) PN := by
  refine Con.enter (own := RX8) hl (by decide) rfl (Nat.le_of_ble_eq_true rfl) ?_
  intro X hX hR C hret hnt
  generalize hQQ : jQ X K 0 0 (PR Qf (fun p => some (.int p)) (fun p => jw K σ)) PN False = QQ
  change J X K 2 False QQ 0 0 2017 (jw K σ) 0 [(0, .ref (K.2.2 + a0)), (1, .int l1)] []
  have hj_27 : (∀ (s0_27 : Int32), Ok (f8_isParagraph_j27 a0 l1 σ s0_27) Qf → J X K 2 False QQ 0 0 2017 (jw K σ) 27 [] [.int s0_27]) := by
    intro s0_27 h
    unfold f8_isParagraph_j27 at h
    obtain ⟨g_1, h⟩ := Ok.ofgd h
    rw [← hQQ]
    exact J_zret C hret (narB g_1).1 (Nat.le_of_ble_eq_true rfl) (Nat.le_of_ble_eq_true rfl) ⟨_, h.osome, rfl, rfl, rfl⟩ dX8_isParagraph_27
  have hj_26 : (Ok (f8_isParagraph_j26 a0 l1 σ) Qf → J X K 2 False QQ 0 0 2017 (jw K σ) 26 [] []) := by
    intro h
    unfold f8_isParagraph_j26 at h
    refine J_iconst (v := 0) C (by decide) dX8_isParagraph_26 rfl ?_
    exact hj_27 (0 : Int32) h
  have hj_22 : (Ok (f8_isParagraph_j22 a0 l1 σ) Qf → J X K 2 False QQ 0 0 2017 (jw K σ) 22 [] []) := by
    intro h
    unfold f8_isParagraph_j22 at h
    refine J_iconst (v := 1) C (by decide) dX8_isParagraph_22 rfl ?_
    refine J_goto (t := 27) C dX8_isParagraph_23 (by decide) ?_
    exact hj_27 (1 : Int32) h
  unfold f8_isParagraph at h
  refine J_aload_n (i := 0) (p := 0) C dX8_isParagraph_0 rfl rfl rfl ?_
  refine J_iload_n (i := 1) (p := 1) C dX8_isParagraph_1 rfl rfl rfl ?_
  refine Jc_cV (rest := []) (st9 := fun p_2 => [.int p_2]) C hR hX cv_RX8_59 h_a0 (Nat.le_of_ble_eq_true rfl) (k8_isBlankLine hl h_a0 (Ok.ofbnd h)) rfl rfl (Nat.le_of_ble_eq_true rfl) (Nat.le_of_ble_eq_true rfl) (Nat.le_of_ble_eq_true rfl) ⟨(Nat.le_of_ble_eq_true rfl), (Nat.le_of_ble_eq_true rfl)⟩ dX8_isParagraph_2 rfl (fun E n9 w9 hx => JT_n hx) (fun _ => rfl) (fun p_2 h => ?_)
  have h : Ok _ _ := h
  change J X K 2 False QQ 0 0 2017 (jw K σ) 5 [(0, .ref (K.2.2 + a0)), (1, .int l1)] [.int p_2]
  refine J_if_ne (t := 26) C dX8_isParagraph_5 (by decide) rfl (fun c_3 => ?_) (fun c_3 => ?_)
  · have h := h.neg c_3
    refine J.sub [] rfl ?_
    exact hj_26  h
  · have h := h.pos (Decidable.not_not.mp c_3)
    refine J_iload_n (i := 1) (p := 1) C dX8_isParagraph_8 rfl rfl rfl ?_
    refine J_if_eq (t := 22) C dX8_isParagraph_9 (by decide) rfl (fun c_4 => ?_) (fun c_4 => ?_)
    · have h := h.pos c_4
      refine J.sub [] rfl ?_
      exact hj_22  h
    · have h := h.neg c_4
      refine J_aload_n (i := 0) (p := 0) C dX8_isParagraph_12 rfl rfl rfl ?_
      refine J_iload_n (i := 1) (p := 1) C dX8_isParagraph_13 rfl rfl rfl ?_
      refine J_iconst (v := 1) C (by decide) dX8_isParagraph_14 rfl ?_
      refine J_isub C dX8_isParagraph_15 rfl ?_
      refine Jc_cV (rest := []) (st9 := fun p_5 => [.int p_5]) C hR hX cv_RX8_59 h_a0 (Nat.le_of_ble_eq_true rfl) (k8_isBlankLine hl h_a0 (Ok.ofbnd h)) rfl rfl (Nat.le_of_ble_eq_true rfl) (Nat.le_of_ble_eq_true rfl) (Nat.le_of_ble_eq_true rfl) ⟨(Nat.le_of_ble_eq_true rfl), (Nat.le_of_ble_eq_true rfl)⟩ dX8_isParagraph_16 rfl (fun E n9 w9 hx => JT_n hx) (fun _ => rfl) (fun p_5 h => ?_)
      have h : Ok _ _ := h
      change J X K 2 False QQ 0 0 2017 (jw K σ) 19 [(0, .ref (K.2.2 + a0)), (1, .int l1)] [.int p_5]
      refine J_if_eq (t := 26) C dX8_isParagraph_19 (by decide) rfl (fun c_6 => ?_) (fun c_6 => ?_)
      · have h := h.pos c_6
        refine J.sub [] rfl ?_
        exact hj_26  h
      · have h := h.neg c_6
        refine J.sub [] rfl ?_
        exact hj_22  h
def f10_paragraphBack_j40 (a0 : Nat) (l1 : Int32) (l2 : Int32) (σ : Sto) (l4_40 : Int32) (s0_40 : Int32) (s1_40 : Int32) : Option ((Int32 × Int32) ⊕ (Unit ⊕ Int32)) :=
  stp (s0_40 - s1_40) fun x3_1 =>
  if x3_1 = 0 then
    some (.inr (Sum.inr l4_40))
  else
    stp (l4_40 + (-1 : Int32)) fun x4_2 =>
    some (.inl (x3_1, x4_2))
def f10_paragraphBack_j39 (a0 : Nat) (l1 : Int32) (l2 : Int32) (σ : Sto) (l4_39 : Int32) (s0_39 : Int32) : Option ((Int32 × Int32) ⊕ (Unit ⊕ Int32)) :=
  f10_paragraphBack_j40 a0 l1 l2 σ l4_39 s0_39 (0 : Int32)
def f10_paragraphBack_b9 (a0 : Nat) (l1 : Int32) (l2 : Int32) (σ : Sto) (l3_9 : Int32) (l4_9 : Int32) : Option ((Int32 × Int32) ⊕ (Unit ⊕ Int32)) :=
  if l4_9 < 0 then
    some (.inr (Sum.inl ()))
  else
    gd (okr (fR σ a0 2) 12) <|
    gd (inb l4_9 (ln ((fR σ a0 2) - 1))) <|
    if l1 ≤ (aI σ ((fR σ a0 2) - 1) (Int32.toNatClampNeg l4_9)) then
      f10_paragraphBack_j39 a0 l1 l2 σ l4_9 l3_9
    else
      bnd (f8_isParagraph σ a0 l4_9) fun p_8 =>
      if p_8 = 0 then
        f10_paragraphBack_j39 a0 l1 l2 σ l4_9 l3_9
      else
        f10_paragraphBack_j40 a0 l1 l2 σ l4_9 l3_9 (1 : Int32)
def f10_paragraphBack_j9 (a0 : Nat) (l1 : Int32) (l2 : Int32) (σ : Sto) (l3_9 : Int32) (l4_9 : Int32) : Option (Int32) :=
  bnd (loopF (fun s_9 => f10_paragraphBack_b9 a0 l1 l2 σ s_9.1 s_9.2) FU (l3_9, l4_9)) fun r_9 =>
    match r_9 with
    | .inl r_9x =>
      some (0 : Int32)
    | .inr r_9y =>
      gd (okr (fR σ a0 2) 12) <|
      gd (inb r_9y (ln ((fR σ a0 2) - 1))) <|
      some (aI σ ((fR σ a0 2) - 1) (Int32.toNatClampNeg r_9y))
def f10_paragraphBack (σ : Sto) (a0 : Nat) (l1 : Int32) (l2 : Int32) : Option (Int32) :=
  stp l2 fun x3_3 =>
  bnd (f8_lineWith σ a0 l1) fun p_12 =>
  stp p_12 fun x4_4 =>
  f10_paragraphBack_j9 a0 l1 l2 σ x3_3 x4_4
set_option maxHeartbeats 4000000 in
set_option maxRecDepth 100000 in
theorem k10_paragraphBack {l : Launch} {K : JK} (hl : l.stackTraces = false) {σ : Sto} {a0 : Nat} {l1 : Int32} {l2 : Int32} (h_a0 : kc a0 = 8) {Qf : Int32 → Prop} (h : Ok (f10_paragraphBack σ a0 l1 l2) Qf) : Con l K yX10_paragraphBack (.code yX10_paragraphBack cX10_paragraphBack 5 (some .int) :: TB) 2 0 0 False [.ref (K.2.2 + a0), .int l1, .int l2] 2017 (jw K σ) (PR Qf (fun p => some (.int p)) (fun p => jw K σ)) PN := by
  refine Con.enter (own := RX10) hl (by decide) rfl (Nat.le_of_ble_eq_true rfl) ?_
  intro X hX hR C hret hnt
  generalize hQQ : jQ X K 0 0 (PR Qf (fun p => some (.int p)) (fun p => jw K σ)) PN False = QQ
  change J X K 5 False QQ 0 0 2017 (jw K σ) 0 [(0, .ref (K.2.2 + a0)), (1, .int l1), (2, .int l2)] []
  have hj_9 : (∀ (l3_9 : Int32) (l4_9 : Int32), Ok (f10_paragraphBack_j9 a0 l1 l2 σ l3_9 l4_9) Qf → J X K 5 False QQ 0 0 2017 (jw K σ) 9 [(0, .ref (K.2.2 + a0)), (1, .int l1), (3, .int l3_9), (4, .int l4_9)] []) := by
    intro l3_9 l4_9 h
    unfold f10_paragraphBack_j9 at h
    refine loop_gen (S := Int32 × Int32) (P := fun s_9 => J X K 5 False QQ 0 0 2017 (jw K σ) 9 [(0, .ref (K.2.2 + a0)), (1, .int l1), (3, .int s_9.1), (4, .int s_9.2)] []) ?_ FU (l3_9, l4_9) (Ok.ofbnd h)
    intro B_9 hB_9 hE_9 s_9 h
    obtain ⟨l3_9, l4_9⟩ := s_9
    have h : Ok (f10_paragraphBack_b9 a0 l1 l2 σ l3_9 l4_9) B_9 := h
    change J X K 5 False QQ 0 0 2017 (jw K σ) 9 [(0, .ref (K.2.2 + a0)), (1, .int l1), (3, .int l3_9), (4, .int l4_9)] []
    have hj_40 : (∀ (l4_40 : Int32) (s0_40 : Int32) (s1_40 : Int32), Ok (f10_paragraphBack_j40 a0 l1 l2 σ l4_40 s0_40 s1_40) B_9 → J X K 5 False QQ 0 0 2017 (jw K σ) 40 [(0, .ref (K.2.2 + a0)), (1, .int l1), (4, .int l4_40)] [.int s1_40, .int s0_40]) := by
      intro l4_40 s0_40 s1_40 h
      unfold f10_paragraphBack_j40 at h
      refine J_isub C dX10_paragraphBack_40 rfl ?_
      obtain ⟨x3_1, e_x3_1, h⟩ := Ok.nm h
      refine J_istoreE_n (i := 3) (lv' := [(3, .int x3_1), (0, .ref (K.2.2 + a0)), (1, .int l1), (4, .int l4_40)]) C e_x3_1 dX10_paragraphBack_41 rfl (Nat.le_of_ble_eq_true rfl) rfl rfl ?_
      refine J_iload_n (i := 3) (p := 0) C dX10_paragraphBack_42 rfl rfl rfl ?_
      refine J_if_ne (t := 54) C dX10_paragraphBack_43 (by decide) rfl (fun c_1 => ?_) (fun c_1 => ?_)
      · have h := h.neg c_1
        obtain ⟨x4_2, e_x4_2, h⟩ := Ok.nm h
        refine J_iincE (i := 4) (p := 3) (lv' := [(4, .int x4_2), (3, .int x3_1), (0, .ref (K.2.2 + a0)), (1, .int l1)]) C e_x4_2 dX10_paragraphBack_54 rfl (by decide) (Nat.le_of_ble_eq_true rfl) rfl rfl ?_
        refine J_goto (t := 9) C dX10_paragraphBack_57 (by decide) ?_
        refine J.sub [2, 3, 1, 0] rfl ?_
        exact hB_9 (x3_1, x4_2) h.osome
      · have h := h.pos (Decidable.not_not.mp c_1)
        have h := hE_9 (Sum.inr l4_40) h.osome
        try dsimp only at h
        refine J_aload_n (i := 0) (p := 1) C dX10_paragraphBack_46 rfl rfl rfl ?_
        refine Jc_getD C fp_RX10_59 h_a0 rfl dX10_paragraphBack_47 rfl ?_
        refine J_iload (i := 4) (p := 3) C dX10_paragraphBack_50 rfl rfl ?_
        obtain ⟨g_2, h⟩ := Ok.ofgd h
        rw [jv_pos (r := fR σ a0 2) (okr_spec g_2).1]
        obtain ⟨g_3, h⟩ := Ok.ofgd h
        refine Jc_iald C (okr_spec g_2).2 rfl g_3 dX10_paragraphBack_52 rfl ?_
        rw [← hQQ]
        exact J_iret C hret (Nat.le_of_ble_eq_true rfl) (Nat.le_of_ble_eq_true rfl) ⟨_, h.osome, rfl, rfl, rfl⟩ dX10_paragraphBack_53
    have hj_39 : (∀ (l4_39 : Int32) (s0_39 : Int32), Ok (f10_paragraphBack_j39 a0 l1 l2 σ l4_39 s0_39) B_9 → J X K 5 False QQ 0 0 2017 (jw K σ) 39 [(0, .ref (K.2.2 + a0)), (1, .int l1), (4, .int l4_39)] [.int s0_39]) := by
      intro l4_39 s0_39 h
      unfold f10_paragraphBack_j39 at h
      refine J_iconst (v := 0) C (by decide) dX10_paragraphBack_39 rfl ?_
      exact hj_40 l4_39 s0_39 (0 : Int32) h
    unfold f10_paragraphBack_b9 at h
    refine J_iload (i := 4) (p := 3) C dX10_paragraphBack_9 rfl rfl ?_
    refine J_if_lt (t := 60) C dX10_paragraphBack_11 (by decide) rfl (fun c_4 => ?_) (fun c_4 => ?_)
    · have h := h.pos c_4
      have h := hE_9 (Sum.inl ()) h.osome
      try dsimp only at h
      refine J_iconst (v := 0) C (by decide) dX10_paragraphBack_60 rfl ?_
      rw [← hQQ]
      exact J_iret C hret (Nat.le_of_ble_eq_true rfl) (Nat.le_of_ble_eq_true rfl) ⟨_, h.osome, rfl, rfl, rfl⟩ dX10_paragraphBack_61
    · have h := h.neg c_4
      refine J_iload_n (i := 3) (p := 2) C dX10_paragraphBack_14 rfl rfl rfl ?_
      refine J_aload_n (i := 0) (p := 0) C dX10_paragraphBack_15 rfl rfl rfl ?_
      refine Jc_getD C fp_RX10_59 h_a0 rfl dX10_paragraphBack_16 rfl ?_
      refine J_iload (i := 4) (p := 3) C dX10_paragraphBack_19 rfl rfl ?_
      obtain ⟨g_5, h⟩ := Ok.ofgd h
      rw [jv_pos (r := fR σ a0 2) (okr_spec g_5).1]
      obtain ⟨g_6, h⟩ := Ok.ofgd h
      refine Jc_iald C (okr_spec g_5).2 rfl g_6 dX10_paragraphBack_21 rfl ?_
      refine J_iload_n (i := 1) (p := 1) C dX10_paragraphBack_22 rfl rfl rfl ?_
      refine J_icmp_ge (t := 39) C dX10_paragraphBack_23 (by decide) rfl (fun c_7 => ?_) (fun c_7 => ?_)
      · have h := h.pos c_7
        refine J.sub [0, 1, 3] rfl ?_
        exact hj_39 l4_9 l3_9 h
      · have h := h.neg c_7
        refine J_aload_n (i := 0) (p := 0) C dX10_paragraphBack_26 rfl rfl rfl ?_
        refine J_iload (i := 4) (p := 3) C dX10_paragraphBack_27 rfl rfl ?_
        refine Jc_cV (rest := [.int l3_9]) (st9 := fun p_8 => [.int p_8, .int l3_9]) C hR hX cv_RX10_56 h_a0 (Nat.le_of_ble_eq_true rfl) (k8_isParagraph hl h_a0 (Ok.ofbnd h)) rfl rfl (Nat.le_of_ble_eq_true rfl) (Nat.le_of_ble_eq_true rfl) (Nat.le_of_ble_eq_true rfl) ⟨(Nat.le_of_ble_eq_true rfl), (Nat.le_of_ble_eq_true rfl)⟩ dX10_paragraphBack_29 rfl (fun E n9 w9 hx => JT_n hx) (fun _ => rfl) (fun p_8 h => ?_)
        have h : Ok _ _ := h
        change J X K 5 False QQ 0 0 2017 (jw K σ) 32 [(0, .ref (K.2.2 + a0)), (1, .int l1), (3, .int l3_9), (4, .int l4_9)] [.int p_8, .int l3_9]
        refine J_if_eq (t := 39) C dX10_paragraphBack_32 (by decide) rfl (fun c_9 => ?_) (fun c_9 => ?_)
        · have h := h.pos c_9
          refine J.sub [0, 1, 3] rfl ?_
          exact hj_39 l4_9 l3_9 h
        · have h := h.neg c_9
          refine J_iconst (v := 1) C (by decide) dX10_paragraphBack_35 rfl ?_
          refine J_goto (t := 40) C dX10_paragraphBack_36 (by decide) ?_
          refine J.sub [0, 1, 3] rfl ?_
          exact hj_40 l4_9 l3_9 (1 : Int32) h
  unfold f10_paragraphBack at h
  refine J_iload_n (i := 2) (p := 2) C dX10_paragraphBack_0 rfl rfl rfl ?_
  obtain ⟨x3_3, e_x3_3, h⟩ := Ok.nm h
  refine J_istoreE_n (i := 3) (lv' := [(3, .int x3_3), (0, .ref (K.2.2 + a0)), (1, .int l1), (2, .int l2)]) C e_x3_3 dX10_paragraphBack_1 rfl (Nat.le_of_ble_eq_true rfl) rfl rfl ?_
  refine J_aload_n (i := 0) (p := 1) C dX10_paragraphBack_2 rfl rfl rfl ?_
  refine J_iload_n (i := 1) (p := 2) C dX10_paragraphBack_3 rfl rfl rfl ?_
  refine Jc_cV (rest := []) (st9 := fun p_12 => [.int p_12]) C hR hX cv_RX10_13 h_a0 (Nat.le_of_ble_eq_true rfl) (k8_lineWith hl h_a0 (Ok.ofbnd h)) rfl rfl (Nat.le_of_ble_eq_true rfl) (Nat.le_of_ble_eq_true rfl) (Nat.le_of_ble_eq_true rfl) ⟨(Nat.le_of_ble_eq_true rfl), (Nat.le_of_ble_eq_true rfl)⟩ dX10_paragraphBack_4 rfl (fun E n9 w9 hx => JT_n hx) (fun _ => rfl) (fun p_12 h => ?_)
  have h : Ok _ _ := h
  change J X K 5 False QQ 0 0 2017 (jw K σ) 7 [(3, .int x3_3), (0, .ref (K.2.2 + a0)), (1, .int l1), (2, .int l2)] [.int p_12]
  obtain ⟨x4_4, e_x4_4, h⟩ := Ok.nm h
  refine J_istoreE (i := 4) (lv' := [(4, .int x4_4), (3, .int x3_3), (0, .ref (K.2.2 + a0)), (1, .int l1), (2, .int l2)]) C e_x4_4 dX10_paragraphBack_7 (Nat.le_of_ble_eq_true rfl) rfl rfl ?_
  refine J.sub [2, 3, 1, 0] rfl ?_
  exact hj_9 x3_3 x4_4 h
def f10_paragraphForward_j35 (a0 : Nat) (l1 : Int32) (l2 : Int32) (σ : Sto) (l4_35 : Int32) (s0_35 : Int32) (s1_35 : Int32) : Option ((Int32 × Int32) ⊕ (Unit ⊕ Int32)) :=
  stp (s0_35 - s1_35) fun x3_1 =>
  if x3_1 = 0 then
    some (.inr (Sum.inr l4_35))
  else
    stp (l4_35 + (1 : Int32)) fun x4_2 =>
    some (.inl (x3_1, x4_2))
def f10_paragraphForward_b11 (a0 : Nat) (l1 : Int32) (l2 : Int32) (σ : Sto) (l3_11 : Int32) (l4_11 : Int32) : Option ((Int32 × Int32) ⊕ (Unit ⊕ Int32)) :=
  if (fI σ a0 4) ≤ l4_11 then
    some (.inr (Sum.inl ()))
  else
    bnd (f8_isParagraph σ a0 l4_11) fun p_5 =>
    if p_5 = 0 then
      f10_paragraphForward_j35 a0 l1 l2 σ l4_11 l3_11 (0 : Int32)
    else
      f10_paragraphForward_j35 a0 l1 l2 σ l4_11 l3_11 (1 : Int32)
def f10_paragraphForward_j11 (a0 : Nat) (l1 : Int32) (l2 : Int32) (σ : Sto) (l3_11 : Int32) (l4_11 : Int32) : Option (Int32) :=
  bnd (loopF (fun s_11 => f10_paragraphForward_b11 a0 l1 l2 σ s_11.1 s_11.2) FU (l3_11, l4_11)) fun r_11 =>
    match r_11 with
    | .inl r_11x =>
      some (fI σ a0 1)
    | .inr r_11y =>
      gd (okr (fR σ a0 2) 12) <|
      gd (inb r_11y (ln ((fR σ a0 2) - 1))) <|
      some (aI σ ((fR σ a0 2) - 1) (Int32.toNatClampNeg r_11y))
def f10_paragraphForward (σ : Sto) (a0 : Nat) (l1 : Int32) (l2 : Int32) : Option (Int32) :=
  stp l2 fun x3_3 =>
  bnd (f8_lineWith σ a0 l1) fun p_9 =>
  stp (p_9 + (1 : Int32)) fun x4_4 =>
  f10_paragraphForward_j11 a0 l1 l2 σ x3_3 x4_4
set_option maxHeartbeats 4000000 in
set_option maxRecDepth 100000 in
theorem k10_paragraphForward {l : Launch} {K : JK} (hl : l.stackTraces = false) {σ : Sto} {a0 : Nat} {l1 : Int32} {l2 : Int32} (h_a0 : kc a0 = 8) {Qf : Int32 → Prop} (h : Ok (f10_paragraphForward σ a0 l1 l2) Qf) : Con l K yX10_paragraphForward (.code yX10_paragraphForward cX10_paragraphForward 5 (some .int) :: TB) 2 0 0 False [.ref (K.2.2 + a0), .int l1, .int l2] 2017 (jw K σ) (PR Qf (fun p => some (.int p)) (fun p => jw K σ)) PN := by
  refine Con.enter (own := RX10) hl (by decide) rfl (Nat.le_of_ble_eq_true rfl) ?_
  intro X hX hR C hret hnt
  generalize hQQ : jQ X K 0 0 (PR Qf (fun p => some (.int p)) (fun p => jw K σ)) PN False = QQ
  change J X K 5 False QQ 0 0 2017 (jw K σ) 0 [(0, .ref (K.2.2 + a0)), (1, .int l1), (2, .int l2)] []
  have hj_11 : (∀ (l3_11 : Int32) (l4_11 : Int32), Ok (f10_paragraphForward_j11 a0 l1 l2 σ l3_11 l4_11) Qf → J X K 5 False QQ 0 0 2017 (jw K σ) 11 [(0, .ref (K.2.2 + a0)), (3, .int l3_11), (4, .int l4_11)] []) := by
    intro l3_11 l4_11 h
    unfold f10_paragraphForward_j11 at h
    refine loop_gen (S := Int32 × Int32) (P := fun s_11 => J X K 5 False QQ 0 0 2017 (jw K σ) 11 [(0, .ref (K.2.2 + a0)), (3, .int s_11.1), (4, .int s_11.2)] []) ?_ FU (l3_11, l4_11) (Ok.ofbnd h)
    intro B_11 hB_11 hE_11 s_11 h
    obtain ⟨l3_11, l4_11⟩ := s_11
    have h : Ok (f10_paragraphForward_b11 a0 l1 l2 σ l3_11 l4_11) B_11 := h
    change J X K 5 False QQ 0 0 2017 (jw K σ) 11 [(0, .ref (K.2.2 + a0)), (3, .int l3_11), (4, .int l4_11)] []
    have hj_35 : (∀ (l4_35 : Int32) (s0_35 : Int32) (s1_35 : Int32), Ok (f10_paragraphForward_j35 a0 l1 l2 σ l4_35 s0_35 s1_35) B_11 → J X K 5 False QQ 0 0 2017 (jw K σ) 35 [(0, .ref (K.2.2 + a0)), (4, .int l4_35)] [.int s1_35, .int s0_35]) := by
      intro l4_35 s0_35 s1_35 h
      unfold f10_paragraphForward_j35 at h
      refine J_isub C dX10_paragraphForward_35 rfl ?_
      obtain ⟨x3_1, e_x3_1, h⟩ := Ok.nm h
      refine J_istoreE_n (i := 3) (lv' := [(3, .int x3_1), (0, .ref (K.2.2 + a0)), (4, .int l4_35)]) C e_x3_1 dX10_paragraphForward_36 rfl (Nat.le_of_ble_eq_true rfl) rfl rfl ?_
      refine J_iload_n (i := 3) (p := 0) C dX10_paragraphForward_37 rfl rfl rfl ?_
      refine J_if_ne (t := 49) C dX10_paragraphForward_38 (by decide) rfl (fun c_1 => ?_) (fun c_1 => ?_)
      · have h := h.neg c_1
        obtain ⟨x4_2, e_x4_2, h⟩ := Ok.nm h
        refine J_iincE (i := 4) (p := 2) (lv' := [(4, .int x4_2), (3, .int x3_1), (0, .ref (K.2.2 + a0))]) C e_x4_2 dX10_paragraphForward_49 rfl (by decide) (Nat.le_of_ble_eq_true rfl) rfl rfl ?_
        refine J_goto (t := 11) C dX10_paragraphForward_52 (by decide) ?_
        refine J.sub [2, 1, 0] rfl ?_
        exact hB_11 (x3_1, x4_2) h.osome
      · have h := h.pos (Decidable.not_not.mp c_1)
        have h := hE_11 (Sum.inr l4_35) h.osome
        try dsimp only at h
        refine J_aload_n (i := 0) (p := 1) C dX10_paragraphForward_41 rfl rfl rfl ?_
        refine Jc_getD C fp_RX10_59 h_a0 rfl dX10_paragraphForward_42 rfl ?_
        refine J_iload (i := 4) (p := 2) C dX10_paragraphForward_45 rfl rfl ?_
        obtain ⟨g_2, h⟩ := Ok.ofgd h
        rw [jv_pos (r := fR σ a0 2) (okr_spec g_2).1]
        obtain ⟨g_3, h⟩ := Ok.ofgd h
        refine Jc_iald C (okr_spec g_2).2 rfl g_3 dX10_paragraphForward_47 rfl ?_
        rw [← hQQ]
        exact J_iret C hret (Nat.le_of_ble_eq_true rfl) (Nat.le_of_ble_eq_true rfl) ⟨_, h.osome, rfl, rfl, rfl⟩ dX10_paragraphForward_48
    unfold f10_paragraphForward_b11 at h
    refine J_iload (i := 4) (p := 2) C dX10_paragraphForward_11 rfl rfl ?_
    refine J_aload_n (i := 0) (p := 0) C dX10_paragraphForward_13 rfl rfl rfl ?_
    refine Jc_getI C fp_RX10_18 h_a0 rfl dX10_paragraphForward_14 rfl ?_
    refine J_icmp_ge (t := 55) C dX10_paragraphForward_17 (by decide) rfl (fun c_4 => ?_) (fun c_4 => ?_)
    · have h := h.pos c_4
      have h := hE_11 (Sum.inl ()) h.osome
      try dsimp only at h
      refine J_aload_n (i := 0) (p := 0) C dX10_paragraphForward_55 rfl rfl rfl ?_
      refine Jc_getI C fp_RX10_43 h_a0 rfl dX10_paragraphForward_56 rfl ?_
      rw [← hQQ]
      exact J_iret C hret (Nat.le_of_ble_eq_true rfl) (Nat.le_of_ble_eq_true rfl) ⟨_, h.osome, rfl, rfl, rfl⟩ dX10_paragraphForward_59
    · have h := h.neg c_4
      refine J_iload_n (i := 3) (p := 1) C dX10_paragraphForward_20 rfl rfl rfl ?_
      refine J_aload_n (i := 0) (p := 0) C dX10_paragraphForward_21 rfl rfl rfl ?_
      refine J_iload (i := 4) (p := 2) C dX10_paragraphForward_22 rfl rfl ?_
      refine Jc_cV (rest := [.int l3_11]) (st9 := fun p_5 => [.int p_5, .int l3_11]) C hR hX cv_RX10_56 h_a0 (Nat.le_of_ble_eq_true rfl) (k8_isParagraph hl h_a0 (Ok.ofbnd h)) rfl rfl (Nat.le_of_ble_eq_true rfl) (Nat.le_of_ble_eq_true rfl) (Nat.le_of_ble_eq_true rfl) ⟨(Nat.le_of_ble_eq_true rfl), (Nat.le_of_ble_eq_true rfl)⟩ dX10_paragraphForward_24 rfl (fun E n9 w9 hx => JT_n hx) (fun _ => rfl) (fun p_5 h => ?_)
      have h : Ok _ _ := h
      change J X K 5 False QQ 0 0 2017 (jw K σ) 27 [(0, .ref (K.2.2 + a0)), (3, .int l3_11), (4, .int l4_11)] [.int p_5, .int l3_11]
      refine J_if_eq (t := 34) C dX10_paragraphForward_27 (by decide) rfl (fun c_6 => ?_) (fun c_6 => ?_)
      · have h := h.pos c_6
        refine J_iconst (v := 0) C (by decide) dX10_paragraphForward_34 rfl ?_
        refine J.sub [0, 2] rfl ?_
        exact hj_35 l4_11 l3_11 (0 : Int32) h
      · have h := h.neg c_6
        refine J_iconst (v := 1) C (by decide) dX10_paragraphForward_30 rfl ?_
        refine J_goto (t := 35) C dX10_paragraphForward_31 (by decide) ?_
        refine J.sub [0, 2] rfl ?_
        exact hj_35 l4_11 l3_11 (1 : Int32) h
  unfold f10_paragraphForward at h
  refine J_iload_n (i := 2) (p := 2) C dX10_paragraphForward_0 rfl rfl rfl ?_
  obtain ⟨x3_3, e_x3_3, h⟩ := Ok.nm h
  refine J_istoreE_n (i := 3) (lv' := [(3, .int x3_3), (0, .ref (K.2.2 + a0)), (1, .int l1), (2, .int l2)]) C e_x3_3 dX10_paragraphForward_1 rfl (Nat.le_of_ble_eq_true rfl) rfl rfl ?_
  refine J_aload_n (i := 0) (p := 1) C dX10_paragraphForward_2 rfl rfl rfl ?_
  refine J_iload_n (i := 1) (p := 2) C dX10_paragraphForward_3 rfl rfl rfl ?_
  refine Jc_cV (rest := []) (st9 := fun p_9 => [.int p_9]) C hR hX cv_RX10_13 h_a0 (Nat.le_of_ble_eq_true rfl) (k8_lineWith hl h_a0 (Ok.ofbnd h)) rfl rfl (Nat.le_of_ble_eq_true rfl) (Nat.le_of_ble_eq_true rfl) (Nat.le_of_ble_eq_true rfl) ⟨(Nat.le_of_ble_eq_true rfl), (Nat.le_of_ble_eq_true rfl)⟩ dX10_paragraphForward_4 rfl (fun E n9 w9 hx => JT_n hx) (fun _ => rfl) (fun p_9 h => ?_)
  have h : Ok _ _ := h
  change J X K 5 False QQ 0 0 2017 (jw K σ) 7 [(3, .int x3_3), (0, .ref (K.2.2 + a0)), (1, .int l1), (2, .int l2)] [.int p_9]
  refine J_iconst (v := 1) C (by decide) dX10_paragraphForward_7 rfl ?_
  refine J_iadd C dX10_paragraphForward_8 rfl ?_
  obtain ⟨x4_4, e_x4_4, h⟩ := Ok.nm h
  refine J_istoreE (i := 4) (lv' := [(4, .int x4_4), (3, .int x3_3), (0, .ref (K.2.2 + a0)), (1, .int l1), (2, .int l2)]) C e_x4_4 dX10_paragraphForward_9 (Nat.le_of_ble_eq_true rfl) rfl rfl ?_
  refine J.sub [2, 1, 0] rfl ?_
  exact hj_11 x3_3 x4_4 h
def f11_movedPlace_j141 (l1 : Int32) (l2 : Int32) (l3 : Int32) (σ : Sto) (s0_141 : Int32) : Option (Int32) :=
  some s0_141
def f11_movedPlace_j114 (l1 : Int32) (l2 : Int32) (l3 : Int32) (σ : Sto) (s0_114 : Int32) : Option (Int32) :=
  some s0_114
def f11_movedPlace (σ : Sto) (l1 : Int32) (l2 : Int32) (l3 : Int32) : Option (Int32) :=
  if l3 = 0 then
    some l1
  else
    if Int32.toInt l2 = 0 then
      some (imax (0 : Int32) (imin (fI σ 1 1) (l1 + l3)))
    else if Int32.toInt l2 = 1 then
      bnd (f10_overLines σ 1 l1 l3 (fI σ 0 10)) fun p_4 =>
      some p_4
    else if Int32.toInt l2 = 2 then
      bnd (f10_overWords σ 1 l1 l3) fun p_6 =>
      some p_6
    else if Int32.toInt l2 = 3 then
      bnd (f8_lineWith σ 1 l1) fun p_8 =>
      stp p_8 fun x4_1 =>
      if 0 ≤ l3 then
        bnd (f8_endOf σ 1 x4_1) fun p_10 =>
        f11_movedPlace_j114 l1 l2 l3 σ p_10
      else
        gd (okr (fR σ 1 2) 12) <|
        gd (inb x4_1 (ln ((fR σ 1 2) - 1))) <|
        f11_movedPlace_j114 l1 l2 l3 σ (aI σ ((fR σ 1 2) - 1) (Int32.toNatClampNeg x4_1))
    else
      if 0 ≤ l3 then
        bnd (f10_paragraphForward σ 1 l1 l3) fun p_14 =>
        f11_movedPlace_j141 l1 l2 l3 σ p_14
      else
        bnd (f10_paragraphBack σ 1 l1 (-l3)) fun p_15 =>
        f11_movedPlace_j141 l1 l2 l3 σ p_15
set_option maxHeartbeats 4000000 in
set_option maxRecDepth 100000 in
theorem k11_movedPlace {l : Launch} {K : JK} (hl : l.stackTraces = false) {σ : Sto} {l1 : Int32} {l2 : Int32} {l3 : Int32}  {Qf : Int32 → Prop} (h : Ok (f11_movedPlace σ l1 l2 l3) Qf) : Con l K yX11_movedPlace (.code yX11_movedPlace cX11_movedPlace 5 (some .int) :: TB) 3 0 0 False [.ref (K.2.2 + 0), .int l1, .int l2, .int l3] 2017 (jw K σ) (PR Qf (fun p => some (.int p)) (fun p => jw K σ)) PN := by
  refine Con.enter (own := RX11) hl (by decide) rfl (Nat.le_of_ble_eq_true rfl) ?_
  intro X hX hR C hret hnt
  generalize hQQ : jQ X K 0 0 (PR Qf (fun p => some (.int p)) (fun p => jw K σ)) PN False = QQ
  change J X K 5 False QQ 0 0 2017 (jw K σ) 0 [(0, .ref (K.2.2 + 0)), (1, .int l1), (2, .int l2), (3, .int l3)] []
  have hj_141 : (∀ (s0_141 : Int32), Ok (f11_movedPlace_j141 l1 l2 l3 σ s0_141) Qf → J X K 5 False QQ 0 0 2017 (jw K σ) 141 [] [.int s0_141]) := by
    intro s0_141 h
    unfold f11_movedPlace_j141 at h
    rw [← hQQ]
    exact J_iret C hret (Nat.le_of_ble_eq_true rfl) (Nat.le_of_ble_eq_true rfl) ⟨_, h.osome, rfl, rfl, rfl⟩ dX11_movedPlace_141
  have hj_114 : (∀ (s0_114 : Int32), Ok (f11_movedPlace_j114 l1 l2 l3 σ s0_114) Qf → J X K 5 False QQ 0 0 2017 (jw K σ) 114 [] [.int s0_114]) := by
    intro s0_114 h
    unfold f11_movedPlace_j114 at h
    rw [← hQQ]
    exact J_iret C hret (Nat.le_of_ble_eq_true rfl) (Nat.le_of_ble_eq_true rfl) ⟨_, h.osome, rfl, rfl, rfl⟩ dX11_movedPlace_114
  unfold f11_movedPlace at h
  refine J_iload_n (i := 3) (p := 3) C dX11_movedPlace_0 rfl rfl rfl ?_
  refine J_if_ne (t := 6) C dX11_movedPlace_1 (by decide) rfl (fun c_1 => ?_) (fun c_1 => ?_)
  · have h := h.neg c_1
    refine J_iload_n (i := 2) (p := 2) C dX11_movedPlace_6 rfl rfl rfl ?_
    by_cases c_2 : Int32.toInt l2 = 0
    · have h := h.pos c_2
      refine J_tab (t := 36) C 0 c_2 dX11_movedPlace_7 (by decide) (by decide) rfl (by decide) ?_
      refine J_iconst (v := 0) C (by decide) dX11_movedPlace_36 rfl ?_
      refine J_aload_n (i := 0) (p := 0) C dX11_movedPlace_37 rfl rfl rfl ?_
      refine Jc_getS (o2 := 1) (r2 := 1) C fp_RX11_10 rfl rfl rfl dX11_movedPlace_38 rfl ?_
      refine Jc_getI C fp_RX11_144 rfl rfl dX11_movedPlace_41 rfl ?_
      refine J_iload_n (i := 1) (p := 1) C dX11_movedPlace_44 rfl rfl rfl ?_
      refine J_iload_n (i := 3) (p := 3) C dX11_movedPlace_45 rfl rfl rfl ?_
      refine J_iadd C dX11_movedPlace_46 rfl ?_
      refine J_mmin C hR mm_RX11_341 (Nat.le_of_ble_eq_true rfl) (Nat.le_of_ble_eq_true rfl) (Nat.le_of_ble_eq_true rfl) (Nat.le_of_ble_eq_true rfl) dX11_movedPlace_47 rfl ?_
      refine J_mmax C hR mm_RX11_167 (Nat.le_of_ble_eq_true rfl) (Nat.le_of_ble_eq_true rfl) (Nat.le_of_ble_eq_true rfl) (Nat.le_of_ble_eq_true rfl) dX11_movedPlace_50 rfl ?_
      rw [← hQQ]
      exact J_iret C hret (Nat.le_of_ble_eq_true rfl) (Nat.le_of_ble_eq_true rfl) ⟨_, h.osome, rfl, rfl, rfl⟩ dX11_movedPlace_53
    · have h := h.neg c_2
      by_cases c_4 : Int32.toInt l2 = 1
      · have h := h.pos c_4
        refine J_tab (t := 54) C 1 c_4 dX11_movedPlace_7 (by decide) (by decide) rfl (by decide) ?_
        refine J_aload_n (i := 0) (p := 0) C dX11_movedPlace_54 rfl rfl rfl ?_
        refine Jc_getS (o2 := 1) (r2 := 1) C fp_RX11_10 rfl rfl rfl dX11_movedPlace_55 rfl ?_
        refine J_iload_n (i := 1) (p := 1) C dX11_movedPlace_58 rfl rfl rfl ?_
        refine J_iload_n (i := 3) (p := 3) C dX11_movedPlace_59 rfl rfl rfl ?_
        refine J_aload_n (i := 0) (p := 0) C dX11_movedPlace_60 rfl rfl rfl ?_
        refine Jc_getI C fp_RX11_74 rfl rfl dX11_movedPlace_61 rfl ?_
        refine J_cS (rest := []) (st9 := fun p_4 => [.int p_4]) C hR hX cs_RX11_428 (k10_overLines hl rfl (Ok.ofbnd h)) rfl rfl (Nat.le_of_ble_eq_true rfl) (Nat.le_of_ble_eq_true rfl) (Nat.le_of_ble_eq_true rfl) ⟨(Nat.le_of_ble_eq_true rfl), (Nat.le_of_ble_eq_true rfl)⟩ dX11_movedPlace_64 rfl (fun E n9 w9 hx => JT_n hx) (fun _ => rfl) (fun p_4 h => ?_)
        have h : Ok _ _ := h
        change J X K 5 False QQ 0 0 2017 (jw K σ) 67 [(0, .ref (K.2.2 + 0)), (1, .int l1), (2, .int l2), (3, .int l3)] [.int p_4]
        rw [← hQQ]
        exact J_iret C hret (Nat.le_of_ble_eq_true rfl) (Nat.le_of_ble_eq_true rfl) ⟨_, h.osome, rfl, rfl, rfl⟩ dX11_movedPlace_67
      · have h := h.neg c_4
        by_cases c_6 : Int32.toInt l2 = 2
        · have h := h.pos c_6
          refine J_tab (t := 68) C 2 c_6 dX11_movedPlace_7 (by decide) (by decide) rfl (by decide) ?_
          refine J_aload_n (i := 0) (p := 0) C dX11_movedPlace_68 rfl rfl rfl ?_
          refine Jc_getS (o2 := 1) (r2 := 1) C fp_RX11_10 rfl rfl rfl dX11_movedPlace_69 rfl ?_
          refine J_iload_n (i := 1) (p := 1) C dX11_movedPlace_72 rfl rfl rfl ?_
          refine J_iload_n (i := 3) (p := 3) C dX11_movedPlace_73 rfl rfl rfl ?_
          refine J_cS (rest := []) (st9 := fun p_6 => [.int p_6]) C hR hX cs_RX11_434 (k10_overWords hl rfl (Ok.ofbnd h)) rfl rfl (Nat.le_of_ble_eq_true rfl) (Nat.le_of_ble_eq_true rfl) (Nat.le_of_ble_eq_true rfl) ⟨(Nat.le_of_ble_eq_true rfl), (Nat.le_of_ble_eq_true rfl)⟩ dX11_movedPlace_74 rfl (fun E n9 w9 hx => JT_n hx) (fun _ => rfl) (fun p_6 h => ?_)
          have h : Ok _ _ := h
          change J X K 5 False QQ 0 0 2017 (jw K σ) 77 [(0, .ref (K.2.2 + 0)), (1, .int l1), (2, .int l2), (3, .int l3)] [.int p_6]
          rw [← hQQ]
          exact J_iret C hret (Nat.le_of_ble_eq_true rfl) (Nat.le_of_ble_eq_true rfl) ⟨_, h.osome, rfl, rfl, rfl⟩ dX11_movedPlace_77
        · have h := h.neg c_6
          by_cases c_12 : Int32.toInt l2 = 3
          · have h := h.pos c_12
            refine J_tab (t := 78) C 3 c_12 dX11_movedPlace_7 (by decide) (by decide) rfl (by decide) ?_
            refine J_aload_n (i := 0) (p := 0) C dX11_movedPlace_78 rfl rfl rfl ?_
            refine Jc_getS (o2 := 1) (r2 := 1) C fp_RX11_10 rfl rfl rfl dX11_movedPlace_79 rfl ?_
            refine J_iload_n (i := 1) (p := 1) C dX11_movedPlace_82 rfl rfl rfl ?_
            refine Jc_cV (rest := []) (st9 := fun p_8 => [.int p_8]) C hR hX cv_RX11_365 rfl (Nat.le_of_ble_eq_true rfl) (k8_lineWith hl rfl (Ok.ofbnd h)) rfl rfl (Nat.le_of_ble_eq_true rfl) (Nat.le_of_ble_eq_true rfl) (Nat.le_of_ble_eq_true rfl) ⟨(Nat.le_of_ble_eq_true rfl), (Nat.le_of_ble_eq_true rfl)⟩ dX11_movedPlace_83 rfl (fun E n9 w9 hx => JT_n hx) (fun _ => rfl) (fun p_8 h => ?_)
            have h : Ok _ _ := h
            change J X K 5 False QQ 0 0 2017 (jw K σ) 86 [(0, .ref (K.2.2 + 0)), (1, .int l1), (2, .int l2), (3, .int l3)] [.int p_8]
            obtain ⟨x4_1, e_x4_1, h⟩ := Ok.nm h
            refine J_istoreE (i := 4) (lv' := [(4, .int x4_1), (0, .ref (K.2.2 + 0)), (1, .int l1), (2, .int l2), (3, .int l3)]) C e_x4_1 dX11_movedPlace_86 (Nat.le_of_ble_eq_true rfl) rfl rfl ?_
            refine J_iload_n (i := 3) (p := 4) C dX11_movedPlace_88 rfl rfl rfl ?_
            refine J_if_ge (t := 105) C dX11_movedPlace_89 (by decide) rfl (fun c_9 => ?_) (fun c_9 => ?_)
            · have h := h.pos c_9
              refine J_aload_n (i := 0) (p := 1) C dX11_movedPlace_105 rfl rfl rfl ?_
              refine Jc_getS (o2 := 1) (r2 := 1) C fp_RX11_10 rfl rfl rfl dX11_movedPlace_106 rfl ?_
              refine J_iload (i := 4) (p := 0) C dX11_movedPlace_109 rfl rfl ?_
              refine Jc_cV (rest := []) (st9 := fun p_10 => [.int p_10]) C hR hX cv_RX11_184 rfl (Nat.le_of_ble_eq_true rfl) (k8_endOf hl rfl (Ok.ofbnd h)) rfl rfl (Nat.le_of_ble_eq_true rfl) (Nat.le_of_ble_eq_true rfl) (Nat.le_of_ble_eq_true rfl) ⟨(Nat.le_of_ble_eq_true rfl), (Nat.le_of_ble_eq_true rfl)⟩ dX11_movedPlace_111 rfl (fun E n9 w9 hx => JT_n hx) (fun _ => rfl) (fun p_10 h => ?_)
              have h : Ok _ _ := h
              change J X K 5 False QQ 0 0 2017 (jw K σ) 114 [(4, .int x4_1), (0, .ref (K.2.2 + 0)), (1, .int l1), (2, .int l2), (3, .int l3)] [.int p_10]
              refine J.sub [] rfl ?_
              exact hj_114 p_10 h
            · have h := h.neg c_9
              refine J_aload_n (i := 0) (p := 1) C dX11_movedPlace_92 rfl rfl rfl ?_
              refine Jc_getS (o2 := 1) (r2 := 1) C fp_RX11_10 rfl rfl rfl dX11_movedPlace_93 rfl ?_
              refine Jc_getD C fp_RX11_188 rfl rfl dX11_movedPlace_96 rfl ?_
              refine J_iload (i := 4) (p := 0) C dX11_movedPlace_99 rfl rfl ?_
              obtain ⟨g_11, h⟩ := Ok.ofgd h
              rw [jv_pos (r := fR σ 1 2) (okr_spec g_11).1]
              obtain ⟨g_12, h⟩ := Ok.ofgd h
              refine Jc_iald C (okr_spec g_11).2 rfl g_12 dX11_movedPlace_101 rfl ?_
              refine J_goto (t := 114) C dX11_movedPlace_102 (by decide) ?_
              refine J.sub [] rfl ?_
              exact hj_114 (aI σ ((fR σ 1 2) - 1) (Int32.toNatClampNeg x4_1)) h
          · have h := h.neg c_12
            refine J_tabO (t := 115) C dX11_movedPlace_7 (by omega) (by decide) ?_
            refine J_iload_n (i := 3) (p := 3) C dX11_movedPlace_115 rfl rfl rfl ?_
            refine J_if_ge (t := 132) C dX11_movedPlace_116 (by decide) rfl (fun c_13 => ?_) (fun c_13 => ?_)
            · have h := h.pos c_13
              refine J_aload_n (i := 0) (p := 0) C dX11_movedPlace_132 rfl rfl rfl ?_
              refine Jc_getS (o2 := 1) (r2 := 1) C fp_RX11_10 rfl rfl rfl dX11_movedPlace_133 rfl ?_
              refine J_iload_n (i := 1) (p := 1) C dX11_movedPlace_136 rfl rfl rfl ?_
              refine J_iload_n (i := 3) (p := 3) C dX11_movedPlace_137 rfl rfl rfl ?_
              refine J_cS (rest := []) (st9 := fun p_14 => [.int p_14]) C hR hX cs_RX11_441 (k10_paragraphForward hl rfl (Ok.ofbnd h)) rfl rfl (Nat.le_of_ble_eq_true rfl) (Nat.le_of_ble_eq_true rfl) (Nat.le_of_ble_eq_true rfl) ⟨(Nat.le_of_ble_eq_true rfl), (Nat.le_of_ble_eq_true rfl)⟩ dX11_movedPlace_138 rfl (fun E n9 w9 hx => JT_n hx) (fun _ => rfl) (fun p_14 h => ?_)
              have h : Ok _ _ := h
              change J X K 5 False QQ 0 0 2017 (jw K σ) 141 [(0, .ref (K.2.2 + 0)), (1, .int l1), (2, .int l2), (3, .int l3)] [.int p_14]
              refine J.sub [] rfl ?_
              exact hj_141 p_14 h
            · have h := h.neg c_13
              refine J_aload_n (i := 0) (p := 0) C dX11_movedPlace_119 rfl rfl rfl ?_
              refine Jc_getS (o2 := 1) (r2 := 1) C fp_RX11_10 rfl rfl rfl dX11_movedPlace_120 rfl ?_
              refine J_iload_n (i := 1) (p := 1) C dX11_movedPlace_123 rfl rfl rfl ?_
              refine J_iload_n (i := 3) (p := 3) C dX11_movedPlace_124 rfl rfl rfl ?_
              refine J_ineg C dX11_movedPlace_125 rfl ?_
              refine J_cS (rest := []) (st9 := fun p_15 => [.int p_15]) C hR hX cs_RX11_438 (k10_paragraphBack hl rfl (Ok.ofbnd h)) rfl rfl (Nat.le_of_ble_eq_true rfl) (Nat.le_of_ble_eq_true rfl) (Nat.le_of_ble_eq_true rfl) ⟨(Nat.le_of_ble_eq_true rfl), (Nat.le_of_ble_eq_true rfl)⟩ dX11_movedPlace_126 rfl (fun E n9 w9 hx => JT_n hx) (fun _ => rfl) (fun p_15 h => ?_)
              have h : Ok _ _ := h
              change J X K 5 False QQ 0 0 2017 (jw K σ) 129 [(0, .ref (K.2.2 + 0)), (1, .int l1), (2, .int l2), (3, .int l3)] [.int p_15]
              refine J_goto (t := 141) C dX11_movedPlace_129 (by decide) ?_
              refine J.sub [] rfl ?_
              exact hj_141 p_15 h
  · have h := h.pos (Decidable.not_not.mp c_1)
    refine J_iload_n (i := 1) (p := 1) C dX11_movedPlace_4 rfl rfl rfl ?_
    rw [← hQQ]
    exact J_iret C hret (Nat.le_of_ble_eq_true rfl) (Nat.le_of_ble_eq_true rfl) ⟨_, h.osome, rfl, rfl, rfl⟩ dX11_movedPlace_5
def f11_moveAll_b2 (l1 : Int32) (l2 : Int32) (σ_2 : Sto) (l3_2 : Int32) : Option ((Sto × Int32) ⊕ Sto) :=
  if (fI σ_2 1 6) ≤ l3_2 then
    some (.inr σ_2)
  else
    gd (inb l3_2 8) <|
    bnd (f11_movedPlace σ_2 (aI σ_2 5 (Int32.toNatClampNeg l3_2)) l1 l2) fun p_4 =>
    gd (inb l3_2 8) <|
    stp (uA σ_2 5 (Int32.toNatClampNeg l3_2) p_4) fun σx_1 =>
    stp (l3_2 + (1 : Int32)) fun x3_2 =>
    some (.inl (σx_1, x3_2))
def f11_moveAll_j2 (l1 : Int32) (l2 : Int32) (σ_2 : Sto) (l3_2 : Int32) : Option (Sto) :=
  bnd (loopF (fun s_2 => f11_moveAll_b2 l1 l2 s_2.1 s_2.2) FU (σ_2, l3_2)) fun r_2 =>
    bnd (f8_settleCursors r_2 1) fun p_6 =>
    some p_6
def f11_moveAll (σ : Sto) (l1 : Int32) (l2 : Int32) : Option (Sto) :=
  stp (0 : Int32) fun x3_3 =>
  f11_moveAll_j2 l1 l2 σ x3_3
set_option maxHeartbeats 4000000 in
set_option maxRecDepth 100000 in
theorem k11_moveAll {l : Launch} {K : JK} (hl : l.stackTraces = false) {σ : Sto} {l1 : Int32} {l2 : Int32}  {Qf : Sto → Prop} (h : Ok (f11_moveAll σ l1 l2) Qf) : Con l K yX11_moveAll (.code yX11_moveAll cX11_moveAll 4 none :: TB) 4 0 0 False [.ref (K.2.2 + 0), .int l1, .int l2] 2017 (jw K σ) (PR Qf (fun p => none) (fun p => jw K p)) PN := by
  refine Con.enter (own := RX11) hl (by decide) rfl (Nat.le_of_ble_eq_true rfl) ?_
  intro X hX hR C hret hnt
  generalize hQQ : jQ X K 0 0 (PR Qf (fun p => none) (fun p => jw K p)) PN False = QQ
  change J X K 4 False QQ 0 0 2017 (jw K σ) 0 [(0, .ref (K.2.2 + 0)), (1, .int l1), (2, .int l2)] []
  have hj_2 : (∀ (σ_2 : Sto) (l3_2 : Int32), Ok (f11_moveAll_j2 l1 l2 σ_2 l3_2) Qf → J X K 4 False QQ 0 0 2017 (jw K σ_2) 2 [(0, .ref (K.2.2 + 0)), (1, .int l1), (2, .int l2), (3, .int l3_2)] []) := by
    intro σ_2 l3_2 h
    unfold f11_moveAll_j2 at h
    refine loop_gen (S := Sto × Int32) (P := fun s_2 => J X K 4 False QQ 0 0 2017 (jw K s_2.1) 2 [(0, .ref (K.2.2 + 0)), (1, .int l1), (2, .int l2), (3, .int s_2.2)] []) ?_ FU (σ_2, l3_2) (Ok.ofbnd h)
    intro B_2 hB_2 hE_2 s_2 h
    obtain ⟨σ_2, l3_2⟩ := s_2
    have h : Ok (f11_moveAll_b2 l1 l2 σ_2 l3_2) B_2 := h
    change J X K 4 False QQ 0 0 2017 (jw K σ_2) 2 [(0, .ref (K.2.2 + 0)), (1, .int l1), (2, .int l2), (3, .int l3_2)] []
    unfold f11_moveAll_b2 at h
    refine J_iload_n (i := 3) (p := 3) C dX11_moveAll_2 rfl rfl rfl ?_
    refine J_aload_n (i := 0) (p := 0) C dX11_moveAll_3 rfl rfl rfl ?_
    refine Jc_getS (o2 := 1) (r2 := 1) C fp_RX11_10 rfl rfl rfl dX11_moveAll_4 rfl ?_
    refine Jc_getI C fp_RX11_267 rfl rfl dX11_moveAll_7 rfl ?_
    refine J_icmp_ge (t := 43) C dX11_moveAll_10 (by decide) rfl (fun c_1 => ?_) (fun c_1 => ?_)
    · have h := h.pos c_1
      have h := hE_2 σ_2 h.osome
      try dsimp only at h
      refine J_aload_n (i := 0) (p := 0) C dX11_moveAll_43 rfl rfl rfl ?_
      refine Jc_getS (o2 := 1) (r2 := 1) C fp_RX11_10 rfl rfl rfl dX11_moveAll_44 rfl ?_
      refine Jc_cV (rest := []) (st9 := fun p_2 => []) C hR hX cv_RX11_275 rfl (Nat.le_of_ble_eq_true rfl) (k8_settleCursors hl rfl (Ok.ofbnd h)) rfl rfl (Nat.le_of_ble_eq_true rfl) (Nat.le_of_ble_eq_true rfl) (Nat.le_of_ble_eq_true rfl) ⟨(Nat.le_of_ble_eq_true rfl), (Nat.le_of_ble_eq_true rfl)⟩ dX11_moveAll_47 rfl (fun E n9 w9 hx => JT_n hx) (fun _ => rfl) (fun p_2 h => ?_)
      have h : Ok _ _ := h
      change J X K 4 False QQ 0 0 2017 (jw K p_2) 50 [(0, .ref (K.2.2 + 0)), (1, .int l1), (2, .int l2), (3, .int l3_2)] []
      rw [← hQQ]
      exact J_vret C hret (Nat.le_of_ble_eq_true rfl) (Nat.le_of_ble_eq_true rfl) ⟨_, h.osome, rfl, rfl, rfl⟩ dX11_moveAll_50
    · have h := h.neg c_1
      refine J_aload_n (i := 0) (p := 0) C dX11_moveAll_13 rfl rfl rfl ?_
      refine Jc_getS (o2 := 1) (r2 := 1) C fp_RX11_10 rfl rfl rfl dX11_moveAll_14 rfl ?_
      refine Jc_getS (o2 := 4) (r2 := 5) C fp_RX11_205 rfl rfl rfl dX11_moveAll_17 rfl ?_
      refine J_iload_n (i := 3) (p := 3) C dX11_moveAll_20 rfl rfl rfl ?_
      refine J_aload_n (i := 0) (p := 0) C dX11_moveAll_21 rfl rfl rfl ?_
      refine J_aload_n (i := 0) (p := 0) C dX11_moveAll_22 rfl rfl rfl ?_
      refine Jc_getS (o2 := 1) (r2 := 1) C fp_RX11_10 rfl rfl rfl dX11_moveAll_23 rfl ?_
      refine Jc_getS (o2 := 4) (r2 := 5) C fp_RX11_205 rfl rfl rfl dX11_moveAll_26 rfl ?_
      refine J_iload_n (i := 3) (p := 3) C dX11_moveAll_29 rfl rfl rfl ?_
      obtain ⟨g_3, h⟩ := Ok.ofgd h
      refine Jc_iald C rfl rfl g_3 dX11_moveAll_30 rfl ?_
      refine J_iload_n (i := 1) (p := 1) C dX11_moveAll_31 rfl rfl rfl ?_
      refine J_iload_n (i := 2) (p := 2) C dX11_moveAll_32 rfl rfl rfl ?_
      refine Jc_cV (rest := [.int l3_2, .ref (K.2.2 + 5)]) (st9 := fun p_4 => [.int p_4, .int l3_2, .ref (K.2.2 + 5)]) C hR hX cv_RX11_425 rfl (Nat.le_of_ble_eq_true rfl) (k11_movedPlace hl  (Ok.ofbnd h)) rfl rfl (Nat.le_of_ble_eq_true rfl) (Nat.le_of_ble_eq_true rfl) (Nat.le_of_ble_eq_true rfl) ⟨(Nat.le_of_ble_eq_true rfl), (Nat.le_of_ble_eq_true rfl)⟩ dX11_moveAll_33 rfl (fun E n9 w9 hx => JT_n hx) (fun _ => rfl) (fun p_4 h => ?_)
      have h : Ok _ _ := h
      change J X K 4 False QQ 0 0 2017 (jw K σ_2) 36 [(0, .ref (K.2.2 + 0)), (1, .int l1), (2, .int l2), (3, .int l3_2)] [.int p_4, .int l3_2, .ref (K.2.2 + 5)]
      obtain ⟨g_5, h⟩ := Ok.ofgd h
      obtain ⟨σx_1, e_σx_1, h⟩ := Ok.nm h
      refine Jc_iast C id rfl rfl g_5 e_σx_1 dX11_moveAll_36 rfl ?_
      obtain ⟨x3_2, e_x3_2, h⟩ := Ok.nm h
      refine J_iincE (i := 3) (p := 3) (lv' := [(3, .int x3_2), (0, .ref (K.2.2 + 0)), (1, .int l1), (2, .int l2)]) C e_x3_2 dX11_moveAll_37 rfl (by decide) (Nat.le_of_ble_eq_true rfl) rfl rfl ?_
      refine J_goto (t := 2) C dX11_moveAll_40 (by decide) ?_
      refine J.sub [1, 2, 3, 0] rfl ?_
      exact hB_2 (σx_1, x3_2) h.osome
  unfold f11_moveAll at h
  refine J_iconst (v := 0) C (by decide) dX11_moveAll_0 rfl ?_
  obtain ⟨x3_3, e_x3_3, h⟩ := Ok.nm h
  refine J_istoreE_n (i := 3) (lv' := [(3, .int x3_3), (0, .ref (K.2.2 + 0)), (1, .int l1), (2, .int l2)]) C e_x3_3 dX11_moveAll_1 rfl (Nat.le_of_ble_eq_true rfl) rfl rfl ?_
  refine J.sub [1, 2, 3, 0] rfl ?_
  exact hj_2 σ x3_3 h
def f11_moveCursors_j21 (l1 : Int32) (l2 : Int32) (σ_21 : Sto) : Option ((Int32 × Sto) ⊕ (Nat × Sto)) :=
  some (.inr (2, σ_21))
def f11_moveCursors (σ : Sto) (l1 : Int32) (l2 : Int32) : Option ((Int32 × Sto) ⊕ (Nat × Sto)) :=
  if l1 < 0 then
    f11_moveCursors_j21 l1 l2 σ
  else
    if (4 : Int32) < l1 then
      f11_moveCursors_j21 l1 l2 σ
    else
      if l2 < (-50 : Int32) then
        f11_moveCursors_j21 l1 l2 σ
      else
        if l2 ≤ (50 : Int32) then
          bnd (f11_moveAll σ l1 l2) fun p_5 =>
          bnd (f9_add p_5 (2 : Int32) l1 l2) fun p_6 =>
          some (.inl (fI p_6 1 6, p_6))
        else
          f11_moveCursors_j21 l1 l2 σ
set_option maxHeartbeats 4000000 in
set_option maxRecDepth 100000 in
theorem k11_moveCursors {l : Launch} {K : JK} (hl : l.stackTraces = false) {σ : Sto} {l1 : Int32} {l2 : Int32}  {Qf : (Int32 × Sto) ⊕ (Nat × Sto) → Prop} (h : Ok (f11_moveCursors σ l1 l2) Qf) : Con l K yX11_moveCursors (.code yX11_moveCursors cX11_moveCursors 3 (some .int) :: TB) 6 1 6 False [.ref (K.2.2 + 0), .int l1, .int l2] 2017 (jw K σ) (PR (fun p => Qf (.inl p)) (fun p => some (.int p.1)) (fun p => jw K p.2)) (PX Qf (fun s => jw K s)) := by
  refine Con.enter (own := RX11) hl (by decide) rfl (Nat.le_of_ble_eq_true rfl) ?_
  intro X hX hR C hret hnt
  generalize hQQ : jQ X K 1 6 (PR (fun p => Qf (.inl p)) (fun p => some (.int p.1)) (fun p => jw K p.2)) (PX Qf (fun s => jw K s)) False = QQ
  change J X K 3 False QQ 0 0 2017 (jw K σ) 0 [(0, .ref (K.2.2 + 0)), (1, .int l1), (2, .int l2)] []
  have hj_21 : (∀ (σ_21 : Sto), Ok (f11_moveCursors_j21 l1 l2 σ_21) Qf → J X K 3 False QQ 0 0 2017 (jw K σ_21) 21 [] []) := by
    intro σ_21 h
    unfold f11_moveCursors_j21 at h
    rw [← hQQ]
    exact J_throwW (is := 278) (text := "way or by is out of range") C hnt th_82 (by decide +kernel) dX11_moveCursors_21 dX11_moveCursors_24 dX11_moveCursors_25 dX11_moveCursors_28 dX11_moveCursors_31 (by rw [hR]; exact (Nat.le_of_ble_eq_true rfl)) (by rw [hR]; exact (Nat.le_of_ble_eq_true rfl)) (by rw [hR]; exact (Nat.le_of_ble_eq_true rfl)) (by rw [hR]; exact (Nat.le_of_ble_eq_true rfl)) (Nat.le_of_ble_eq_true rfl) (Nat.le_of_ble_eq_true rfl) ⟨2, σ_21, h.osome, rfl, rfl, rfl⟩
  unfold f11_moveCursors at h
  refine J_iload_n (i := 1) (p := 1) C dX11_moveCursors_0 rfl rfl rfl ?_
  refine J_if_lt (t := 21) C dX11_moveCursors_1 (by decide) rfl (fun c_1 => ?_) (fun c_1 => ?_)
  · have h := h.pos c_1
    refine J.sub [] rfl ?_
    exact hj_21 σ h
  · have h := h.neg c_1
    refine J_iload_n (i := 1) (p := 1) C dX11_moveCursors_4 rfl rfl rfl ?_
    refine J_iconst (v := 4) C (by decide) dX11_moveCursors_5 rfl ?_
    refine J_icmp_gt (t := 21) C dX11_moveCursors_6 (by decide) rfl (fun c_2 => ?_) (fun c_2 => ?_)
    · have h := h.pos c_2
      refine J.sub [] rfl ?_
      exact hj_21 σ h
    · have h := h.neg c_2
      refine J_iload_n (i := 2) (p := 2) C dX11_moveCursors_9 rfl rfl rfl ?_
      refine J_bipush (v := -50) C (by decide) dX11_moveCursors_10 rfl ?_
      refine J_icmp_lt (t := 21) C dX11_moveCursors_12 (by decide) rfl (fun c_3 => ?_) (fun c_3 => ?_)
      · have h := h.pos c_3
        refine J.sub [] rfl ?_
        exact hj_21 σ h
      · have h := h.neg c_3
        refine J_iload_n (i := 2) (p := 2) C dX11_moveCursors_15 rfl rfl rfl ?_
        refine J_bipush (v := 50) C (by decide) dX11_moveCursors_16 rfl ?_
        refine J_icmp_le (t := 32) C dX11_moveCursors_18 (by decide) rfl (fun c_4 => ?_) (fun c_4 => ?_)
        · have h := h.pos c_4
          refine J_aload_n (i := 0) (p := 0) C dX11_moveCursors_32 rfl rfl rfl ?_
          refine J_iload_n (i := 1) (p := 1) C dX11_moveCursors_33 rfl rfl rfl ?_
          refine J_iload_n (i := 2) (p := 2) C dX11_moveCursors_34 rfl rfl rfl ?_
          refine Jc_cV (rest := []) (st9 := fun p_5 => []) C hR hX cv_RX11_280 rfl (Nat.le_of_ble_eq_true rfl) (k11_moveAll hl  (Ok.ofbnd h)) rfl rfl (Nat.le_of_ble_eq_true rfl) (Nat.le_of_ble_eq_true rfl) (Nat.le_of_ble_eq_true rfl) ⟨(Nat.le_of_ble_eq_true rfl), (Nat.le_of_ble_eq_true rfl)⟩ dX11_moveCursors_35 rfl (fun E n9 w9 hx => JT_n hx) (fun _ => rfl) (fun p_5 h => ?_)
          have h : Ok _ _ := h
          change J X K 3 False QQ 0 0 2017 (jw K p_5) 38 [(0, .ref (K.2.2 + 0)), (1, .int l1), (2, .int l2)] []
          refine J_aload_n (i := 0) (p := 0) C dX11_moveCursors_38 rfl rfl rfl ?_
          refine Jc_getS (o2 := 1992) (r2 := 1992) C fp_RX11_56 rfl rfl rfl dX11_moveCursors_39 rfl ?_
          refine J_iconst (v := 2) C (by decide) dX11_moveCursors_42 rfl ?_
          refine J_iload_n (i := 1) (p := 1) C dX11_moveCursors_43 rfl rfl rfl ?_
          refine J_iload_n (i := 2) (p := 2) C dX11_moveCursors_44 rfl rfl rfl ?_
          refine Jc_cV (rest := []) (st9 := fun p_6 => []) C hR hX cv_RX11_150 rfl (Nat.le_of_ble_eq_true rfl) (k9_add hl  (Ok.ofbnd h)) rfl rfl (Nat.le_of_ble_eq_true rfl) (Nat.le_of_ble_eq_true rfl) (Nat.le_of_ble_eq_true rfl) ⟨(Nat.le_of_ble_eq_true rfl), (Nat.le_of_ble_eq_true rfl)⟩ dX11_moveCursors_45 rfl (fun E n9 w9 hx => JT_n hx) (fun _ => rfl) (fun p_6 h => ?_)
          have h : Ok _ _ := h
          change J X K 3 False QQ 0 0 2017 (jw K p_6) 48 [(0, .ref (K.2.2 + 0)), (1, .int l1), (2, .int l2)] []
          refine J_aload_n (i := 0) (p := 0) C dX11_moveCursors_48 rfl rfl rfl ?_
          refine Jc_getS (o2 := 1) (r2 := 1) C fp_RX11_10 rfl rfl rfl dX11_moveCursors_49 rfl ?_
          refine Jc_getI C fp_RX11_267 rfl rfl dX11_moveCursors_52 rfl ?_
          rw [← hQQ]
          exact J_iret C hret (Nat.le_of_ble_eq_true rfl) (Nat.le_of_ble_eq_true rfl) ⟨_, h.osome, rfl, rfl, rfl⟩ dX11_moveCursors_55
        · have h := h.neg c_4
          refine J.sub [] rfl ?_
          exact hj_21 σ h
def f11_cursorAt_j15 (l1 : Int32) (σ_15 : Sto) : Option ((Int32 × Sto) ⊕ (Nat × Sto)) :=
  some (.inr (1, σ_15))
def f11_cursorAt (σ : Sto) (l1 : Int32) : Option ((Int32 × Sto) ⊕ (Nat × Sto)) :=
  if l1 < 0 then
    f11_cursorAt_j15 l1 σ
  else
    if l1 < (fI σ 1 6) then
      gd (inb l1 8) <|
      some (.inl (aI σ 5 (Int32.toNatClampNeg l1), σ))
    else
      f11_cursorAt_j15 l1 σ
set_option maxHeartbeats 4000000 in
set_option maxRecDepth 100000 in
theorem k11_cursorAt {l : Launch} {K : JK} (hl : l.stackTraces = false) {σ : Sto} {l1 : Int32}  {Qf : (Int32 × Sto) ⊕ (Nat × Sto) → Prop} (h : Ok (f11_cursorAt σ l1) Qf) : Con l K yX11_cursorAt (.code yX11_cursorAt cX11_cursorAt 2 (some .int) :: TB) 6 1 6 False [.ref (K.2.2 + 0), .int l1] 2017 (jw K σ) (PR (fun p => Qf (.inl p)) (fun p => some (.int p.1)) (fun p => jw K p.2)) (PX Qf (fun s => jw K s)) := by
  refine Con.enter (own := RX11) hl (by decide) rfl (Nat.le_of_ble_eq_true rfl) ?_
  intro X hX hR C hret hnt
  generalize hQQ : jQ X K 1 6 (PR (fun p => Qf (.inl p)) (fun p => some (.int p.1)) (fun p => jw K p.2)) (PX Qf (fun s => jw K s)) False = QQ
  change J X K 2 False QQ 0 0 2017 (jw K σ) 0 [(0, .ref (K.2.2 + 0)), (1, .int l1)] []
  have hj_15 : (∀ (σ_15 : Sto), Ok (f11_cursorAt_j15 l1 σ_15) Qf → J X K 2 False QQ 0 0 2017 (jw K σ_15) 15 [] []) := by
    intro σ_15 h
    unfold f11_cursorAt_j15 at h
    rw [← hQQ]
    exact J_throwW (is := 283) (text := "there is no such cursor") C hnt th_119 (by decide +kernel) dX11_cursorAt_15 dX11_cursorAt_18 dX11_cursorAt_19 dX11_cursorAt_22 dX11_cursorAt_25 (by rw [hR]; exact (Nat.le_of_ble_eq_true rfl)) (by rw [hR]; exact (Nat.le_of_ble_eq_true rfl)) (by rw [hR]; exact (Nat.le_of_ble_eq_true rfl)) (by rw [hR]; exact (Nat.le_of_ble_eq_true rfl)) (Nat.le_of_ble_eq_true rfl) (Nat.le_of_ble_eq_true rfl) ⟨1, σ_15, h.osome, rfl, rfl, rfl⟩
  unfold f11_cursorAt at h
  refine J_iload_n (i := 1) (p := 1) C dX11_cursorAt_0 rfl rfl rfl ?_
  refine J_if_lt (t := 15) C dX11_cursorAt_1 (by decide) rfl (fun c_1 => ?_) (fun c_1 => ?_)
  · have h := h.pos c_1
    refine J.sub [] rfl ?_
    exact hj_15 σ h
  · have h := h.neg c_1
    refine J_iload_n (i := 1) (p := 1) C dX11_cursorAt_4 rfl rfl rfl ?_
    refine J_aload_n (i := 0) (p := 0) C dX11_cursorAt_5 rfl rfl rfl ?_
    refine Jc_getS (o2 := 1) (r2 := 1) C fp_RX11_10 rfl rfl rfl dX11_cursorAt_6 rfl ?_
    refine Jc_getI C fp_RX11_267 rfl rfl dX11_cursorAt_9 rfl ?_
    refine J_icmp_lt (t := 26) C dX11_cursorAt_12 (by decide) rfl (fun c_2 => ?_) (fun c_2 => ?_)
    · have h := h.pos c_2
      refine J_aload_n (i := 0) (p := 0) C dX11_cursorAt_26 rfl rfl rfl ?_
      refine Jc_getS (o2 := 1) (r2 := 1) C fp_RX11_10 rfl rfl rfl dX11_cursorAt_27 rfl ?_
      refine Jc_getS (o2 := 4) (r2 := 5) C fp_RX11_205 rfl rfl rfl dX11_cursorAt_30 rfl ?_
      refine J_iload_n (i := 1) (p := 1) C dX11_cursorAt_33 rfl rfl rfl ?_
      obtain ⟨g_3, h⟩ := Ok.ofgd h
      refine Jc_iald C rfl rfl g_3 dX11_cursorAt_34 rfl ?_
      rw [← hQQ]
      exact J_iret C hret (Nat.le_of_ble_eq_true rfl) (Nat.le_of_ble_eq_true rfl) ⟨_, h.osome, rfl, rfl, rfl⟩ dX11_cursorAt_35
    · have h := h.neg c_2
      refine J.sub [] rfl ?_
      exact hj_15 σ h
def f11_requireMark_j10 (l1 : Int32) (σ_10 : Sto) : Option (Sto ⊕ (Nat × Sto)) :=
  some (.inr (1, σ_10))
def f11_requireMark (σ : Sto) (l1 : Int32) : Option (Sto ⊕ (Nat × Sto)) :=
  if l1 < 0 then
    f11_requireMark_j10 l1 σ
  else
    if l1 < (16 : Int32) then
      some (.inl σ)
    else
      f11_requireMark_j10 l1 σ
set_option maxHeartbeats 4000000 in
set_option maxRecDepth 100000 in
theorem k11_requireMark {l : Launch} {K : JK} (hl : l.stackTraces = false) {σ : Sto} {l1 : Int32}  {Qf : Sto ⊕ (Nat × Sto) → Prop} (h : Ok (f11_requireMark σ l1) Qf) : Con l K yX11_requireMark (.code yX11_requireMark cX11_requireMark 2 none :: TB) 6 1 6 False [.ref (K.2.2 + 0), .int l1] 2017 (jw K σ) (PR (fun p => Qf (.inl p)) (fun p => none) (fun p => jw K p)) (PX Qf (fun s => jw K s)) := by
  refine Con.enter (own := RX11) hl (by decide) rfl (Nat.le_of_ble_eq_true rfl) ?_
  intro X hX hR C hret hnt
  generalize hQQ : jQ X K 1 6 (PR (fun p => Qf (.inl p)) (fun p => none) (fun p => jw K p)) (PX Qf (fun s => jw K s)) False = QQ
  change J X K 2 False QQ 0 0 2017 (jw K σ) 0 [(0, .ref (K.2.2 + 0)), (1, .int l1)] []
  have hj_10 : (∀ (σ_10 : Sto), Ok (f11_requireMark_j10 l1 σ_10) Qf → J X K 2 False QQ 0 0 2017 (jw K σ_10) 10 [] []) := by
    intro σ_10 h
    unfold f11_requireMark_j10 at h
    rw [← hQQ]
    exact J_throwW (is := 401) (text := "there is no such mark") C hnt th_119 (by decide +kernel) dX11_requireMark_10 dX11_requireMark_13 dX11_requireMark_14 dX11_requireMark_17 dX11_requireMark_20 (by rw [hR]; exact (Nat.le_of_ble_eq_true rfl)) (by rw [hR]; exact (Nat.le_of_ble_eq_true rfl)) (by rw [hR]; exact (Nat.le_of_ble_eq_true rfl)) (by rw [hR]; exact (Nat.le_of_ble_eq_true rfl)) (Nat.le_of_ble_eq_true rfl) (Nat.le_of_ble_eq_true rfl) ⟨1, σ_10, h.osome, rfl, rfl, rfl⟩
  unfold f11_requireMark at h
  refine J_iload_n (i := 1) (p := 1) C dX11_requireMark_0 rfl rfl rfl ?_
  refine J_if_lt (t := 10) C dX11_requireMark_1 (by decide) rfl (fun c_1 => ?_) (fun c_1 => ?_)
  · have h := h.pos c_1
    refine J.sub [] rfl ?_
    exact hj_10 σ h
  · have h := h.neg c_1
    refine J_iload_n (i := 1) (p := 1) C dX11_requireMark_4 rfl rfl rfl ?_
    refine J_bipush (v := 16) C (by decide) dX11_requireMark_5 rfl ?_
    refine J_icmp_lt (t := 21) C dX11_requireMark_7 (by decide) rfl (fun c_2 => ?_) (fun c_2 => ?_)
    · have h := h.pos c_2
      rw [← hQQ]
      exact J_vret C hret (Nat.le_of_ble_eq_true rfl) (Nat.le_of_ble_eq_true rfl) ⟨_, h.osome, rfl, rfl, rfl⟩ dX11_requireMark_21
    · have h := h.neg c_2
      refine J.sub [] rfl ?_
      exact hj_10 σ h
def f11_setMark (σ : Sto) (l1 : Int32) (l2 : Int32) (l3 : Int32) : Option ((Int32 × Sto) ⊕ (Nat × Sto)) :=
  bndX (f11_requireMark σ l1) fun p_1 =>
  bndX (f11_requirePlace p_1 l2) fun p_2 =>
  gd (inb l1 16) <|
  stp (aI p_2 6 (Int32.toNatClampNeg l1)) fun x4_1 =>
  gd (inb l1 16) <|
  stp (uA p_2 6 (Int32.toNatClampNeg l1) l2) fun σx_2 =>
  gd (inb l1 16) <|
  stp (uA σx_2 7 (Int32.toNatClampNeg l1) (vp_nar .boolean l3)) fun σx_3 =>
  some (.inl (x4_1, σx_3))
set_option maxHeartbeats 4000000 in
set_option maxRecDepth 100000 in
theorem k11_setMark {l : Launch} {K : JK} (hl : l.stackTraces = false) {σ : Sto} {l1 : Int32} {l2 : Int32} {l3 : Int32}  {Qf : (Int32 × Sto) ⊕ (Nat × Sto) → Prop} (h : Ok (f11_setMark σ l1 l2 l3) Qf) : Con l K yX11_setMark (.code yX11_setMark cX11_setMark 5 (some .int) :: TB) 7 2 12 False [.ref (K.2.2 + 0), .int l1, .int l2, .int l3] 2017 (jw K σ) (PR (fun p => Qf (.inl p)) (fun p => some (.int p.1)) (fun p => jw K p.2)) (PX Qf (fun s => jw K s)) := by
  refine Con.enter (own := RX11) hl (by decide) rfl (Nat.le_of_ble_eq_true rfl) ?_
  intro X hX hR C hret hnt
  generalize hQQ : jQ X K 2 12 (PR (fun p => Qf (.inl p)) (fun p => some (.int p.1)) (fun p => jw K p.2)) (PX Qf (fun s => jw K s)) False = QQ
  change J X K 5 False QQ 0 0 2017 (jw K σ) 0 [(0, .ref (K.2.2 + 0)), (1, .int l1), (2, .int l2), (3, .int l3)] []
  unfold f11_setMark at h
  refine J_aload_n (i := 0) (p := 0) C dX11_setMark_0 rfl rfl rfl ?_
  refine J_iload_n (i := 1) (p := 1) C dX11_setMark_1 rfl rfl rfl ?_
  refine Jc_cV (rest := []) (st9 := fun p_1 => []) C hR hX cv_RX11_285 rfl (Nat.le_of_ble_eq_true rfl) (k11_requireMark hl  (Ok.ofbndX h)) rfl rfl (Nat.le_of_ble_eq_true rfl) (Nat.le_of_ble_eq_true rfl) (Nat.le_of_ble_eq_true rfl) ⟨(Nat.le_of_ble_eq_true rfl), (Nat.le_of_ble_eq_true rfl)⟩ dX11_setMark_2 rfl (fun E n9 w9 hx => by rw [← hQQ]; exact JT_x C hnt (Nat.le_of_ble_eq_true rfl) (Nat.le_of_ble_eq_true rfl) (fun c h => h) E n9 w9 hx) (fun _ => rfl) (fun p_1 h => ?_)
  have h : Ok _ _ := h
  change J X K 5 False QQ 1 6 2017 (jw K p_1) 5 [(0, .ref (K.2.2 + 0)), (1, .int l1), (2, .int l2), (3, .int l3)] []
  refine J_aload_n (i := 0) (p := 0) C dX11_setMark_5 rfl rfl rfl ?_
  refine J_iload_n (i := 2) (p := 2) C dX11_setMark_6 rfl rfl rfl ?_
  refine Jc_cV (rest := []) (st9 := fun p_2 => []) C hR hX cv_RX11_264 rfl (Nat.le_of_ble_eq_true rfl) (k11_requirePlace hl  (Ok.ofbndX h)) rfl rfl (Nat.le_of_ble_eq_true rfl) (Nat.le_of_ble_eq_true rfl) (Nat.le_of_ble_eq_true rfl) ⟨(Nat.le_of_ble_eq_true rfl), (Nat.le_of_ble_eq_true rfl)⟩ dX11_setMark_7 rfl (fun E n9 w9 hx => by rw [← hQQ]; exact JT_x C hnt (Nat.le_of_ble_eq_true rfl) (Nat.le_of_ble_eq_true rfl) (fun c h => h) E n9 w9 hx) (fun _ => rfl) (fun p_2 h => ?_)
  have h : Ok _ _ := h
  change J X K 5 False QQ 2 12 2017 (jw K p_2) 10 [(0, .ref (K.2.2 + 0)), (1, .int l1), (2, .int l2), (3, .int l3)] []
  refine J_aload_n (i := 0) (p := 0) C dX11_setMark_10 rfl rfl rfl ?_
  refine Jc_getS (o2 := 1) (r2 := 1) C fp_RX11_10 rfl rfl rfl dX11_setMark_11 rfl ?_
  refine Jc_getS (o2 := 5) (r2 := 6) C fp_RX11_288 rfl rfl rfl dX11_setMark_14 rfl ?_
  refine J_iload_n (i := 1) (p := 1) C dX11_setMark_17 rfl rfl rfl ?_
  obtain ⟨g_3, h⟩ := Ok.ofgd h
  refine Jc_iald C rfl rfl g_3 dX11_setMark_18 rfl ?_
  obtain ⟨x4_1, e_x4_1, h⟩ := Ok.nm h
  refine J_istoreE (i := 4) (lv' := [(4, .int x4_1), (0, .ref (K.2.2 + 0)), (1, .int l1), (2, .int l2), (3, .int l3)]) C e_x4_1 dX11_setMark_19 (Nat.le_of_ble_eq_true rfl) rfl rfl ?_
  refine J_aload_n (i := 0) (p := 1) C dX11_setMark_21 rfl rfl rfl ?_
  refine Jc_getS (o2 := 1) (r2 := 1) C fp_RX11_10 rfl rfl rfl dX11_setMark_22 rfl ?_
  refine Jc_getS (o2 := 5) (r2 := 6) C fp_RX11_288 rfl rfl rfl dX11_setMark_25 rfl ?_
  refine J_iload_n (i := 1) (p := 2) C dX11_setMark_28 rfl rfl rfl ?_
  refine J_iload_n (i := 2) (p := 3) C dX11_setMark_29 rfl rfl rfl ?_
  obtain ⟨g_4, h⟩ := Ok.ofgd h
  obtain ⟨σx_2, e_σx_2, h⟩ := Ok.nm h
  refine Jc_iast C id rfl rfl g_4 e_σx_2 dX11_setMark_30 rfl ?_
  refine J_aload_n (i := 0) (p := 1) C dX11_setMark_31 rfl rfl rfl ?_
  refine Jc_getS (o2 := 1) (r2 := 1) C fp_RX11_10 rfl rfl rfl dX11_setMark_32 rfl ?_
  refine Jc_getS (o2 := 6) (r2 := 7) C fp_RX11_291 rfl rfl rfl dX11_setMark_35 rfl ?_
  refine J_iload_n (i := 1) (p := 2) C dX11_setMark_38 rfl rfl rfl ?_
  refine J_iload_n (i := 3) (p := 4) C dX11_setMark_39 rfl rfl rfl ?_
  obtain ⟨g_5, h⟩ := Ok.ofgd h
  obtain ⟨σx_3, e_σx_3, h⟩ := Ok.nm h
  refine Jc_zast C id rfl rfl g_5 e_σx_3 dX11_setMark_40 rfl ?_
  refine J_iload (i := 4) (p := 0) C dX11_setMark_41 rfl rfl ?_
  rw [← hQQ]
  exact J_iret C hret (Nat.le_of_ble_eq_true rfl) (Nat.le_of_ble_eq_true rfl) ⟨_, h.osome, rfl, rfl, rfl⟩ dX11_setMark_43
def f11_dropMark (σ : Sto) (l1 : Int32) : Option ((Int32 × Sto) ⊕ (Nat × Sto)) :=
  bndX (f11_requireMark σ l1) fun p_1 =>
  gd (inb l1 16) <|
  stp (aI p_1 6 (Int32.toNatClampNeg l1)) fun x2_1 =>
  gd (inb l1 16) <|
  stp (uA p_1 6 (Int32.toNatClampNeg l1) (-1 : Int32)) fun σx_2 =>
  some (.inl (x2_1, σx_2))
set_option maxHeartbeats 4000000 in
set_option maxRecDepth 100000 in
theorem k11_dropMark {l : Launch} {K : JK} (hl : l.stackTraces = false) {σ : Sto} {l1 : Int32}  {Qf : (Int32 × Sto) ⊕ (Nat × Sto) → Prop} (h : Ok (f11_dropMark σ l1) Qf) : Con l K yX11_dropMark (.code yX11_dropMark cX11_dropMark 3 (some .int) :: TB) 7 1 6 False [.ref (K.2.2 + 0), .int l1] 2017 (jw K σ) (PR (fun p => Qf (.inl p)) (fun p => some (.int p.1)) (fun p => jw K p.2)) (PX Qf (fun s => jw K s)) := by
  refine Con.enter (own := RX11) hl (by decide) rfl (Nat.le_of_ble_eq_true rfl) ?_
  intro X hX hR C hret hnt
  generalize hQQ : jQ X K 1 6 (PR (fun p => Qf (.inl p)) (fun p => some (.int p.1)) (fun p => jw K p.2)) (PX Qf (fun s => jw K s)) False = QQ
  change J X K 3 False QQ 0 0 2017 (jw K σ) 0 [(0, .ref (K.2.2 + 0)), (1, .int l1)] []
  unfold f11_dropMark at h
  refine J_aload_n (i := 0) (p := 0) C dX11_dropMark_0 rfl rfl rfl ?_
  refine J_iload_n (i := 1) (p := 1) C dX11_dropMark_1 rfl rfl rfl ?_
  refine Jc_cV (rest := []) (st9 := fun p_1 => []) C hR hX cv_RX11_285 rfl (Nat.le_of_ble_eq_true rfl) (k11_requireMark hl  (Ok.ofbndX h)) rfl rfl (Nat.le_of_ble_eq_true rfl) (Nat.le_of_ble_eq_true rfl) (Nat.le_of_ble_eq_true rfl) ⟨(Nat.le_of_ble_eq_true rfl), (Nat.le_of_ble_eq_true rfl)⟩ dX11_dropMark_2 rfl (fun E n9 w9 hx => by rw [← hQQ]; exact JT_x C hnt (Nat.le_of_ble_eq_true rfl) (Nat.le_of_ble_eq_true rfl) (fun c h => h) E n9 w9 hx) (fun _ => rfl) (fun p_1 h => ?_)
  have h : Ok _ _ := h
  change J X K 3 False QQ 1 6 2017 (jw K p_1) 5 [(0, .ref (K.2.2 + 0)), (1, .int l1)] []
  refine J_aload_n (i := 0) (p := 0) C dX11_dropMark_5 rfl rfl rfl ?_
  refine Jc_getS (o2 := 1) (r2 := 1) C fp_RX11_10 rfl rfl rfl dX11_dropMark_6 rfl ?_
  refine Jc_getS (o2 := 5) (r2 := 6) C fp_RX11_288 rfl rfl rfl dX11_dropMark_9 rfl ?_
  refine J_iload_n (i := 1) (p := 1) C dX11_dropMark_12 rfl rfl rfl ?_
  obtain ⟨g_2, h⟩ := Ok.ofgd h
  refine Jc_iald C rfl rfl g_2 dX11_dropMark_13 rfl ?_
  obtain ⟨x2_1, e_x2_1, h⟩ := Ok.nm h
  refine J_istoreE_n (i := 2) (lv' := [(2, .int x2_1), (0, .ref (K.2.2 + 0)), (1, .int l1)]) C e_x2_1 dX11_dropMark_14 rfl (Nat.le_of_ble_eq_true rfl) rfl rfl ?_
  refine J_aload_n (i := 0) (p := 1) C dX11_dropMark_15 rfl rfl rfl ?_
  refine Jc_getS (o2 := 1) (r2 := 1) C fp_RX11_10 rfl rfl rfl dX11_dropMark_16 rfl ?_
  refine Jc_getS (o2 := 5) (r2 := 6) C fp_RX11_288 rfl rfl rfl dX11_dropMark_19 rfl ?_
  refine J_iload_n (i := 1) (p := 2) C dX11_dropMark_22 rfl rfl rfl ?_
  refine J_iconst (v := -1) C (by decide) dX11_dropMark_23 rfl ?_
  obtain ⟨g_3, h⟩ := Ok.ofgd h
  obtain ⟨σx_2, e_σx_2, h⟩ := Ok.nm h
  refine Jc_iast C id rfl rfl g_3 e_σx_2 dX11_dropMark_24 rfl ?_
  refine J_iload_n (i := 2) (p := 0) C dX11_dropMark_25 rfl rfl rfl ?_
  rw [← hQQ]
  exact J_iret C hret (Nat.le_of_ble_eq_true rfl) (Nat.le_of_ble_eq_true rfl) ⟨_, h.osome, rfl, rfl, rfl⟩ dX11_dropMark_26
def f11_markAt (σ : Sto) (l1 : Int32) : Option ((Int32 × Sto) ⊕ (Nat × Sto)) :=
  bndX (f11_requireMark σ l1) fun p_1 =>
  gd (inb l1 16) <|
  some (.inl (aI p_1 6 (Int32.toNatClampNeg l1), p_1))
set_option maxHeartbeats 4000000 in
set_option maxRecDepth 100000 in
theorem k11_markAt {l : Launch} {K : JK} (hl : l.stackTraces = false) {σ : Sto} {l1 : Int32}  {Qf : (Int32 × Sto) ⊕ (Nat × Sto) → Prop} (h : Ok (f11_markAt σ l1) Qf) : Con l K yX11_markAt (.code yX11_markAt cX11_markAt 2 (some .int) :: TB) 7 1 6 False [.ref (K.2.2 + 0), .int l1] 2017 (jw K σ) (PR (fun p => Qf (.inl p)) (fun p => some (.int p.1)) (fun p => jw K p.2)) (PX Qf (fun s => jw K s)) := by
  refine Con.enter (own := RX11) hl (by decide) rfl (Nat.le_of_ble_eq_true rfl) ?_
  intro X hX hR C hret hnt
  generalize hQQ : jQ X K 1 6 (PR (fun p => Qf (.inl p)) (fun p => some (.int p.1)) (fun p => jw K p.2)) (PX Qf (fun s => jw K s)) False = QQ
  change J X K 2 False QQ 0 0 2017 (jw K σ) 0 [(0, .ref (K.2.2 + 0)), (1, .int l1)] []
  unfold f11_markAt at h
  refine J_aload_n (i := 0) (p := 0) C dX11_markAt_0 rfl rfl rfl ?_
  refine J_iload_n (i := 1) (p := 1) C dX11_markAt_1 rfl rfl rfl ?_
  refine Jc_cV (rest := []) (st9 := fun p_1 => []) C hR hX cv_RX11_285 rfl (Nat.le_of_ble_eq_true rfl) (k11_requireMark hl  (Ok.ofbndX h)) rfl rfl (Nat.le_of_ble_eq_true rfl) (Nat.le_of_ble_eq_true rfl) (Nat.le_of_ble_eq_true rfl) ⟨(Nat.le_of_ble_eq_true rfl), (Nat.le_of_ble_eq_true rfl)⟩ dX11_markAt_2 rfl (fun E n9 w9 hx => by rw [← hQQ]; exact JT_x C hnt (Nat.le_of_ble_eq_true rfl) (Nat.le_of_ble_eq_true rfl) (fun c h => h) E n9 w9 hx) (fun _ => rfl) (fun p_1 h => ?_)
  have h : Ok _ _ := h
  change J X K 2 False QQ 1 6 2017 (jw K p_1) 5 [(0, .ref (K.2.2 + 0)), (1, .int l1)] []
  refine J_aload_n (i := 0) (p := 0) C dX11_markAt_5 rfl rfl rfl ?_
  refine Jc_getS (o2 := 1) (r2 := 1) C fp_RX11_10 rfl rfl rfl dX11_markAt_6 rfl ?_
  refine Jc_getS (o2 := 5) (r2 := 6) C fp_RX11_288 rfl rfl rfl dX11_markAt_9 rfl ?_
  refine J_iload_n (i := 1) (p := 1) C dX11_markAt_12 rfl rfl rfl ?_
  obtain ⟨g_2, h⟩ := Ok.ofgd h
  refine Jc_iald C rfl rfl g_2 dX11_markAt_13 rfl ?_
  rw [← hQQ]
  exact J_iret C hret (Nat.le_of_ble_eq_true rfl) (Nat.le_of_ble_eq_true rfl) ⟨_, h.osome, rfl, rfl, rfl⟩ dX11_markAt_14
def f7_countFinds_j35 (a1 : Nat) (σ : Sto) (l3_35 : Int32) (s0_35 : Int32) (s1_35 : Int32) : Option ((Int32 × Int32) ⊕ Int32) :=
  stp (s0_35 + s1_35) fun x2_1 =>
  stp (l3_35 + (1 : Int32)) fun x3_2 =>
  some (.inl (x2_1, x3_2))
def f7_countFinds_b4 (a1 : Nat) (σ : Sto) (l2_4 : Int32) (l3_4 : Int32) : Option ((Int32 × Int32) ⊕ Int32) :=
  if ((fI σ a1 1) - (fI σ 1990 1)) < l3_4 then
    some (.inr l2_4)
  else
    bnd (f7_isFind σ a1 l3_4) fun p_2 =>
    if p_2 = 0 then
      f7_countFinds_j35 a1 σ l3_4 l2_4 (0 : Int32)
    else
      f7_countFinds_j35 a1 σ l3_4 l2_4 (1 : Int32)
def f7_countFinds_j4 (a1 : Nat) (σ : Sto) (l2_4 : Int32) (l3_4 : Int32) : Option (Int32) :=
  bnd (loopF (fun s_4 => f7_countFinds_b4 a1 σ s_4.1 s_4.2) FU (l2_4, l3_4)) fun r_4 =>
    some r_4
def f7_countFinds (σ : Sto) (a1 : Nat) : Option (Int32) :=
  stp (0 : Int32) fun x2_3 =>
  stp (0 : Int32) fun x3_4 =>
  f7_countFinds_j4 a1 σ x2_3 x3_4
set_option maxHeartbeats 4000000 in
set_option maxRecDepth 100000 in
theorem k7_countFinds {l : Launch} {K : JK} (hl : l.stackTraces = false) {σ : Sto} {a1 : Nat} (h_a1 : kc a1 = 8) {Qf : Int32 → Prop} (h : Ok (f7_countFinds σ a1) Qf) : Con l K yX7_countFinds (.code yX7_countFinds cX7_countFinds 4 (some .int) :: TB) 2 0 0 False [.ref (K.2.2 + 1989), .ref (K.2.2 + a1)] 2017 (jw K σ) (PR Qf (fun p => some (.int p)) (fun p => jw K σ)) PN := by
  refine Con.enter (own := RX7) hl (by decide) rfl (Nat.le_of_ble_eq_true rfl) ?_
  intro X hX hR C hret hnt
  generalize hQQ : jQ X K 0 0 (PR Qf (fun p => some (.int p)) (fun p => jw K σ)) PN False = QQ
  change J X K 4 False QQ 0 0 2017 (jw K σ) 0 [(0, .ref (K.2.2 + 1989)), (1, .ref (K.2.2 + a1))] []
  have hj_4 : (∀ (l2_4 : Int32) (l3_4 : Int32), Ok (f7_countFinds_j4 a1 σ l2_4 l3_4) Qf → J X K 4 False QQ 0 0 2017 (jw K σ) 4 [(0, .ref (K.2.2 + 1989)), (1, .ref (K.2.2 + a1)), (2, .int l2_4), (3, .int l3_4)] []) := by
    intro l2_4 l3_4 h
    unfold f7_countFinds_j4 at h
    refine loop_gen (S := Int32 × Int32) (P := fun s_4 => J X K 4 False QQ 0 0 2017 (jw K σ) 4 [(0, .ref (K.2.2 + 1989)), (1, .ref (K.2.2 + a1)), (2, .int s_4.1), (3, .int s_4.2)] []) ?_ FU (l2_4, l3_4) (Ok.ofbnd h)
    intro B_4 hB_4 hE_4 s_4 h
    obtain ⟨l2_4, l3_4⟩ := s_4
    have h : Ok (f7_countFinds_b4 a1 σ l2_4 l3_4) B_4 := h
    change J X K 4 False QQ 0 0 2017 (jw K σ) 4 [(0, .ref (K.2.2 + 1989)), (1, .ref (K.2.2 + a1)), (2, .int l2_4), (3, .int l3_4)] []
    have hj_35 : (∀ (l3_35 : Int32) (s0_35 : Int32) (s1_35 : Int32), Ok (f7_countFinds_j35 a1 σ l3_35 s0_35 s1_35) B_4 → J X K 4 False QQ 0 0 2017 (jw K σ) 35 [(0, .ref (K.2.2 + 1989)), (1, .ref (K.2.2 + a1)), (3, .int l3_35)] [.int s1_35, .int s0_35]) := by
      intro l3_35 s0_35 s1_35 h
      unfold f7_countFinds_j35 at h
      refine J_iadd C dX7_countFinds_35 rfl ?_
      obtain ⟨x2_1, e_x2_1, h⟩ := Ok.nm h
      refine J_istoreE_n (i := 2) (lv' := [(2, .int x2_1), (0, .ref (K.2.2 + 1989)), (1, .ref (K.2.2 + a1)), (3, .int l3_35)]) C e_x2_1 dX7_countFinds_36 rfl (Nat.le_of_ble_eq_true rfl) rfl rfl ?_
      obtain ⟨x3_2, e_x3_2, h⟩ := Ok.nm h
      refine J_iincE (i := 3) (p := 3) (lv' := [(3, .int x3_2), (2, .int x2_1), (0, .ref (K.2.2 + 1989)), (1, .ref (K.2.2 + a1))]) C e_x3_2 dX7_countFinds_37 rfl (by decide) (Nat.le_of_ble_eq_true rfl) rfl rfl ?_
      refine J_goto (t := 4) C dX7_countFinds_40 (by decide) ?_
      refine J.sub [2, 3, 1, 0] rfl ?_
      exact hB_4 (x2_1, x3_2) h.osome
    unfold f7_countFinds_b4 at h
    refine J_iload_n (i := 3) (p := 3) C dX7_countFinds_4 rfl rfl rfl ?_
    refine J_aload_n (i := 1) (p := 1) C dX7_countFinds_5 rfl rfl rfl ?_
    refine Jc_getI C fp_RX7_28 h_a1 rfl dX7_countFinds_6 rfl ?_
    refine J_aload_n (i := 0) (p := 0) C dX7_countFinds_9 rfl rfl rfl ?_
    refine Jc_getS (o2 := 1) (r2 := 1990) C fp_RX7_14 rfl rfl rfl dX7_countFinds_10 rfl ?_
    refine Jc_getI C fp_RX7_24 rfl rfl dX7_countFinds_13 rfl ?_
    refine J_isub C dX7_countFinds_16 rfl ?_
    refine J_icmp_gt (t := 43) C dX7_countFinds_17 (by decide) rfl (fun c_1 => ?_) (fun c_1 => ?_)
    · have h := h.pos c_1
      have h := hE_4 l2_4 h.osome
      try dsimp only at h
      refine J_iload_n (i := 2) (p := 2) C dX7_countFinds_43 rfl rfl rfl ?_
      rw [← hQQ]
      exact J_iret C hret (Nat.le_of_ble_eq_true rfl) (Nat.le_of_ble_eq_true rfl) ⟨_, h.osome, rfl, rfl, rfl⟩ dX7_countFinds_44
    · have h := h.neg c_1
      refine J_iload_n (i := 2) (p := 2) C dX7_countFinds_20 rfl rfl rfl ?_
      refine J_aload_n (i := 0) (p := 0) C dX7_countFinds_21 rfl rfl rfl ?_
      refine J_aload_n (i := 1) (p := 1) C dX7_countFinds_22 rfl rfl rfl ?_
      refine J_iload_n (i := 3) (p := 3) C dX7_countFinds_23 rfl rfl rfl ?_
      refine Jc_cV (rest := [.int l2_4]) (st9 := fun p_2 => [.int p_2, .int l2_4]) C hR hX cv_RX7_31 rfl (Nat.le_of_ble_eq_true rfl) (k7_isFind hl h_a1 (Ok.ofbnd h)) rfl rfl (Nat.le_of_ble_eq_true rfl) (Nat.le_of_ble_eq_true rfl) (Nat.le_of_ble_eq_true rfl) ⟨(Nat.le_of_ble_eq_true rfl), (Nat.le_of_ble_eq_true rfl)⟩ dX7_countFinds_24 rfl (fun E n9 w9 hx => JT_n hx) (fun _ => rfl) (fun p_2 h => ?_)
      have h : Ok _ _ := h
      change J X K 4 False QQ 0 0 2017 (jw K σ) 27 [(0, .ref (K.2.2 + 1989)), (1, .ref (K.2.2 + a1)), (2, .int l2_4), (3, .int l3_4)] [.int p_2, .int l2_4]
      refine J_if_eq (t := 34) C dX7_countFinds_27 (by decide) rfl (fun c_3 => ?_) (fun c_3 => ?_)
      · have h := h.pos c_3
        refine J_iconst (v := 0) C (by decide) dX7_countFinds_34 rfl ?_
        refine J.sub [0, 1, 3] rfl ?_
        exact hj_35 l3_4 l2_4 (0 : Int32) h
      · have h := h.neg c_3
        refine J_iconst (v := 1) C (by decide) dX7_countFinds_30 rfl ?_
        refine J_goto (t := 35) C dX7_countFinds_31 (by decide) ?_
        refine J.sub [0, 1, 3] rfl ?_
        exact hj_35 l3_4 l2_4 (1 : Int32) h
  unfold f7_countFinds at h
  refine J_iconst (v := 0) C (by decide) dX7_countFinds_0 rfl ?_
  obtain ⟨x2_3, e_x2_3, h⟩ := Ok.nm h
  refine J_istoreE_n (i := 2) (lv' := [(2, .int x2_3), (0, .ref (K.2.2 + 1989)), (1, .ref (K.2.2 + a1))]) C e_x2_3 dX7_countFinds_1 rfl (Nat.le_of_ble_eq_true rfl) rfl rfl ?_
  refine J_iconst (v := 0) C (by decide) dX7_countFinds_2 rfl ?_
  obtain ⟨x3_4, e_x3_4, h⟩ := Ok.nm h
  refine J_istoreE_n (i := 3) (lv' := [(3, .int x3_4), (2, .int x2_3), (0, .ref (K.2.2 + 1989)), (1, .ref (K.2.2 + a1))]) C e_x3_4 dX7_countFinds_3 rfl (Nat.le_of_ble_eq_true rfl) rfl rfl ?_
  refine J.sub [2, 3, 1, 0] rfl ?_
  exact hj_4 x2_3 x3_4 h
