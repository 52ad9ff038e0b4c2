def f11_isLetter_j29 (l0 : Int32) (s0_29 : Int32) : Option (Int32) :=
  gd (isB s0_29) <|
  some s0_29
def f11_isLetter_j28 (l0 : Int32) : Option (Int32) :=
  f11_isLetter_j29 l0 (0 : Int32)
def f11_isLetter_j24 (l0 : Int32) : Option (Int32) :=
  f11_isLetter_j29 l0 (1 : Int32)
def f11_isLetter (l0 : Int32) : Option (Int32) :=
  if l0 = (9 : Int32) then
    f11_isLetter_j24 l0
  else
    if l0 = (10 : Int32) then
      f11_isLetter_j24 l0
    else
      if l0 < (32 : Int32) then
        f11_isLetter_j28 l0
      else
        if (126 : Int32) < l0 then
          f11_isLetter_j28 l0
        else
          f11_isLetter_j24 l0
set_option maxHeartbeats 4000000 in
set_option maxRecDepth 100000 in
theorem k11_isLetter {l : Launch} {K : JK} (hl : l.stackTraces = false) {σ : Sto} {l0 : Int32}  {Qf : Int32 → Prop} (h : Ok (f11_isLetter l0) Qf) : Con l K yX11_isLetter (.code yX11_isLetter cX11_isLetter 1 (some .boolean) :: TB) 0 0 0 False [.int l0] 2017 (jw K σ) (PR Qf (fun p => some (.int p)) (fun p => jw K σ)) PN := by
  refine Con.enter (own := RX11) hl (by decide) rfl (Nat.le_of_ble_eq_true rfl) ?_
  intro X hX hR C hret hnt
  generalize hQQ : jQ X K 0 0 (PR Qf (fun p => some (.int p)) (fun p => jw K σ)) PN False = QQ
  change J X K 1 False QQ 0 0 2017 (jw K σ) 0 [(0, .int l0)] []
  have hj_29 : (∀ (s0_29 : Int32), Ok (f11_isLetter_j29 l0 s0_29) Qf → J X K 1 False QQ 0 0 2017 (jw K σ) 29 [] [.int s0_29]) := by
    intro s0_29 h
    unfold f11_isLetter_j29 at h
    obtain ⟨g_1, h⟩ := Ok.ofgd h
    rw [← hQQ]
    exact J_zret C hret (narB g_1).1 (Nat.le_of_ble_eq_true rfl) (Nat.le_of_ble_eq_true rfl) ⟨_, h.osome, rfl, rfl, rfl⟩ dX11_isLetter_29
  have hj_28 : (Ok (f11_isLetter_j28 l0) Qf → J X K 1 False QQ 0 0 2017 (jw K σ) 28 [] []) := by
    intro h
    unfold f11_isLetter_j28 at h
    refine J_iconst (v := 0) C (by decide) dX11_isLetter_28 rfl ?_
    exact hj_29 (0 : Int32) h
  have hj_24 : (Ok (f11_isLetter_j24 l0) Qf → J X K 1 False QQ 0 0 2017 (jw K σ) 24 [] []) := by
    intro h
    unfold f11_isLetter_j24 at h
    refine J_iconst (v := 1) C (by decide) dX11_isLetter_24 rfl ?_
    refine J_goto (t := 29) C dX11_isLetter_25 (by decide) ?_
    exact hj_29 (1 : Int32) h
  unfold f11_isLetter at h
  refine J_iload_n (i := 0) (p := 0) C dX11_isLetter_0 rfl rfl rfl ?_
  refine J_bipush (v := 9) C (by decide) dX11_isLetter_1 rfl ?_
  refine J_icmp_eq (t := 24) C dX11_isLetter_3 (by decide) rfl (fun c_2 => ?_) (fun c_2 => ?_)
  · have h := h.pos c_2
    refine J.sub [] rfl ?_
    exact hj_24  h
  · have h := h.neg c_2
    refine J_iload_n (i := 0) (p := 0) C dX11_isLetter_6 rfl rfl rfl ?_
    refine J_bipush (v := 10) C (by decide) dX11_isLetter_7 rfl ?_
    refine J_icmp_eq (t := 24) C dX11_isLetter_9 (by decide) rfl (fun c_3 => ?_) (fun c_3 => ?_)
    · have h := h.pos c_3
      refine J.sub [] rfl ?_
      exact hj_24  h
    · have h := h.neg c_3
      refine J_iload_n (i := 0) (p := 0) C dX11_isLetter_12 rfl rfl rfl ?_
      refine J_bipush (v := 32) C (by decide) dX11_isLetter_13 rfl ?_
      refine J_icmp_lt (t := 28) C dX11_isLetter_15 (by decide) rfl (fun c_4 => ?_) (fun c_4 => ?_)
      · have h := h.pos c_4
        refine J.sub [] rfl ?_
        exact hj_28  h
      · have h := h.neg c_4
        refine J_iload_n (i := 0) (p := 0) C dX11_isLetter_18 rfl rfl rfl ?_
        refine J_bipush (v := 126) C (by decide) dX11_isLetter_19 rfl ?_
        refine J_icmp_gt (t := 28) C dX11_isLetter_21 (by decide) rfl (fun c_5 => ?_) (fun c_5 => ?_)
        · have h := h.pos c_5
          refine J.sub [] rfl ?_
          exact hj_28  h
        · have h := h.neg c_5
          refine J.sub [] rfl ?_
          exact hj_24  h
def f6_add (σ : Sto) (a0 : Nat) (l1 : Int32) : Option (Int32 × Sto) :=
  if (fI σ a0 1) < (Int32.ofNat (ln (a0 + 1))) then
    gd (inb (fI σ a0 1) (ln (a0 + 1))) <|
    stp (uA σ (a0 + 1) (Int32.toNatClampNeg (fI σ a0 1)) (vp_nar .byte (Int8.toInt32 (Int32.toInt8 l1)))) fun σx_1 =>
    stp (uI σx_1 a0 1 ((fI σx_1 a0 1) + (1 : Int32))) fun σx_2 =>
    some ((1 : Int32), σx_2)
  else
    some ((0 : Int32), σ)
set_option maxHeartbeats 4000000 in
set_option maxRecDepth 100000 in
theorem k6_add {l : Launch} {K : JK} (hl : l.stackTraces = false) {σ : Sto} {a0 : Nat} {l1 : Int32} (h_a0 : kc a0 = 6) {Qf : Int32 × Sto → Prop} (h : Ok (f6_add σ a0 l1) Qf) : Con l K yX6_add (.code yX6_add cX6_add 2 (some .boolean) :: TB) 0 0 0 False [.ref (K.2.2 + a0), .int l1] 2017 (jw K σ) (PR Qf (fun p => some (.int p.1)) (fun p => jw K p.2)) PN := by
  refine Con.enter (own := RX6) hl (by decide) rfl (Nat.le_of_ble_eq_true rfl) ?_
  intro X hX hR C hret hnt
  generalize hQQ : jQ X K 0 0 (PR Qf (fun p => some (.int p.1)) (fun p => jw K p.2)) PN False = QQ
  change J X K 2 False QQ 0 0 2017 (jw K σ) 0 [(0, .ref (K.2.2 + a0)), (1, .int l1)] []
  unfold f6_add at h
  refine J_aload_n (i := 0) (p := 0) C dX6_add_0 rfl rfl rfl ?_
  refine Jc_getI C fp_RX6_13 h_a0 rfl dX6_add_1 rfl ?_
  refine J_aload_n (i := 0) (p := 0) C dX6_add_4 rfl rfl rfl ?_
  refine Jc_getS (o2 := 1) (r2 := a0 + 1) C fp_RX6_7 rfl h_a0 rfl dX6_add_5 rfl ?_
  refine Jc_alen C 1 (ks_6_0 h_a0) (by decide) ((jc_B (kc_spec (ks_6_0 h_a0) (by decide)).2)) rfl dX6_add_8 rfl ?_
  refine J_icmp_lt (t := 14) C dX6_add_9 (by decide) rfl (fun c_1 => ?_) (fun c_1 => ?_)
  · have h := h.pos c_1
    refine J_aload_n (i := 0) (p := 0) C dX6_add_14 rfl rfl rfl ?_
    refine Jc_getS (o2 := 1) (r2 := a0 + 1) C fp_RX6_7 rfl h_a0 rfl dX6_add_15 rfl ?_
    refine J_aload_n (i := 0) (p := 0) C dX6_add_18 rfl rfl rfl ?_
    refine Jc_getI C fp_RX6_13 h_a0 rfl dX6_add_19 rfl ?_
    refine J_iload_n (i := 1) (p := 1) C dX6_add_22 rfl rfl rfl ?_
    refine J_i2b C dX6_add_23 rfl ?_
    obtain ⟨g_2, h⟩ := Ok.ofgd h
    obtain ⟨σx_1, e_σx_1, h⟩ := Ok.nm h
    refine Jc_bast C id (ks_6_0 h_a0) rfl g_2 e_σx_1 dX6_add_24 rfl ?_
    refine J_aload_n (i := 0) (p := 0) C dX6_add_25 rfl rfl rfl ?_
    refine J_dup C rfl dX6_add_26 rfl ?_
    refine Jc_getI C fp_RX6_13 h_a0 rfl dX6_add_27 rfl ?_
    refine J_iconst (v := 1) C (by decide) dX6_add_30 rfl ?_
    refine J_iadd C dX6_add_31 rfl ?_
    obtain ⟨σx_2, e_σx_2, h⟩ := Ok.nm h
    refine Jc_putI C id fp_RX6_13 fw_6_1 rfl h_a0 rfl e_σx_2 dX6_add_32 rfl ?_
    refine J_iconst (v := 1) C (by decide) dX6_add_35 rfl ?_
    rw [← hQQ]
    exact J_zret C hret rfl (Nat.le_of_ble_eq_true rfl) (Nat.le_of_ble_eq_true rfl) ⟨_, h.osome, rfl, rfl, rfl⟩ dX6_add_36
  · have h := h.neg c_1
    refine J_iconst (v := 0) C (by decide) dX6_add_12 rfl ?_
    rw [← hQQ]
    exact J_zret C hret rfl (Nat.le_of_ble_eq_true rfl) (Nat.le_of_ble_eq_true rfl) ⟨_, h.osome, rfl, rfl, rfl⟩ dX6_add_13
def f11_feed_j144 (l1 : Int64) (σ_144 : Sto) (l5_144 : Int32) : Option ((Sto × Int32) ⊕ Sto) :=
  stp (l5_144 + (-8 : Int32)) fun x5_1 =>
  some (.inl (σ_144, x5_1))
def f11_feed_b113 (l1 : Int64) (σ_113 : Sto) (l5_113 : Int32) : Option ((Sto × Int32) ⊕ Sto) :=
  if l5_113 < 0 then
    some (.inr σ_113)
  else
    stp ((Int64.toInt32 (UInt64.toInt64 (Int64.toUInt64 l1 >>> (Int64.toUInt64 (Int32.toInt64 l5_113) &&& Int64.toUInt64 63)))) &&& (255 : Int32)) fun x6_2 =>
    if x6_2 = 0 then
      f11_feed_j144 l1 σ_113 l5_113
    else
      bnd (f6_add σ_113 8 x6_2) fun p_3 =>
      f11_feed_j144 l1 p_3.2 l5_113
def f11_feed_j113 (l1 : Int64) (σ_113 : Sto) (l5_113 : Int32) : Option ((Int32 × Sto) ⊕ (Nat × Sto)) :=
  bnd (loopF (fun s_113 => f11_feed_b113 l1 s_113.1 s_113.2) FU (σ_113, l5_113)) fun r_113 =>
    some (.inl (fI r_113 8 1, r_113))
def f11_feed_j61 (l1 : Int64) (σ_9 : Sto) (l3_61 : Int32) (l5_61 : Int32) (s0_61 : Int32) : Option ((Int32 × Int32 × Int32) ⊕ (Int32 × Int32)) :=
  stp s0_61 fun x4_3 =>
  stp (l5_61 + (-8 : Int32)) fun x5_4 =>
  some (.inl (l3_61, x4_3, x5_4))
def f11_feed_j60 (l1 : Int64) (σ_9 : Sto) (l3_60 : Int32) (l5_60 : Int32) : Option ((Int32 × Int32 × Int32) ⊕ (Int32 × Int32)) :=
  f11_feed_j61 l1 σ_9 l3_60 l5_60 (0 : Int32)
def f11_feed_j56 (l1 : Int64) (σ_9 : Sto) (l3_56 : Int32) (l5_56 : Int32) : Option ((Int32 × Int32 × Int32) ⊕ (Int32 × Int32)) :=
  f11_feed_j61 l1 σ_9 l3_56 l5_56 (1 : Int32)
def f11_feed_j36 (l1 : Int64) (σ_9 : Sto) (l4_36 : Int32) (l5_36 : Int32) (l6_36 : Int32) (s0_36 : Int32) (s1_36 : Int32) : Option ((Int32 × Int32 × Int32) ⊕ (Int32 × Int32)) :=
  stp (s0_36 + s1_36) fun x3_5 =>
  if l4_36 = 0 then
    f11_feed_j60 l1 σ_9 x3_5 l5_36
  else
    if l6_36 = 0 then
      f11_feed_j56 l1 σ_9 x3_5 l5_36
    else
      bnd (f11_isLetter l6_36) fun p_6 =>
      if p_6 = 0 then
        f11_feed_j60 l1 σ_9 x3_5 l5_36
      else
        f11_feed_j56 l1 σ_9 x3_5 l5_36
def f11_feed_b9 (l1 : Int64) (σ_9 : Sto) (l3_9 : Int32) (l4_9 : Int32) (l5_9 : Int32) : Option ((Int32 × Int32 × Int32) ⊕ (Int32 × Int32)) :=
  if l5_9 < 0 then
    some (.inr (l3_9, l4_9))
  else
    stp ((Int64.toInt32 (UInt64.toInt64 (Int64.toUInt64 l1 >>> (Int64.toUInt64 (Int32.toInt64 l5_9) &&& Int64.toUInt64 63)))) &&& (255 : Int32)) fun x6_7 =>
    if x6_7 = 0 then
      f11_feed_j36 l1 σ_9 l4_9 l5_9 x6_7 l3_9 (0 : Int32)
    else
      f11_feed_j36 l1 σ_9 l4_9 l5_9 x6_7 l3_9 (1 : Int32)
def f11_feed_j9 (l1 : Int64) (σ_9 : Sto) (l3_9 : Int32) (l4_9 : Int32) (l5_9 : Int32) : Option ((Int32 × Sto) ⊕ (Nat × Sto)) :=
  bnd (loopF (fun s_9 => f11_feed_b9 l1 σ_9 s_9.1 s_9.2.1 s_9.2.2) FU (l3_9, l4_9, l5_9)) fun r_9 =>
    if r_9.2 = 0 then
      some (.inr (2, σ_9))
    else
      if ((fI σ_9 8 1) + r_9.1) ≤ (200 : Int32) then
        stp (56 : Int32) fun x5_8 =>
        f11_feed_j113 l1 σ_9 x5_8
      else
        some (.inr (3, σ_9))
def f11_feed (σ : Sto) (l1 : Int64) : Option ((Int32 × Sto) ⊕ (Nat × Sto)) :=
  stp (0 : Int32) fun x3_9 =>
  stp (1 : Int32) fun x4_10 =>
  stp (56 : Int32) fun x5_11 =>
  f11_feed_j9 l1 σ x3_9 x4_10 x5_11
set_option maxHeartbeats 4000000 in
set_option maxRecDepth 100000 in
theorem k11_feed {l : Launch} {K : JK} (hl : l.stackTraces = false) {σ : Sto} {l1 : Int64}  {Qf : (Int32 × Sto) ⊕ (Nat × Sto) → Prop} (h : Ok (f11_feed σ l1) Qf) : Con l K yX11_feed (.code yX11_feed cX11_feed 7 (some .int) :: TB) 6 1 6 False [.ref (K.2.2 + 0), .long l1] 2017 (jw K σ) (PR (fun p => Qf (.inl p)) (fun p => some (.int p.1)) (fun p => jw K p.2)) (PX Qf (fun s => jw K s)) := by
  refine Con.enter (own := RX11) hl (by decide) rfl (Nat.le_of_ble_eq_true rfl) ?_
  intro X hX hR C hret hnt
  generalize hQQ : jQ X K 1 6 (PR (fun p => Qf (.inl p)) (fun p => some (.int p.1)) (fun p => jw K p.2)) (PX Qf (fun s => jw K s)) False = QQ
  change J X K 7 False QQ 0 0 2017 (jw K σ) 0 [(0, .ref (K.2.2 + 0)), (1, .long l1)] []
  have hj_113 : (∀ (σ_113 : Sto) (l5_113 : Int32), Ok (f11_feed_j113 l1 σ_113 l5_113) Qf → J X K 7 False QQ 0 0 2017 (jw K σ_113) 113 [(0, .ref (K.2.2 + 0)), (1, .long l1), (5, .int l5_113)] []) := by
    intro σ_113 l5_113 h
    unfold f11_feed_j113 at h
    refine loop_gen (S := Sto × Int32) (P := fun s_113 => J X K 7 False QQ 0 0 2017 (jw K s_113.1) 113 [(0, .ref (K.2.2 + 0)), (1, .long l1), (5, .int s_113.2)] []) ?_ FU (σ_113, l5_113) (Ok.ofbnd h)
    intro B_113 hB_113 hE_113 s_113 h
    obtain ⟨σ_113, l5_113⟩ := s_113
    have h : Ok (f11_feed_b113 l1 σ_113 l5_113) B_113 := h
    change J X K 7 False QQ 0 0 2017 (jw K σ_113) 113 [(0, .ref (K.2.2 + 0)), (1, .long l1), (5, .int l5_113)] []
    have hj_144 : (∀ (σ_144 : Sto) (l5_144 : Int32), Ok (f11_feed_j144 l1 σ_144 l5_144) B_113 → J X K 7 False QQ 0 0 2017 (jw K σ_144) 144 [(0, .ref (K.2.2 + 0)), (1, .long l1), (5, .int l5_144)] []) := by
      intro σ_144 l5_144 h
      unfold f11_feed_j144 at h
      obtain ⟨x5_1, e_x5_1, h⟩ := Ok.nm h
      refine J_iincE (i := 5) (p := 2) (lv' := [(5, .int x5_1), (0, .ref (K.2.2 + 0)), (1, .long l1)]) C e_x5_1 dX11_feed_144 rfl (by decide) (Nat.le_of_ble_eq_true rfl) rfl rfl ?_
      refine J_goto (t := 113) C dX11_feed_147 (by decide) ?_
      refine J.sub [1, 2, 0] rfl ?_
      exact hB_113 (σ_144, x5_1) h.osome
    unfold f11_feed_b113 at h
    refine J_iload (i := 5) (p := 2) C dX11_feed_113 rfl rfl ?_
    refine J_if_lt (t := 150) C dX11_feed_115 (by decide) rfl (fun c_1 => ?_) (fun c_1 => ?_)
    · have h := h.pos c_1
      have h := hE_113 σ_113 h.osome
      try dsimp only at h
      refine J_aload_n (i := 0) (p := 0) C dX11_feed_150 rfl rfl rfl ?_
      refine Jc_getS (o2 := 8) (r2 := 8) C fp_RX11_21 rfl rfl rfl dX11_feed_151 rfl ?_
      refine Jc_getI C fp_RX11_89 rfl rfl dX11_feed_154 rfl ?_
      rw [← hQQ]
      exact J_iret C hret (Nat.le_of_ble_eq_true rfl) (Nat.le_of_ble_eq_true rfl) ⟨_, h.osome, rfl, rfl, rfl⟩ dX11_feed_157
    · have h := h.neg c_1
      refine J_lload_n (i := 1) (p := 1) C dX11_feed_118 rfl rfl rfl ?_
      refine J_iload (i := 5) (p := 2) C dX11_feed_119 rfl rfl ?_
      refine J_lushr C dX11_feed_121 rfl ?_
      refine J_l2i C dX11_feed_122 rfl ?_
      refine J_sipush (v := 255) C (by decide) dX11_feed_123 rfl ?_
      refine J_iand C dX11_feed_126 rfl ?_
      obtain ⟨x6_2, e_x6_2, h⟩ := Ok.nm h
      refine J_istoreE (i := 6) (lv' := [(6, .int x6_2), (0, .ref (K.2.2 + 0)), (1, .long l1), (5, .int l5_113)]) C e_x6_2 dX11_feed_127 (Nat.le_of_ble_eq_true rfl) rfl rfl ?_
      refine J_iload (i := 6) (p := 0) C dX11_feed_129 rfl rfl ?_
      refine J_if_eq (t := 144) C dX11_feed_131 (by decide) rfl (fun c_2 => ?_) (fun c_2 => ?_)
      · have h := h.pos c_2
        refine J.sub [1, 2, 3] rfl ?_
        exact hj_144 σ_113 l5_113 h
      · have h := h.neg c_2
        refine J_aload_n (i := 0) (p := 1) C dX11_feed_134 rfl rfl rfl ?_
        refine Jc_getS (o2 := 8) (r2 := 8) C fp_RX11_21 rfl rfl rfl dX11_feed_135 rfl ?_
        refine J_iload (i := 6) (p := 0) C dX11_feed_138 rfl rfl ?_
        refine Jc_cV (rest := []) (st9 := fun p_3 => [.int p_3.1]) C hR hX cv_RX11_97 rfl (Nat.le_of_ble_eq_true rfl) (k6_add hl rfl (Ok.ofbnd h)) rfl rfl (Nat.le_of_ble_eq_true rfl) (Nat.le_of_ble_eq_true rfl) (Nat.le_of_ble_eq_true rfl) ⟨(Nat.le_of_ble_eq_true rfl), (Nat.le_of_ble_eq_true rfl)⟩ dX11_feed_140 rfl (fun E n9 w9 hx => JT_n hx) (fun _ => rfl) (fun p_3 h => ?_)
        have h : Ok _ _ := h
        change J X K 7 False QQ 0 0 2017 (jw K p_3.2) 143 [(6, .int x6_2), (0, .ref (K.2.2 + 0)), (1, .long l1), (5, .int l5_113)] [.int p_3.1]
        refine J_pop C rfl dX11_feed_143 rfl ?_
        refine J.sub [1, 2, 3] rfl ?_
        exact hj_144 p_3.2 l5_113 h
  have hj_9 : (∀ (σ_9 : Sto) (l3_9 : Int32) (l4_9 : Int32) (l5_9 : Int32), Ok (f11_feed_j9 l1 σ_9 l3_9 l4_9 l5_9) Qf → J X K 7 False QQ 0 0 2017 (jw K σ_9) 9 [(0, .ref (K.2.2 + 0)), (1, .long l1), (3, .int l3_9), (4, .int l4_9), (5, .int l5_9)] []) := by
    intro σ_9 l3_9 l4_9 l5_9 h
    unfold f11_feed_j9 at h
    refine loop_gen (S := Int32 × Int32 × Int32) (P := fun s_9 => J X K 7 False QQ 0 0 2017 (jw K σ_9) 9 [(0, .ref (K.2.2 + 0)), (1, .long l1), (3, .int s_9.1), (4, .int s_9.2.1), (5, .int s_9.2.2)] []) ?_ FU (l3_9, l4_9, l5_9) (Ok.ofbnd h)
    intro B_9 hB_9 hE_9 s_9 h
    obtain ⟨l3_9, l4_9, l5_9⟩ := s_9
    have h : Ok (f11_feed_b9 l1 σ_9 l3_9 l4_9 l5_9) B_9 := h
    change J X K 7 False QQ 0 0 2017 (jw K σ_9) 9 [(0, .ref (K.2.2 + 0)), (1, .long l1), (3, .int l3_9), (4, .int l4_9), (5, .int l5_9)] []
    have hj_61 : (∀ (l3_61 : Int32) (l5_61 : Int32) (s0_61 : Int32), Ok (f11_feed_j61 l1 σ_9 l3_61 l5_61 s0_61) B_9 → J X K 7 False QQ 0 0 2017 (jw K σ_9) 61 [(0, .ref (K.2.2 + 0)), (1, .long l1), (3, .int l3_61), (5, .int l5_61)] [.int s0_61]) := by
      intro l3_61 l5_61 s0_61 h
      unfold f11_feed_j61 at h
      obtain ⟨x4_3, e_x4_3, h⟩ := Ok.nm h
      refine J_istoreE (i := 4) (lv' := [(4, .int x4_3), (0, .ref (K.2.2 + 0)), (1, .long l1), (3, .int l3_61), (5, .int l5_61)]) C e_x4_3 dX11_feed_61 (Nat.le_of_ble_eq_true rfl) rfl rfl ?_
      obtain ⟨x5_4, e_x5_4, h⟩ := Ok.nm h
      refine J_iincE (i := 5) (p := 4) (lv' := [(5, .int x5_4), (4, .int x4_3), (0, .ref (K.2.2 + 0)), (1, .long l1), (3, .int l3_61)]) C e_x5_4 dX11_feed_63 rfl (by decide) (Nat.le_of_ble_eq_true rfl) rfl rfl ?_
      refine J_goto (t := 9) C dX11_feed_66 (by decide) ?_
      refine J.sub [2, 3, 4, 1, 0] rfl ?_
      exact hB_9 (l3_61, x4_3, x5_4) h.osome
    have hj_60 : (∀ (l3_60 : Int32) (l5_60 : Int32), Ok (f11_feed_j60 l1 σ_9 l3_60 l5_60) B_9 → J X K 7 False QQ 0 0 2017 (jw K σ_9) 60 [(0, .ref (K.2.2 + 0)), (1, .long l1), (3, .int l3_60), (5, .int l5_60)] []) := by
      intro l3_60 l5_60 h
      unfold f11_feed_j60 at h
      refine J_iconst (v := 0) C (by decide) dX11_feed_60 rfl ?_
      exact hj_61 l3_60 l5_60 (0 : Int32) h
    have hj_56 : (∀ (l3_56 : Int32) (l5_56 : Int32), Ok (f11_feed_j56 l1 σ_9 l3_56 l5_56) B_9 → J X K 7 False QQ 0 0 2017 (jw K σ_9) 56 [(0, .ref (K.2.2 + 0)), (1, .long l1), (3, .int l3_56), (5, .int l5_56)] []) := by
      intro l3_56 l5_56 h
      unfold f11_feed_j56 at h
      refine J_iconst (v := 1) C (by decide) dX11_feed_56 rfl ?_
      refine J_goto (t := 61) C dX11_feed_57 (by decide) ?_
      exact hj_61 l3_56 l5_56 (1 : Int32) h
    have hj_36 : (∀ (l4_36 : Int32) (l5_36 : Int32) (l6_36 : Int32) (s0_36 : Int32) (s1_36 : Int32), Ok (f11_feed_j36 l1 σ_9 l4_36 l5_36 l6_36 s0_36 s1_36) B_9 → J X K 7 False QQ 0 0 2017 (jw K σ_9) 36 [(0, .ref (K.2.2 + 0)), (1, .long l1), (4, .int l4_36), (5, .int l5_36), (6, .int l6_36)] [.int s1_36, .int s0_36]) := by
      intro l4_36 l5_36 l6_36 s0_36 s1_36 h
      unfold f11_feed_j36 at h
      refine J_iadd C dX11_feed_36 rfl ?_
      obtain ⟨x3_5, e_x3_5, h⟩ := Ok.nm h
      refine J_istoreE_n (i := 3) (lv' := [(3, .int x3_5), (0, .ref (K.2.2 + 0)), (1, .long l1), (4, .int l4_36), (5, .int l5_36), (6, .int l6_36)]) C e_x3_5 dX11_feed_37 rfl (Nat.le_of_ble_eq_true rfl) rfl rfl ?_
      refine J_iload (i := 4) (p := 3) C dX11_feed_38 rfl rfl ?_
      refine J_if_eq (t := 60) C dX11_feed_40 (by decide) rfl (fun c_4 => ?_) (fun c_4 => ?_)
      · have h := h.pos c_4
        refine J.sub [1, 2, 0, 4] rfl ?_
        exact hj_60 x3_5 l5_36 h
      · have h := h.neg c_4
        refine J_iload (i := 6) (p := 5) C dX11_feed_43 rfl rfl ?_
        refine J_if_eq (t := 56) C dX11_feed_45 (by decide) rfl (fun c_5 => ?_) (fun c_5 => ?_)
        · have h := h.pos c_5
          refine J.sub [1, 2, 0, 4] rfl ?_
          exact hj_56 x3_5 l5_36 h
        · have h := h.neg c_5
          refine J_iload (i := 6) (p := 5) C dX11_feed_48 rfl rfl ?_
          refine J_cS (rest := []) (st9 := fun p_6 => [.int p_6]) C hR hX cs_RX11_78 (k11_isLetter hl  (Ok.ofbnd h)) rfl rfl (Nat.le_of_ble_eq_true rfl) (Nat.le_of_ble_eq_true rfl) (Nat.le_of_ble_eq_true rfl) ⟨(Nat.le_of_ble_eq_true rfl), (Nat.le_of_ble_eq_true rfl)⟩ dX11_feed_50 rfl (fun E n9 w9 hx => JT_n hx) (fun _ => rfl) (fun p_6 h => ?_)
          have h : Ok _ _ := h
          change J X K 7 False QQ 0 0 2017 (jw K σ_9) 53 [(3, .int x3_5), (0, .ref (K.2.2 + 0)), (1, .long l1), (4, .int l4_36), (5, .int l5_36), (6, .int l6_36)] [.int p_6]
          refine J_if_eq (t := 60) C dX11_feed_53 (by decide) rfl (fun c_7 => ?_) (fun c_7 => ?_)
          · have h := h.pos c_7
            refine J.sub [1, 2, 0, 4] rfl ?_
            exact hj_60 x3_5 l5_36 h
          · have h := h.neg c_7
            refine J.sub [1, 2, 0, 4] rfl ?_
            exact hj_56 x3_5 l5_36 h
    unfold f11_feed_b9 at h
    refine J_iload (i := 5) (p := 4) C dX11_feed_9 rfl rfl ?_
    refine J_if_lt (t := 69) C dX11_feed_11 (by decide) rfl (fun c_8 => ?_) (fun c_8 => ?_)
    · have h := h.pos c_8
      have h := hE_9 (l3_9, l4_9) h.osome
      try dsimp only at h
      refine J_iload (i := 4) (p := 3) C dX11_feed_69 rfl rfl ?_
      refine J_if_ne (t := 84) C dX11_feed_71 (by decide) rfl (fun c_9 => ?_) (fun c_9 => ?_)
      · have h := h.neg c_9
        refine J_aload_n (i := 0) (p := 0) C dX11_feed_84 rfl rfl rfl ?_
        refine Jc_getS (o2 := 8) (r2 := 8) C fp_RX11_21 rfl rfl rfl dX11_feed_85 rfl ?_
        refine Jc_getI C fp_RX11_89 rfl rfl dX11_feed_88 rfl ?_
        refine J_iload_n (i := 3) (p := 2) C dX11_feed_91 rfl rfl rfl ?_
        refine J_iadd C dX11_feed_92 rfl ?_
        refine J_sipush (v := 200) C (by decide) dX11_feed_93 rfl ?_
        refine J_icmp_le (t := 109) C dX11_feed_96 (by decide) rfl (fun c_10 => ?_) (fun c_10 => ?_)
        · have h := h.pos c_10
          refine J_bipush (v := 56) C (by decide) dX11_feed_109 rfl ?_
          obtain ⟨x5_6, e_x5_6, h⟩ := Ok.nm h
          refine J_istoreE (i := 5) (lv' := [(5, .int x5_6), (0, .ref (K.2.2 + 0)), (1, .long l1), (3, .int l3_9), (4, .int l4_9)]) C e_x5_6 dX11_feed_111 (Nat.le_of_ble_eq_true rfl) rfl rfl ?_
          refine J.sub [1, 2, 0] rfl ?_
          exact hj_113 σ_9 x5_6 h
        · have h := h.neg c_10
          rw [← hQQ]
          exact J_throw (is := 94) (text := "the tape would be too long") C hnt th_92 (by decide +kernel) dX11_feed_99 dX11_feed_102 dX11_feed_103 dX11_feed_105 dX11_feed_108 (by rw [hR]; exact (Nat.le_of_ble_eq_true rfl)) (by rw [hR]; exact (Nat.le_of_ble_eq_true rfl)) (by rw [hR]; exact (Nat.le_of_ble_eq_true rfl)) (by rw [hR]; exact (Nat.le_of_ble_eq_true rfl)) (Nat.le_of_ble_eq_true rfl) (Nat.le_of_ble_eq_true rfl) ⟨3, σ_9, h.osome, rfl, rfl, rfl⟩
      · have h := h.pos (Decidable.not_not.mp c_9)
        rw [← hQQ]
        exact J_throw (is := 84) (text := "a byte is no letter") C hnt th_82 (by decide +kernel) dX11_feed_74 dX11_feed_77 dX11_feed_78 dX11_feed_80 dX11_feed_83 (by rw [hR]; exact (Nat.le_of_ble_eq_true rfl)) (by rw [hR]; exact (Nat.le_of_ble_eq_true rfl)) (by rw [hR]; exact (Nat.le_of_ble_eq_true rfl)) (by rw [hR]; exact (Nat.le_of_ble_eq_true rfl)) (Nat.le_of_ble_eq_true rfl) (Nat.le_of_ble_eq_true rfl) ⟨2, σ_9, h.osome, rfl, rfl, rfl⟩
    · have h := h.neg c_8
      refine J_lload_n (i := 1) (p := 1) C dX11_feed_14 rfl rfl rfl ?_
      refine J_iload (i := 5) (p := 4) C dX11_feed_15 rfl rfl ?_
      refine J_lushr C dX11_feed_17 rfl ?_
      refine J_l2i C dX11_feed_18 rfl ?_
      refine J_sipush (v := 255) C (by decide) dX11_feed_19 rfl ?_
      refine J_iand C dX11_feed_22 rfl ?_
      obtain ⟨x6_7, e_x6_7, h⟩ := Ok.nm h
      refine J_istoreE (i := 6) (lv' := [(6, .int x6_7), (0, .ref (K.2.2 + 0)), (1, .long l1), (3, .int l3_9), (4, .int l4_9), (5, .int l5_9)]) C e_x6_7 dX11_feed_23 (Nat.le_of_ble_eq_true rfl) rfl rfl ?_
      refine J_iload_n (i := 3) (p := 3) C dX11_feed_25 rfl rfl rfl ?_
      refine J_iload (i := 6) (p := 0) C dX11_feed_26 rfl rfl ?_
      refine J_if_eq (t := 35) C dX11_feed_28 (by decide) rfl (fun c_11 => ?_) (fun c_11 => ?_)
      · have h := h.pos c_11
        refine J_iconst (v := 0) C (by decide) dX11_feed_35 rfl ?_
        refine J.sub [1, 2, 4, 5, 0] rfl ?_
        exact hj_36 l4_9 l5_9 x6_7 l3_9 (0 : Int32) h
      · have h := h.neg c_11
        refine J_iconst (v := 1) C (by decide) dX11_feed_31 rfl ?_
        refine J_goto (t := 36) C dX11_feed_32 (by decide) ?_
        refine J.sub [1, 2, 4, 5, 0] rfl ?_
        exact hj_36 l4_9 l5_9 x6_7 l3_9 (1 : Int32) h
  unfold f11_feed at h
  refine J_iconst (v := 0) C (by decide) dX11_feed_0 rfl ?_
  obtain ⟨x3_9, e_x3_9, h⟩ := Ok.nm h
  refine J_istoreE_n (i := 3) (lv' := [(3, .int x3_9), (0, .ref (K.2.2 + 0)), (1, .long l1)]) C e_x3_9 dX11_feed_1 rfl (Nat.le_of_ble_eq_true rfl) rfl rfl ?_
  refine J_iconst (v := 1) C (by decide) dX11_feed_2 rfl ?_
  obtain ⟨x4_10, e_x4_10, h⟩ := Ok.nm h
  refine J_istoreE (i := 4) (lv' := [(4, .int x4_10), (3, .int x3_9), (0, .ref (K.2.2 + 0)), (1, .long l1)]) C e_x4_10 dX11_feed_3 (Nat.le_of_ble_eq_true rfl) rfl rfl ?_
  refine J_bipush (v := 56) C (by decide) dX11_feed_5 rfl ?_
  obtain ⟨x5_11, e_x5_11, h⟩ := Ok.nm h
  refine J_istoreE (i := 5) (lv' := [(5, .int x5_11), (4, .int x4_10), (3, .int x3_9), (0, .ref (K.2.2 + 0)), (1, .long l1)]) C e_x5_11 dX11_feed_7 (Nat.le_of_ble_eq_true rfl) rfl rfl ?_
  refine J.sub [3, 4, 2, 1, 0] rfl ?_
  exact hj_9 σ x3_9 x4_10 x5_11 h
def f11_clearTape (σ : Sto) : Option (Int32 × Sto) :=
  stp (fI σ 8 1) fun x1_1 =>
  stp (uI σ 8 1 (0 : Int32)) fun σx_2 =>
  some (x1_1, σx_2)
set_option maxHeartbeats 4000000 in
set_option maxRecDepth 100000 in
theorem k11_clearTape {l : Launch} {K : JK} (hl : l.stackTraces = false) {σ : Sto}   {Qf : Int32 × Sto → Prop} (h : Ok (f11_clearTape σ) Qf) : Con l K yX11_clearTape (.code yX11_clearTape cX11_clearTape 2 (some .int) :: TB) 0 0 0 False [.ref (K.2.2 + 0)] 2017 (jw K σ) (PR Qf (fun p => some (.int p.1)) (fun p => jw K p.2)) PN := by
  refine Con.enter (own := RX11) hl (by decide) rfl (Nat.le_of_ble_eq_true rfl) ?_
  intro X hX hR C hret hnt
  generalize hQQ : jQ X K 0 0 (PR Qf (fun p => some (.int p.1)) (fun p => jw K p.2)) PN False = QQ
  change J X K 2 False QQ 0 0 2017 (jw K σ) 0 [(0, .ref (K.2.2 + 0))] []
  unfold f11_clearTape at h
  refine J_aload_n (i := 0) (p := 0) C dX11_clearTape_0 rfl rfl rfl ?_
  refine Jc_getS (o2 := 8) (r2 := 8) C fp_RX11_21 rfl rfl rfl dX11_clearTape_1 rfl ?_
  refine Jc_getI C fp_RX11_89 rfl rfl dX11_clearTape_4 rfl ?_
  obtain ⟨x1_1, e_x1_1, h⟩ := Ok.nm h
  refine J_istoreE_n (i := 1) (lv' := [(1, .int x1_1), (0, .ref (K.2.2 + 0))]) C e_x1_1 dX11_clearTape_7 rfl (Nat.le_of_ble_eq_true rfl) rfl rfl ?_
  refine J_aload_n (i := 0) (p := 1) C dX11_clearTape_8 rfl rfl rfl ?_
  refine Jc_getS (o2 := 8) (r2 := 8) C fp_RX11_21 rfl rfl rfl dX11_clearTape_9 rfl ?_
  refine J_iconst (v := 0) C (by decide) dX11_clearTape_12 rfl ?_
  obtain ⟨σx_2, e_σx_2, h⟩ := Ok.nm h
  refine Jc_putI C id fp_RX11_89 fw_6_1 rfl rfl rfl e_σx_2 dX11_clearTape_13 rfl ?_
  refine J_iload_n (i := 1) (p := 0) C dX11_clearTape_16 rfl rfl rfl ?_
  rw [← hQQ]
  exact J_iret C hret (Nat.le_of_ble_eq_true rfl) (Nat.le_of_ble_eq_true rfl) ⟨_, h.osome, rfl, rfl, rfl⟩ dX11_clearTape_17
def f11_requirePlace_j15 (l1 : Int32) (σ_15 : Sto) : Option (Sto ⊕ (Nat × Sto)) :=
  some (.inr (1, σ_15))
def f11_requirePlace (σ : Sto) (l1 : Int32) : Option (Sto ⊕ (Nat × Sto)) :=
  if l1 < 0 then
    f11_requirePlace_j15 l1 σ
  else
    if l1 ≤ (fI σ 1 1) then
      some (.inl σ)
    else
      f11_requirePlace_j15 l1 σ
set_option maxHeartbeats 4000000 in
set_option maxRecDepth 100000 in
theorem k11_requirePlace {l : Launch} {K : JK} (hl : l.stackTraces = false) {σ : Sto} {l1 : Int32}  {Qf : Sto ⊕ (Nat × Sto) → Prop} (h : Ok (f11_requirePlace σ l1) Qf) : Con l K yX11_requirePlace (.code yX11_requirePlace cX11_requirePlace 2 none :: TB) 6 1 6 False [.ref (K.2.2 + 0), .int l1] 2017 (jw K σ) (PR (fun p => Qf (.inl p)) (fun p => none) (fun p => jw K p)) (PX Qf (fun s => jw K s)) := by
  refine Con.enter (own := RX11) hl (by decide) rfl (Nat.le_of_ble_eq_true rfl) ?_
  intro X hX hR C hret hnt
  generalize hQQ : jQ X K 1 6 (PR (fun p => Qf (.inl p)) (fun p => none) (fun p => jw K p)) (PX Qf (fun s => jw K s)) False = QQ
  change J X K 2 False QQ 0 0 2017 (jw K σ) 0 [(0, .ref (K.2.2 + 0)), (1, .int l1)] []
  have hj_15 : (∀ (σ_15 : Sto), Ok (f11_requirePlace_j15 l1 σ_15) Qf → J X K 2 False QQ 0 0 2017 (jw K σ_15) 15 [] []) := by
    intro σ_15 h
    unfold f11_requirePlace_j15 at h
    rw [← hQQ]
    exact J_throwW (is := 397) (text := "there is no such place") C hnt th_119 (by decide +kernel) dX11_requirePlace_15 dX11_requirePlace_18 dX11_requirePlace_19 dX11_requirePlace_22 dX11_requirePlace_25 (by rw [hR]; exact (Nat.le_of_ble_eq_true rfl)) (by rw [hR]; exact (Nat.le_of_ble_eq_true rfl)) (by rw [hR]; exact (Nat.le_of_ble_eq_true rfl)) (by rw [hR]; exact (Nat.le_of_ble_eq_true rfl)) (Nat.le_of_ble_eq_true rfl) (Nat.le_of_ble_eq_true rfl) ⟨1, σ_15, h.osome, rfl, rfl, rfl⟩
  unfold f11_requirePlace at h
  refine J_iload_n (i := 1) (p := 1) C dX11_requirePlace_0 rfl rfl rfl ?_
  refine J_if_lt (t := 15) C dX11_requirePlace_1 (by decide) rfl (fun c_1 => ?_) (fun c_1 => ?_)
  · have h := h.pos c_1
    refine J.sub [] rfl ?_
    exact hj_15 σ h
  · have h := h.neg c_1
    refine J_iload_n (i := 1) (p := 1) C dX11_requirePlace_4 rfl rfl rfl ?_
    refine J_aload_n (i := 0) (p := 0) C dX11_requirePlace_5 rfl rfl rfl ?_
    refine Jc_getS (o2 := 1) (r2 := 1) C fp_RX11_10 rfl rfl rfl dX11_requirePlace_6 rfl ?_
    refine Jc_getI C fp_RX11_144 rfl rfl dX11_requirePlace_9 rfl ?_
    refine J_icmp_le (t := 26) C dX11_requirePlace_12 (by decide) rfl (fun c_2 => ?_) (fun c_2 => ?_)
    · have h := h.pos c_2
      rw [← hQQ]
      exact J_vret C hret (Nat.le_of_ble_eq_true rfl) (Nat.le_of_ble_eq_true rfl) ⟨_, h.osome, rfl, rfl, rfl⟩ dX11_requirePlace_26
    · have h := h.neg c_2
      refine J.sub [] rfl ?_
      exact hj_15 σ h
def f11_requirePart (σ : Sto) (l1 : Int32) (l2 : Int32) : Option (Sto ⊕ (Nat × Sto)) :=
  bndX (f11_requirePlace σ l1) fun p_1 =>
  bndX (f11_requirePlace p_1 l2) fun p_2 =>
  if l1 ≤ l2 then
    some (.inl p_2)
  else
    some (.inr (2, p_2))
set_option maxHeartbeats 4000000 in
set_option maxRecDepth 100000 in
theorem k11_requirePart {l : Launch} {K : JK} (hl : l.stackTraces = false) {σ : Sto} {l1 : Int32} {l2 : Int32}  {Qf : Sto ⊕ (Nat × Sto) → Prop} (h : Ok (f11_requirePart σ l1 l2) Qf) : Con l K yX11_requirePart (.code yX11_requirePart cX11_requirePart 3 none :: TB) 7 3 18 False [.ref (K.2.2 + 0), .int l1, .int l2] 2017 (jw K σ) (PR (fun p => Qf (.inl p)) (fun p => none) (fun p => jw K p)) (PX Qf (fun s => jw K s)) := by
  refine Con.enter (own := RX11) hl (by decide) rfl (Nat.le_of_ble_eq_true rfl) ?_
  intro X hX hR C hret hnt
  generalize hQQ : jQ X K 3 18 (PR (fun p => Qf (.inl p)) (fun p => none) (fun p => jw K p)) (PX Qf (fun s => jw K s)) False = QQ
  change J X K 3 False QQ 0 0 2017 (jw K σ) 0 [(0, .ref (K.2.2 + 0)), (1, .int l1), (2, .int l2)] []
  unfold f11_requirePart at h
  refine J_aload_n (i := 0) (p := 0) C dX11_requirePart_0 rfl rfl rfl ?_
  refine J_iload_n (i := 1) (p := 1) C dX11_requirePart_1 rfl rfl rfl ?_
  refine Jc_cV (rest := []) (st9 := fun p_1 => []) C hR hX cv_RX11_264 rfl (Nat.le_of_ble_eq_true rfl) (k11_requirePlace hl  (Ok.ofbndX h)) rfl rfl (Nat.le_of_ble_eq_true rfl) (Nat.le_of_ble_eq_true rfl) (Nat.le_of_ble_eq_true rfl) ⟨(Nat.le_of_ble_eq_true rfl), (Nat.le_of_ble_eq_true rfl)⟩ dX11_requirePart_2 rfl (fun E n9 w9 hx => by rw [← hQQ]; exact JT_x C hnt (Nat.le_of_ble_eq_true rfl) (Nat.le_of_ble_eq_true rfl) (fun c h => h) E n9 w9 hx) (fun _ => rfl) (fun p_1 h => ?_)
  have h : Ok _ _ := h
  change J X K 3 False QQ 1 6 2017 (jw K p_1) 5 [(0, .ref (K.2.2 + 0)), (1, .int l1), (2, .int l2)] []
  refine J_aload_n (i := 0) (p := 0) C dX11_requirePart_5 rfl rfl rfl ?_
  refine J_iload_n (i := 2) (p := 2) C dX11_requirePart_6 rfl rfl rfl ?_
  refine Jc_cV (rest := []) (st9 := fun p_2 => []) C hR hX cv_RX11_264 rfl (Nat.le_of_ble_eq_true rfl) (k11_requirePlace hl  (Ok.ofbndX h)) rfl rfl (Nat.le_of_ble_eq_true rfl) (Nat.le_of_ble_eq_true rfl) (Nat.le_of_ble_eq_true rfl) ⟨(Nat.le_of_ble_eq_true rfl), (Nat.le_of_ble_eq_true rfl)⟩ dX11_requirePart_7 rfl (fun E n9 w9 hx => by rw [← hQQ]; exact JT_x C hnt (Nat.le_of_ble_eq_true rfl) (Nat.le_of_ble_eq_true rfl) (fun c h => h) E n9 w9 hx) (fun _ => rfl) (fun p_2 h => ?_)
  have h : Ok _ _ := h
  change J X K 3 False QQ 2 12 2017 (jw K p_2) 10 [(0, .ref (K.2.2 + 0)), (1, .int l1), (2, .int l2)] []
  refine J_iload_n (i := 1) (p := 1) C dX11_requirePart_10 rfl rfl rfl ?_
  refine J_iload_n (i := 2) (p := 2) C dX11_requirePart_11 rfl rfl rfl ?_
  refine J_icmp_le (t := 25) C dX11_requirePart_12 (by decide) rfl (fun c_3 => ?_) (fun c_3 => ?_)
  · have h := h.pos c_3
    rw [← hQQ]
    exact J_vret C hret (Nat.le_of_ble_eq_true rfl) (Nat.le_of_ble_eq_true rfl) ⟨_, h.osome, rfl, rfl, rfl⟩ dX11_requirePart_25
  · have h := h.neg c_3
    rw [← hQQ]
    exact J_throw (is := 195) (text := "from is greater than to") C hnt th_82 (by decide +kernel) dX11_requirePart_15 dX11_requirePart_18 dX11_requirePart_19 dX11_requirePart_21 dX11_requirePart_24 (by rw [hR]; exact (Nat.le_of_ble_eq_true rfl)) (by rw [hR]; exact (Nat.le_of_ble_eq_true rfl)) (by rw [hR]; exact (Nat.le_of_ble_eq_true rfl)) (by rw [hR]; exact (Nat.le_of_ble_eq_true rfl)) (Nat.le_of_ble_eq_true rfl) (Nat.le_of_ble_eq_true rfl) ⟨2, p_2, h.osome, rfl, rfl, rfl⟩
def f6_become (σ : Sto) (a0 : Nat) (a1 : Nat) (l2 : Int32) (l3 : Int32) : Option (Sto) :=
  gd (cpok l2 (0 : Int32) l3 (ln a1) (ln (a0 + 1))) <|
  gd (fitB (aI σ a1) (Int32.toNatClampNeg l2) (Int32.toNatClampNeg l3)) <|
  stp (rA σ (a0 + 1) (va_cpy (aI σ a1) (aI σ (a0 + 1)) (Int32.toNatClampNeg l2) (Int32.toNatClampNeg (0 : Int32)) (Int32.toNatClampNeg l3))) fun σx_1 =>
  stp (uI σx_1 a0 1 l3) fun σx_2 =>
  some σx_2
set_option maxHeartbeats 4000000 in
set_option maxRecDepth 100000 in
theorem k6_become {l : Launch} {K : JK} (hl : l.stackTraces = false) {σ : Sto} {a0 : Nat} {a1 : Nat} {l2 : Int32} {l3 : Int32} (h_a0 : kc a0 = 6) (h_a1 : kc a1 = 13) {Qf : Sto → Prop} (h : Ok (f6_become σ a0 a1 l2 l3) Qf) : Con l K yX6_become (.code yX6_become cX6_become 4 none :: TB) 1 0 0 False [.ref (K.2.2 + a0), .ref (K.2.2 + a1), .int l2, .int l3] 2017 (jw K σ) (PR Qf (fun p => none) (fun p => jw K p)) PN := by
  refine Con.enter (own := RX6) hl (by decide) rfl (Nat.le_of_ble_eq_true rfl) ?_
  intro X hX hR C hret hnt
  generalize hQQ : jQ X K 0 0 (PR Qf (fun p => none) (fun p => jw K p)) PN False = QQ
  change J X K 4 False QQ 0 0 2017 (jw K σ) 0 [(0, .ref (K.2.2 + a0)), (1, .ref (K.2.2 + a1)), (2, .int l2), (3, .int l3)] []
  unfold f6_become at h
  refine J_aload_n (i := 1) (p := 1) C dX6_become_0 rfl rfl rfl ?_
  refine J_iload_n (i := 2) (p := 2) C dX6_become_1 rfl rfl rfl ?_
  refine J_aload_n (i := 0) (p := 0) C dX6_become_2 rfl rfl rfl ?_
  refine Jc_getS (o2 := 1) (r2 := a0 + 1) C fp_RX6_7 rfl h_a0 rfl dX6_become_3 rfl ?_
  refine J_iconst (v := 0) C (by decide) dX6_become_6 rfl ?_
  refine J_iload_n (i := 3) (p := 3) C dX6_become_7 rfl rfl rfl ?_
  obtain ⟨g_1, h⟩ := Ok.ofgd h
  obtain ⟨g_2, h⟩ := Ok.ofgd h
  obtain ⟨σx_1, e_σx_1, h⟩ := Ok.nm h
  refine Jc_copyB C id ac_RX6_17 ac_nat ac_st ac_ini h_a1 (ks_6_0 h_a0) rfl rfl g_1 e_σx_1 (fitB_spec g_2) (by rw [hR]; exact (Nat.le_of_ble_eq_true rfl)) (by rw [hR]; exact (Nat.le_of_ble_eq_true rfl)) dX6_become_8 rfl ?_
  refine J_aload_n (i := 0) (p := 0) C dX6_become_11 rfl rfl rfl ?_
  refine J_iload_n (i := 3) (p := 3) C dX6_become_12 rfl rfl rfl ?_
  obtain ⟨σx_2, e_σx_2, h⟩ := Ok.nm h
  refine Jc_putI C id fp_RX6_13 fw_6_1 rfl h_a0 rfl e_σx_2 dX6_become_13 rfl ?_
  rw [← hQQ]
  exact J_vret C hret (Nat.le_of_ble_eq_true rfl) (Nat.le_of_ble_eq_true rfl) ⟨_, h.osome, rfl, rfl, rfl⟩ dX6_become_16
def f2_takeLetters (σ : Sto) (a1 : Nat) (l2 : Int32) (l3 : Int32) : Option (Sto) :=
  bnd (f6_become σ 11 a1 l2 l3) fun p_1 =>
  stp (uI p_1 10 1 (0 : Int32)) fun σx_1 =>
  some σx_1
set_option maxHeartbeats 4000000 in
set_option maxRecDepth 100000 in
theorem k2_takeLetters {l : Launch} {K : JK} (hl : l.stackTraces = false) {σ : Sto} {a1 : Nat} {l2 : Int32} {l3 : Int32} (h_a1 : kc a1 = 13) {Qf : Sto → Prop} (h : Ok (f2_takeLetters σ a1 l2 l3) Qf) : Con l K yX2_takeLetters (.code yX2_takeLetters cX2_takeLetters 4 none :: TB) 2 0 0 False [.ref (K.2.2 + 10), .ref (K.2.2 + a1), .int l2, .int l3] 2017 (jw K σ) (PR Qf (fun p => none) (fun p => jw K p)) PN := by
  refine Con.enter (own := RX2) hl (by decide) rfl (Nat.le_of_ble_eq_true rfl) ?_
  intro X hX hR C hret hnt
  generalize hQQ : jQ X K 0 0 (PR Qf (fun p => none) (fun p => jw K p)) PN False = QQ
  change J X K 4 False QQ 0 0 2017 (jw K σ) 0 [(0, .ref (K.2.2 + 10)), (1, .ref (K.2.2 + a1)), (2, .int l2), (3, .int l3)] []
  unfold f2_takeLetters at h
  refine J_aload_n (i := 0) (p := 0) C dX2_takeLetters_0 rfl rfl rfl ?_
  refine Jc_getS (o2 := 1) (r2 := 11) C fp_RX2_14 rfl rfl rfl dX2_takeLetters_1 rfl ?_
  refine J_aload_n (i := 1) (p := 1) C dX2_takeLetters_4 rfl rfl rfl ?_
  refine J_iload_n (i := 2) (p := 2) C dX2_takeLetters_5 rfl rfl rfl ?_
  refine J_iload_n (i := 3) (p := 3) C dX2_takeLetters_6 rfl rfl rfl ?_
  refine Jc_cV (rest := []) (st9 := fun p_1 => []) C hR hX cv_RX2_31 rfl (Nat.le_of_ble_eq_true rfl) (k6_become hl rfl h_a1 (Ok.ofbnd h)) rfl rfl (Nat.le_of_ble_eq_true rfl) (Nat.le_of_ble_eq_true rfl) (Nat.le_of_ble_eq_true rfl) ⟨(Nat.le_of_ble_eq_true rfl), (Nat.le_of_ble_eq_true rfl)⟩ dX2_takeLetters_7 rfl (fun E n9 w9 hx => JT_n hx) (fun _ => rfl) (fun p_1 h => ?_)
  have h : Ok _ _ := h
  change J X K 4 False QQ 0 0 2017 (jw K p_1) 10 [(0, .ref (K.2.2 + 10)), (1, .ref (K.2.2 + a1)), (2, .int l2), (3, .int l3)] []
  refine J_aload_n (i := 0) (p := 0) C dX2_takeLetters_10 rfl rfl rfl ?_
  refine J_iconst (v := 0) C (by decide) dX2_takeLetters_11 rfl ?_
  obtain ⟨σx_1, e_σx_1, h⟩ := Ok.nm h
  refine Jc_putZ C id fp_RX2_20 fw_2_1 rfl rfl rfl rfl e_σx_1 dX2_takeLetters_12 rfl ?_
  rw [← hQQ]
  exact J_vret C hret (Nat.le_of_ble_eq_true rfl) (Nat.le_of_ble_eq_true rfl) ⟨_, h.osome, rfl, rfl, rfl⟩ dX2_takeLetters_15
def f11_copy (σ : Sto) (l1 : Int32) (l2 : Int32) : Option ((Int32 × Sto) ⊕ (Nat × Sto)) :=
  bndX (f11_requirePart σ l1 l2) fun p_1 =>
  gd (okr (fR p_1 1 0) 13) <|
  bnd (f2_takeLetters p_1 ((fR p_1 1 0) - 1) l1 (l2 - l1)) fun p_3 =>
  some (.inl (l2 - l1, p_3))
set_option maxHeartbeats 4000000 in
set_option maxRecDepth 100000 in
theorem k11_copy {l : Launch} {K : JK} (hl : l.stackTraces = false) {σ : Sto} {l1 : Int32} {l2 : Int32}  {Qf : (Int32 × Sto) ⊕ (Nat × Sto) → Prop} (h : Ok (f11_copy σ l1 l2) Qf) : Con l K yX11_copy (.code yX11_copy cX11_copy 3 (some .int) :: TB) 8 3 18 False [.ref (K.2.2 + 0), .int l1, .int l2] 2017 (jw K σ) (PR (fun p => Qf (.inl p)) (fun p => some (.int p.1)) (fun p => jw K p.2)) (PX Qf (fun s => jw K s)) := by
  refine Con.enter (own := RX11) hl (by decide) rfl (Nat.le_of_ble_eq_true rfl) ?_
  intro X hX hR C hret hnt
  generalize hQQ : jQ X K 3 18 (PR (fun p => Qf (.inl p)) (fun p => some (.int p.1)) (fun p => jw K p.2)) (PX Qf (fun s => jw K s)) False = QQ
  change J X K 3 False QQ 0 0 2017 (jw K σ) 0 [(0, .ref (K.2.2 + 0)), (1, .int l1), (2, .int l2)] []
  unfold f11_copy at h
  refine J_aload_n (i := 0) (p := 0) C dX11_copy_0 rfl rfl rfl ?_
  refine J_iload_n (i := 1) (p := 1) C dX11_copy_1 rfl rfl rfl ?_
  refine J_iload_n (i := 2) (p := 2) C dX11_copy_2 rfl rfl rfl ?_
  refine Jc_cV (rest := []) (st9 := fun p_1 => []) C hR hX cv_RX11_100 rfl (Nat.le_of_ble_eq_true rfl) (k11_requirePart hl  (Ok.ofbndX h)) rfl rfl (Nat.le_of_ble_eq_true rfl) (Nat.le_of_ble_eq_true rfl) (Nat.le_of_ble_eq_true rfl) ⟨(Nat.le_of_ble_eq_true rfl), (Nat.le_of_ble_eq_true rfl)⟩ dX11_copy_3 rfl (fun E n9 w9 hx => by rw [← hQQ]; exact JT_x C hnt (Nat.le_of_ble_eq_true rfl) (Nat.le_of_ble_eq_true rfl) (fun c h => h) E n9 w9 hx) (fun _ => rfl) (fun p_1 h => ?_)
  have h : Ok _ _ := h
  change J X K 3 False QQ 3 18 2017 (jw K p_1) 6 [(0, .ref (K.2.2 + 0)), (1, .int l1), (2, .int l2)] []
  refine J_aload_n (i := 0) (p := 0) C dX11_copy_6 rfl rfl rfl ?_
  refine Jc_getS (o2 := 10) (r2 := 10) C fp_RX11_28 rfl rfl rfl dX11_copy_7 rfl ?_
  refine J_aload_n (i := 0) (p := 0) C dX11_copy_10 rfl rfl rfl ?_
  refine Jc_getS (o2 := 1) (r2 := 1) C fp_RX11_10 rfl rfl rfl dX11_copy_11 rfl ?_
  refine Jc_getD C fp_RX11_104 rfl rfl dX11_copy_14 rfl ?_
  refine J_iload_n (i := 1) (p := 1) C dX11_copy_17 rfl rfl rfl ?_
  refine J_iload_n (i := 2) (p := 2) C dX11_copy_18 rfl rfl rfl ?_
  refine J_iload_n (i := 1) (p := 1) C dX11_copy_19 rfl rfl rfl ?_
  refine J_isub C dX11_copy_20 rfl ?_
  obtain ⟨g_2, h⟩ := Ok.ofgd h
  rw [jv_pos (r := fR p_1 1 0) (okr_spec g_2).1]
  refine Jc_cV (rest := []) (st9 := fun p_3 => []) C hR hX cv_RX11_108 rfl (Nat.le_of_ble_eq_true rfl) (k2_takeLetters hl (okr_spec g_2).2 (Ok.ofbnd h)) rfl rfl (Nat.le_of_ble_eq_true rfl) (Nat.le_of_ble_eq_true rfl) (Nat.le_of_ble_eq_true rfl) ⟨(Nat.le_of_ble_eq_true rfl), (Nat.le_of_ble_eq_true rfl)⟩ dX11_copy_21 rfl (fun E n9 w9 hx => JT_n hx) (fun _ => rfl) (fun p_3 h => ?_)
  have h : Ok _ _ := h
  change J X K 3 False QQ 3 18 2017 (jw K p_3) 24 [(0, .ref (K.2.2 + 0)), (1, .int l1), (2, .int l2)] []
  refine J_iload_n (i := 2) (p := 2) C dX11_copy_24 rfl rfl rfl ?_
  refine J_iload_n (i := 1) (p := 1) C dX11_copy_25 rfl rfl rfl ?_
  refine J_isub C dX11_copy_26 rfl ?_
  rw [← hQQ]
  exact J_iret C hret (Nat.le_of_ble_eq_true rfl) (Nat.le_of_ble_eq_true rfl) ⟨_, h.osome, rfl, rfl, rfl⟩ dX11_copy_27
def f11_requireLine_j15 (l1 : Int32) (σ_15 : Sto) : Option (Sto ⊕ (Nat × Sto)) :=
  some (.inr (1, σ_15))
def f11_requireLine (σ : Sto) (l1 : Int32) : Option (Sto ⊕ (Nat × Sto)) :=
  if l1 < 0 then
    f11_requireLine_j15 l1 σ
  else
    if l1 < (fI σ 1 4) then
      some (.inl σ)
    else
      f11_requireLine_j15 l1 σ
set_option maxHeartbeats 4000000 in
set_option maxRecDepth 100000 in
theorem k11_requireLine {l : Launch} {K : JK} (hl : l.stackTraces = false) {σ : Sto} {l1 : Int32}  {Qf : Sto ⊕ (Nat × Sto) → Prop} (h : Ok (f11_requireLine σ l1) Qf) : Con l K yX11_requireLine (.code yX11_requireLine cX11_requireLine 2 none :: TB) 6 1 6 False [.ref (K.2.2 + 0), .int l1] 2017 (jw K σ) (PR (fun p => Qf (.inl p)) (fun p => none) (fun p => jw K p)) (PX Qf (fun s => jw K s)) := by
  refine Con.enter (own := RX11) hl (by decide) rfl (Nat.le_of_ble_eq_true rfl) ?_
  intro X hX hR C hret hnt
  generalize hQQ : jQ X K 1 6 (PR (fun p => Qf (.inl p)) (fun p => none) (fun p => jw K p)) (PX Qf (fun s => jw K s)) False = QQ
  change J X K 2 False QQ 0 0 2017 (jw K σ) 0 [(0, .ref (K.2.2 + 0)), (1, .int l1)] []
  have hj_15 : (∀ (σ_15 : Sto), Ok (f11_requireLine_j15 l1 σ_15) Qf → J X K 2 False QQ 0 0 2017 (jw K σ_15) 15 [] []) := by
    intro σ_15 h
    unfold f11_requireLine_j15 at h
    rw [← hQQ]
    exact J_throwW (is := 399) (text := "there is no such line") C hnt th_119 (by decide +kernel) dX11_requireLine_15 dX11_requireLine_18 dX11_requireLine_19 dX11_requireLine_22 dX11_requireLine_25 (by rw [hR]; exact (Nat.le_of_ble_eq_true rfl)) (by rw [hR]; exact (Nat.le_of_ble_eq_true rfl)) (by rw [hR]; exact (Nat.le_of_ble_eq_true rfl)) (by rw [hR]; exact (Nat.le_of_ble_eq_true rfl)) (Nat.le_of_ble_eq_true rfl) (Nat.le_of_ble_eq_true rfl) ⟨1, σ_15, h.osome, rfl, rfl, rfl⟩
  unfold f11_requireLine at h
  refine J_iload_n (i := 1) (p := 1) C dX11_requireLine_0 rfl rfl rfl ?_
  refine J_if_lt (t := 15) C dX11_requireLine_1 (by decide) rfl (fun c_1 => ?_) (fun c_1 => ?_)
  · have h := h.pos c_1
    refine J.sub [] rfl ?_
    exact hj_15 σ h
  · have h := h.neg c_1
    refine J_iload_n (i := 1) (p := 1) C dX11_requireLine_4 rfl rfl rfl ?_
    refine J_aload_n (i := 0) (p := 0) C dX11_requireLine_5 rfl rfl rfl ?_
    refine Jc_getS (o2 := 1) (r2 := 1) C fp_RX11_10 rfl rfl rfl dX11_requireLine_6 rfl ?_
    refine Jc_getI C fp_RX11_116 rfl rfl dX11_requireLine_9 rfl ?_
    refine J_icmp_lt (t := 26) C dX11_requireLine_12 (by decide) rfl (fun c_2 => ?_) (fun c_2 => ?_)
    · have h := h.pos c_2
      rw [← hQQ]
      exact J_vret C hret (Nat.le_of_ble_eq_true rfl) (Nat.le_of_ble_eq_true rfl) ⟨_, h.osome, rfl, rfl, rfl⟩ dX11_requireLine_26
    · have h := h.neg c_2
      refine J.sub [] rfl ?_
      exact hj_15 σ h
def f8_endOf_j27 (a0 : Nat) (l1 : Int32) (σ : Sto) (s0_27 : Int32) : Option (Int32) :=
  some s0_27
def f8_endOf (σ : Sto) (a0 : Nat) (l1 : Int32) : Option (Int32) :=
  if (fI σ a0 4) ≤ (l1 + (1 : Int32)) then
    f8_endOf_j27 a0 l1 σ (fI σ a0 1)
  else
    gd (okr (fR σ a0 2) 12) <|
    gd (inb (l1 + (1 : Int32)) (ln ((fR σ a0 2) - 1))) <|
    f8_endOf_j27 a0 l1 σ ((aI σ ((fR σ a0 2) - 1) (Int32.toNatClampNeg (l1 + (1 : Int32)))) - (1 : Int32))
set_option maxHeartbeats 4000000 in
set_option maxRecDepth 100000 in
theorem k8_endOf {l : Launch} {K : JK} (hl : l.stackTraces = false) {σ : Sto} {a0 : Nat} {l1 : Int32} (h_a0 : kc a0 = 8) {Qf : Int32 → Prop} (h : Ok (f8_endOf σ a0 l1) Qf) : Con l K yX8_endOf (.code yX8_endOf cX8_endOf 2 (some .int) :: TB) 0 0 0 False [.ref (K.2.2 + a0), .int l1] 2017 (jw K σ) (PR Qf (fun p => some (.int p)) (fun p => jw K σ)) PN := by
  refine Con.enter (own := RX8) hl (by decide) rfl (Nat.le_of_ble_eq_true rfl) ?_
  intro X hX hR C hret hnt
  generalize hQQ : jQ X K 0 0 (PR Qf (fun p => some (.int p)) (fun p => jw K σ)) PN False = QQ
  change J X K 2 False QQ 0 0 2017 (jw K σ) 0 [(0, .ref (K.2.2 + a0)), (1, .int l1)] []
  have hj_27 : (∀ (s0_27 : Int32), Ok (f8_endOf_j27 a0 l1 σ s0_27) Qf → J X K 2 False QQ 0 0 2017 (jw K σ) 27 [] [.int s0_27]) := by
    intro s0_27 h
    unfold f8_endOf_j27 at h
    rw [← hQQ]
    exact J_iret C hret (Nat.le_of_ble_eq_true rfl) (Nat.le_of_ble_eq_true rfl) ⟨_, h.osome, rfl, rfl, rfl⟩ dX8_endOf_27
  unfold f8_endOf at h
  refine J_iload_n (i := 1) (p := 1) C dX8_endOf_0 rfl rfl rfl ?_
  refine J_iconst (v := 1) C (by decide) dX8_endOf_1 rfl ?_
  refine J_iadd C dX8_endOf_2 rfl ?_
  refine J_aload_n (i := 0) (p := 0) C dX8_endOf_3 rfl rfl rfl ?_
  refine Jc_getI C fp_RX8_27 h_a0 rfl dX8_endOf_4 rfl ?_
  refine J_icmp_ge (t := 23) C dX8_endOf_7 (by decide) rfl (fun c_1 => ?_) (fun c_1 => ?_)
  · have h := h.pos c_1
    refine J_aload_n (i := 0) (p := 0) C dX8_endOf_23 rfl rfl rfl ?_
    refine Jc_getI C fp_RX8_15 h_a0 rfl dX8_endOf_24 rfl ?_
    refine J.sub [] rfl ?_
    exact hj_27 (fI σ a0 1) h
  · have h := h.neg c_1
    refine J_aload_n (i := 0) (p := 0) C dX8_endOf_10 rfl rfl rfl ?_
    refine Jc_getD C fp_RX8_19 h_a0 rfl dX8_endOf_11 rfl ?_
    refine J_iload_n (i := 1) (p := 1) C dX8_endOf_14 rfl rfl rfl ?_
    refine J_iconst (v := 1) C (by decide) dX8_endOf_15 rfl ?_
    refine J_iadd C dX8_endOf_16 rfl ?_
    obtain ⟨g_2, h⟩ := Ok.ofgd h
    rw [jv_pos (r := fR σ a0 2) (okr_spec g_2).1]
    obtain ⟨g_3, h⟩ := Ok.ofgd h
    refine Jc_iald C (okr_spec g_2).2 rfl g_3 dX8_endOf_17 rfl ?_
    refine J_iconst (v := 1) C (by decide) dX8_endOf_18 rfl ?_
    refine J_isub C dX8_endOf_19 rfl ?_
    refine J_goto (t := 27) C dX8_endOf_20 (by decide) ?_
    refine J.sub [] rfl ?_
    exact hj_27 ((aI σ ((fR σ a0 2) - 1) (Int32.toNatClampNeg (l1 + (1 : Int32)))) - (1 : Int32)) h
def f2_takeBlock_j97 (a1 : Nat) (l2 : Int32) (l3 : Int32) (l4 : Int32) (l5 : Int32) (l7_46 : Int32) (l8_46 : Int32) (l9_46 : Int32) (σ_97 : Sto) (l10_97 : Int32) (s0_97 : Int32) (s1_97 : Int32) : Option ((Sto × Int32 × Int32) ⊕ (Sto × Int32)) :=
  stp (s0_97 + s1_97) fun x6_1 =>
  stp (l10_97 + (1 : Int32)) fun x10_2 =>
  some (.inl (σ_97, x6_1, x10_2))
def f2_takeBlock_j79 (a1 : Nat) (l2 : Int32) (l3 : Int32) (l4 : Int32) (l5 : Int32) (l7_46 : Int32) (l8_46 : Int32) (l9_46 : Int32) (σ_79 : Sto) (l6_79 : Int32) (l10_79 : Int32) (s1_79 : Int32) : Option ((Sto × Int32 × Int32) ⊕ (Sto × Int32)) :=
  bnd (f6_add σ_79 11 s1_79) fun p_1 =>
  if l8_46 ≤ l10_79 then
    f2_takeBlock_j97 a1 l2 l3 l4 l5 l7_46 l8_46 l9_46 p_1.2 l10_79 l6_79 (0 : Int32)
  else
    f2_takeBlock_j97 a1 l2 l3 l4 l5 l7_46 l8_46 l9_46 p_1.2 l10_79 l6_79 (1 : Int32)
def f2_takeBlock_b46 (a1 : Nat) (l2 : Int32) (l3 : Int32) (l4 : Int32) (l5 : Int32) (σ_46 : Sto) (l6_46 : Int32) (l7_46 : Int32) (l8_46 : Int32) (l9_46 : Int32) (l10_46 : Int32) : Option ((Sto × Int32 × Int32) ⊕ (Sto × Int32)) :=
  if (l9_46 + l5) ≤ l10_46 then
    some (.inr (σ_46, l6_46))
  else
    if l8_46 ≤ l10_46 then
      f2_takeBlock_j79 a1 l2 l3 l4 l5 l7_46 l8_46 l9_46 σ_46 l6_46 l10_46 (32 : Int32)
    else
      gd (okr (fR σ_46 a1 0) 13) <|
      gd (inb l10_46 (ln ((fR σ_46 a1 0) - 1))) <|
      f2_takeBlock_j79 a1 l2 l3 l4 l5 l7_46 l8_46 l9_46 σ_46 l6_46 l10_46 (aI σ_46 ((fR σ_46 a1 0) - 1) (Int32.toNatClampNeg l10_46))
def f2_takeBlock_j46 (a1 : Nat) (l2 : Int32) (l3 : Int32) (l4 : Int32) (l5 : Int32) (σ_46 : Sto) (l6_46 : Int32) (l7_46 : Int32) (l8_46 : Int32) (l9_46 : Int32) (l10_46 : Int32) : Option ((Sto × Int32 × Int32) ⊕ (Sto × Int32)) :=
  bnd (loopF (fun s_46 => f2_takeBlock_b46 a1 l2 l3 l4 l5 s_46.1 s_46.2.1 l7_46 l8_46 l9_46 s_46.2.2) FU (σ_46, l6_46, l10_46)) fun r_46 =>
    stp (l7_46 + (1 : Int32)) fun x7_4 =>
    some (.inl (r_46.1, r_46.2, x7_4))
def f2_takeBlock_b14 (a1 : Nat) (l2 : Int32) (l3 : Int32) (l4 : Int32) (l5 : Int32) (σ_14 : Sto) (l6_14 : Int32) (l7_14 : Int32) : Option ((Sto × Int32 × Int32) ⊕ (Sto × Int32)) :=
  if (l2 + l3) ≤ l7_14 then
    some (.inr (σ_14, l6_14))
  else
    bnd (f8_endOf σ_14 a1 l7_14) fun p_8 =>
    stp p_8 fun x8_8 =>
    gd (okr (fR σ_14 a1 2) 12) <|
    gd (inb l7_14 (ln ((fR σ_14 a1 2) - 1))) <|
    stp ((aI σ_14 ((fR σ_14 a1 2) - 1) (Int32.toNatClampNeg l7_14)) + l4) fun x9_9 =>
    stp x9_9 fun x10_10 =>
    f2_takeBlock_j46 a1 l2 l3 l4 l5 σ_14 l6_14 l7_14 x8_8 x9_9 x10_10
def f2_takeBlock_j14 (a1 : Nat) (l2 : Int32) (l3 : Int32) (l4 : Int32) (l5 : Int32) (σ_14 : Sto) (l6_14 : Int32) (l7_14 : Int32) : Option (Int32 × Sto) :=
  bnd (loopF (fun s_14 => f2_takeBlock_b14 a1 l2 l3 l4 l5 s_14.1 s_14.2.1 s_14.2.2) FU (σ_14, l6_14, l7_14)) fun r_14 =>
    stp (uI r_14.1 10 1 (1 : Int32)) fun σx_11 =>
    stp (uI σx_11 10 2 l3) fun σx_12 =>
    stp (uI σx_12 10 3 l5) fun σx_13 =>
    some (r_14.2, σx_13)
def f2_takeBlock (σ : Sto) (a1 : Nat) (l2 : Int32) (l3 : Int32) (l4 : Int32) (l5 : Int32) : Option (Int32 × Sto) :=
  stp (0 : Int32) fun x6_14 =>
  stp (uI σ 11 1 (0 : Int32)) fun σx_15 =>
  stp l2 fun x7_16 =>
  f2_takeBlock_j14 a1 l2 l3 l4 l5 σx_15 x6_14 x7_16
set_option maxHeartbeats 4000000 in
set_option maxRecDepth 100000 in
theorem k2_takeBlock {l : Launch} {K : JK} (hl : l.stackTraces = false) {σ : Sto} {a1 : Nat} {l2 : Int32} {l3 : Int32} {l4 : Int32} {l5 : Int32} (h_a1 : kc a1 = 8) {Qf : Int32 × Sto → Prop} (h : Ok (f2_takeBlock σ a1 l2 l3 l4 l5) Qf) : Con l K yX2_takeBlock (.code yX2_takeBlock cX2_takeBlock 11 (some .int) :: TB) 1 0 0 False [.ref (K.2.2 + 10), .ref (K.2.2 + a1), .int l2, .int l3, .int l4, .int l5] 2017 (jw K σ) (PR Qf (fun p => some (.int p.1)) (fun p => jw K p.2)) PN := by
  refine Con.enter (own := RX2) hl (by decide) rfl (Nat.le_of_ble_eq_true rfl) ?_
  intro X hX hR C hret hnt
  generalize hQQ : jQ X K 0 0 (PR Qf (fun p => some (.int p.1)) (fun p => jw K p.2)) PN False = QQ
  change J X K 11 False QQ 0 0 2017 (jw K σ) 0 [(0, .ref (K.2.2 + 10)), (1, .ref (K.2.2 + a1)), (2, .int l2), (3, .int l3), (4, .int l4), (5, .int l5)] []
  have hj_14 : (∀ (σ_14 : Sto) (l6_14 : Int32) (l7_14 : Int32), Ok (f2_takeBlock_j14 a1 l2 l3 l4 l5 σ_14 l6_14 l7_14) Qf → J X K 11 False QQ 0 0 2017 (jw K σ_14) 14 [(0, .ref (K.2.2 + 10)), (1, .ref (K.2.2 + a1)), (2, .int l2), (3, .int l3), (4, .int l4), (5, .int l5), (6, .int l6_14), (7, .int l7_14)] []) := by
    intro σ_14 l6_14 l7_14 h
    unfold f2_takeBlock_j14 at h
    refine loop_gen (S := Sto × Int32 × Int32) (P := fun s_14 => J X K 11 False QQ 0 0 2017 (jw K s_14.1) 14 [(0, .ref (K.2.2 + 10)), (1, .ref (K.2.2 + a1)), (2, .int l2), (3, .int l3), (4, .int l4), (5, .int l5), (6, .int s_14.2.1), (7, .int s_14.2.2)] []) ?_ FU (σ_14, l6_14, l7_14) (Ok.ofbnd h)
    intro B_14 hB_14 hE_14 s_14 h
    obtain ⟨σ_14, l6_14, l7_14⟩ := s_14
    have h : Ok (f2_takeBlock_b14 a1 l2 l3 l4 l5 σ_14 l6_14 l7_14) B_14 := h
    change J X K 11 False QQ 0 0 2017 (jw K σ_14) 14 [(0, .ref (K.2.2 + 10)), (1, .ref (K.2.2 + a1)), (2, .int l2), (3, .int l3), (4, .int l4), (5, .int l5), (6, .int l6_14), (7, .int l7_14)] []
    have hj_46 : (∀ (σ_46 : Sto) (l6_46 : Int32) (l7_46 : Int32) (l8_46 : Int32) (l9_46 : Int32) (l10_46 : Int32), Ok (f2_takeBlock_j46 a1 l2 l3 l4 l5 σ_46 l6_46 l7_46 l8_46 l9_46 l10_46) B_14 → J X K 11 False QQ 0 0 2017 (jw K σ_46) 46 [(0, .ref (K.2.2 + 10)), (1, .ref (K.2.2 + a1)), (2, .int l2), (3, .int l3), (4, .int l4), (5, .int l5), (6, .int l6_46), (7, .int l7_46), (8, .int l8_46), (9, .int l9_46), (10, .int l10_46)] []) := by
      intro σ_46 l6_46 l7_46 l8_46 l9_46 l10_46 h
      unfold f2_takeBlock_j46 at h
      refine loop_gen (S := Sto × Int32 × Int32) (P := fun s_46 => J X K 11 False QQ 0 0 2017 (jw K s_46.1) 46 [(0, .ref (K.2.2 + 10)), (1, .ref (K.2.2 + a1)), (2, .int l2), (3, .int l3), (4, .int l4), (5, .int l5), (6, .int s_46.2.1), (7, .int l7_46), (8, .int l8_46), (9, .int l9_46), (10, .int s_46.2.2)] []) ?_ FU (σ_46, l6_46, l10_46) (Ok.ofbnd h)
      intro B_46 hB_46 hE_46 s_46 h
      obtain ⟨σ_46, l6_46, l10_46⟩ := s_46
      have h : Ok (f2_takeBlock_b46 a1 l2 l3 l4 l5 σ_46 l6_46 l7_46 l8_46 l9_46 l10_46) B_46 := h
      change J X K 11 False QQ 0 0 2017 (jw K σ_46) 46 [(0, .ref (K.2.2 + 10)), (1, .ref (K.2.2 + a1)), (2, .int l2), (3, .int l3), (4, .int l4), (5, .int l5), (6, .int l6_46), (7, .int l7_46), (8, .int l8_46), (9, .int l9_46), (10, .int l10_46)] []
      have hj_97 : (∀ (σ_97 : Sto) (l10_97 : Int32) (s0_97 : Int32) (s1_97 : Int32), Ok (f2_takeBlock_j97 a1 l2 l3 l4 l5 l7_46 l8_46 l9_46 σ_97 l10_97 s0_97 s1_97) B_46 → J X K 11 False QQ 0 0 2017 (jw K σ_97) 97 [(0, .ref (K.2.2 + 10)), (1, .ref (K.2.2 + a1)), (2, .int l2), (3, .int l3), (4, .int l4), (5, .int l5), (7, .int l7_46), (8, .int l8_46), (9, .int l9_46), (10, .int l10_97)] [.int s1_97, .int s0_97]) := by
        intro σ_97 l10_97 s0_97 s1_97 h
        unfold f2_takeBlock_j97 at h
        refine J_iadd C dX2_takeBlock_97 rfl ?_
        obtain ⟨x6_1, e_x6_1, h⟩ := Ok.nm h
        refine J_istoreE (i := 6) (lv' := [(6, .int x6_1), (0, .ref (K.2.2 + 10)), (1, .ref (K.2.2 + a1)), (2, .int l2), (3, .int l3), (4, .int l4), (5, .int l5), (7, .int l7_46), (8, .int l8_46), (9, .int l9_46), (10, .int l10_97)]) C e_x6_1 dX2_takeBlock_98 (Nat.le_of_ble_eq_true rfl) rfl rfl ?_
        obtain ⟨x10_2, e_x10_2, h⟩ := Ok.nm h
        refine J_iincE (i := 10) (p := 10) (lv' := [(10, .int x10_2), (6, .int x6_1), (0, .ref (K.2.2 + 10)), (1, .ref (K.2.2 + a1)), (2, .int l2), (3, .int l3), (4, .int l4), (5, .int l5), (7, .int l7_46), (8, .int l8_46), (9, .int l9_46)]) C e_x10_2 dX2_takeBlock_100 rfl (by decide) (Nat.le_of_ble_eq_true rfl) rfl rfl ?_
        refine J_goto (t := 46) C dX2_takeBlock_103 (by decide) ?_
        refine J.sub [2, 3, 4, 5, 6, 7, 1, 8, 9, 10, 0] rfl ?_
        exact hB_46 (σ_97, x6_1, x10_2) h.osome
      have hj_79 : (∀ (σ_79 : Sto) (l6_79 : Int32) (l10_79 : Int32) (s1_79 : Int32), Ok (f2_takeBlock_j79 a1 l2 l3 l4 l5 l7_46 l8_46 l9_46 σ_79 l6_79 l10_79 s1_79) B_46 → J X K 11 False QQ 0 0 2017 (jw K σ_79) 79 [(0, .ref (K.2.2 + 10)), (1, .ref (K.2.2 + a1)), (2, .int l2), (3, .int l3), (4, .int l4), (5, .int l5), (6, .int l6_79), (7, .int l7_46), (8, .int l8_46), (9, .int l9_46), (10, .int l10_79)] [.int s1_79, .ref (K.2.2 + 11)]) := by
        intro σ_79 l6_79 l10_79 s1_79 h
        unfold f2_takeBlock_j79 at h
        refine Jc_cV (rest := []) (st9 := fun p_1 => [.int p_1.1]) C hR hX cv_RX2_51 rfl (Nat.le_of_ble_eq_true rfl) (k6_add hl rfl (Ok.ofbnd h)) rfl rfl (Nat.le_of_ble_eq_true rfl) (Nat.le_of_ble_eq_true rfl) (Nat.le_of_ble_eq_true rfl) ⟨(Nat.le_of_ble_eq_true rfl), (Nat.le_of_ble_eq_true rfl)⟩ dX2_takeBlock_79 rfl (fun E n9 w9 hx => JT_n hx) (fun _ => rfl) (fun p_1 h => ?_)
        have h : Ok _ _ := h
        change J X K 11 False QQ 0 0 2017 (jw K p_1.2) 82 [(0, .ref (K.2.2 + 10)), (1, .ref (K.2.2 + a1)), (2, .int l2), (3, .int l3), (4, .int l4), (5, .int l5), (6, .int l6_79), (7, .int l7_46), (8, .int l8_46), (9, .int l9_46), (10, .int l10_79)] [.int p_1.1]
        refine J_pop C rfl dX2_takeBlock_82 rfl ?_
        refine J_iload (i := 6) (p := 6) C dX2_takeBlock_83 rfl rfl ?_
        refine J_iload (i := 10) (p := 10) C dX2_takeBlock_85 rfl rfl ?_
        refine J_iload (i := 8) (p := 8) C dX2_takeBlock_87 rfl rfl ?_
        refine J_icmp_ge (t := 96) C dX2_takeBlock_89 (by decide) rfl (fun c_2 => ?_) (fun c_2 => ?_)
        · have h := h.pos c_2
          refine J_iconst (v := 0) C (by decide) dX2_takeBlock_96 rfl ?_
          refine J.sub [0, 1, 2, 3, 4, 5, 7, 8, 9, 10] rfl ?_
          exact hj_97 p_1.2 l10_79 l6_79 (0 : Int32) h
        · have h := h.neg c_2
          refine J_iconst (v := 1) C (by decide) dX2_takeBlock_92 rfl ?_
          refine J_goto (t := 97) C dX2_takeBlock_93 (by decide) ?_
          refine J.sub [0, 1, 2, 3, 4, 5, 7, 8, 9, 10] rfl ?_
          exact hj_97 p_1.2 l10_79 l6_79 (1 : Int32) h
      unfold f2_takeBlock_b46 at h
      refine J_iload (i := 10) (p := 10) C dX2_takeBlock_46 rfl rfl ?_
      refine J_iload (i := 9) (p := 9) C dX2_takeBlock_48 rfl rfl ?_
      refine J_iload (i := 5) (p := 5) C dX2_takeBlock_50 rfl rfl ?_
      refine J_iadd C dX2_takeBlock_52 rfl ?_
      refine J_icmp_ge (t := 106) C dX2_takeBlock_53 (by decide) rfl (fun c_3 => ?_) (fun c_3 => ?_)
      · have h := h.pos c_3
        have h := hE_46 (σ_46, l6_46) h.osome
        try dsimp only at h
        obtain ⟨x7_3, e_x7_3, h⟩ := Ok.nm h
        refine J_iincE (i := 7) (p := 7) (lv' := [(7, .int x7_3), (0, .ref (K.2.2 + 10)), (1, .ref (K.2.2 + a1)), (2, .int l2), (3, .int l3), (4, .int l4), (5, .int l5), (6, .int l6_46), (8, .int l8_46), (9, .int l9_46), (10, .int l10_46)]) C e_x7_3 dX2_takeBlock_106 rfl (by decide) (Nat.le_of_ble_eq_true rfl) rfl rfl ?_
        refine J_goto (t := 14) C dX2_takeBlock_109 (by decide) ?_
        refine J.sub [1, 2, 3, 4, 5, 6, 7, 0] rfl ?_
        exact hB_14 (σ_46, l6_46, x7_3) h.osome
      · have h := h.neg c_3
        refine J_aload_n (i := 0) (p := 0) C dX2_takeBlock_56 rfl rfl rfl ?_
        refine Jc_getS (o2 := 1) (r2 := 11) C fp_RX2_14 rfl rfl rfl dX2_takeBlock_57 rfl ?_
        refine J_iload (i := 10) (p := 10) C dX2_takeBlock_60 rfl rfl ?_
        refine J_iload (i := 8) (p := 8) C dX2_takeBlock_62 rfl rfl ?_
        refine J_icmp_ge (t := 77) C dX2_takeBlock_64 (by decide) rfl (fun c_4 => ?_) (fun c_4 => ?_)
        · have h := h.pos c_4
          refine J_bipush (v := 32) C (by decide) dX2_takeBlock_77 rfl ?_
          exact hj_79 σ_46 l6_46 l10_46 (32 : Int32) h
        · have h := h.neg c_4
          refine J_aload_n (i := 1) (p := 1) C dX2_takeBlock_67 rfl rfl rfl ?_
          refine Jc_getD C fp_RX2_48 h_a1 rfl dX2_takeBlock_68 rfl ?_
          refine J_iload (i := 10) (p := 10) C dX2_takeBlock_71 rfl rfl ?_
          obtain ⟨g_5, h⟩ := Ok.ofgd h
          rw [jv_pos (r := fR σ_46 a1 0) (okr_spec g_5).1]
          obtain ⟨g_6, h⟩ := Ok.ofgd h
          refine Jc_bald C (okr_spec g_5).2 rfl g_6 dX2_takeBlock_73 rfl ?_
          refine J_goto (t := 79) C dX2_takeBlock_74 (by decide) ?_
          exact hj_79 σ_46 l6_46 l10_46 (aI σ_46 ((fR σ_46 a1 0) - 1) (Int32.toNatClampNeg l10_46)) h
    unfold f2_takeBlock_b14 at h
    refine J_iload (i := 7) (p := 7) C dX2_takeBlock_14 rfl rfl ?_
    refine J_iload_n (i := 2) (p := 2) C dX2_takeBlock_16 rfl rfl rfl ?_
    refine J_iload_n (i := 3) (p := 3) C dX2_takeBlock_17 rfl rfl rfl ?_
    refine J_iadd C dX2_takeBlock_18 rfl ?_
    refine J_icmp_ge (t := 112) C dX2_takeBlock_19 (by decide) rfl (fun c_7 => ?_) (fun c_7 => ?_)
    · have h := h.pos c_7
      have h := hE_14 (σ_14, l6_14) h.osome
      try dsimp only at h
      refine J_aload_n (i := 0) (p := 0) C dX2_takeBlock_112 rfl rfl rfl ?_
      refine J_iconst (v := 1) C (by decide) dX2_takeBlock_113 rfl ?_
      obtain ⟨σx_5, e_σx_5, h⟩ := Ok.nm h
      refine Jc_putZ C id fp_RX2_20 fw_2_1 rfl rfl rfl rfl e_σx_5 dX2_takeBlock_114 rfl ?_
      refine J_aload_n (i := 0) (p := 0) C dX2_takeBlock_117 rfl rfl rfl ?_
      refine J_iload_n (i := 3) (p := 3) C dX2_takeBlock_118 rfl rfl rfl ?_
      obtain ⟨σx_6, e_σx_6, h⟩ := Ok.nm h
      refine Jc_putI C id fp_RX2_24 fw_2_2 rfl rfl rfl e_σx_6 dX2_takeBlock_119 rfl ?_
      refine J_aload_n (i := 0) (p := 0) C dX2_takeBlock_122 rfl rfl rfl ?_
      refine J_iload (i := 5) (p := 5) C dX2_takeBlock_123 rfl rfl ?_
      obtain ⟨σx_7, e_σx_7, h⟩ := Ok.nm h
      refine Jc_putI C id fp_RX2_28 fw_2_3 rfl rfl rfl e_σx_7 dX2_takeBlock_125 rfl ?_
      refine J_iload (i := 6) (p := 6) C dX2_takeBlock_128 rfl rfl ?_
      rw [← hQQ]
      exact J_iret C hret (Nat.le_of_ble_eq_true rfl) (Nat.le_of_ble_eq_true rfl) ⟨_, h.osome, rfl, rfl, rfl⟩ dX2_takeBlock_130
    · have h := h.neg c_7
      refine J_aload_n (i := 1) (p := 1) C dX2_takeBlock_22 rfl rfl rfl ?_
      refine J_iload (i := 7) (p := 7) C dX2_takeBlock_23 rfl rfl ?_
      refine Jc_cV (rest := []) (st9 := fun p_8 => [.int p_8]) C hR hX cv_RX2_38 h_a1 (Nat.le_of_ble_eq_true rfl) (k8_endOf hl h_a1 (Ok.ofbnd h)) rfl rfl (Nat.le_of_ble_eq_true rfl) (Nat.le_of_ble_eq_true rfl) (Nat.le_of_ble_eq_true rfl) ⟨(Nat.le_of_ble_eq_true rfl), (Nat.le_of_ble_eq_true rfl)⟩ dX2_takeBlock_25 rfl (fun E n9 w9 hx => JT_n hx) (fun _ => rfl) (fun p_8 h => ?_)
      have h : Ok _ _ := h
      change J X K 11 False QQ 0 0 2017 (jw K σ_14) 28 [(0, .ref (K.2.2 + 10)), (1, .ref (K.2.2 + a1)), (2, .int l2), (3, .int l3), (4, .int l4), (5, .int l5), (6, .int l6_14), (7, .int l7_14)] [.int p_8]
      obtain ⟨x8_8, e_x8_8, h⟩ := Ok.nm h
      refine J_istoreE (i := 8) (lv' := [(8, .int x8_8), (0, .ref (K.2.2 + 10)), (1, .ref (K.2.2 + a1)), (2, .int l2), (3, .int l3), (4, .int l4), (5, .int l5), (6, .int l6_14), (7, .int l7_14)]) C e_x8_8 dX2_takeBlock_28 (Nat.le_of_ble_eq_true rfl) rfl rfl ?_
      refine J_aload_n (i := 1) (p := 2) C dX2_takeBlock_30 rfl rfl rfl ?_
      refine Jc_getD C fp_RX2_44 h_a1 rfl dX2_takeBlock_31 rfl ?_
      refine J_iload (i := 7) (p := 8) C dX2_takeBlock_34 rfl rfl ?_
      obtain ⟨g_9, h⟩ := Ok.ofgd h
      rw [jv_pos (r := fR σ_14 a1 2) (okr_spec g_9).1]
      obtain ⟨g_10, h⟩ := Ok.ofgd h
      refine Jc_iald C (okr_spec g_9).2 rfl g_10 dX2_takeBlock_36 rfl ?_
      refine J_iload (i := 4) (p := 5) C dX2_takeBlock_37 rfl rfl ?_
      refine J_iadd C dX2_takeBlock_39 rfl ?_
      obtain ⟨x9_9, e_x9_9, h⟩ := Ok.nm h
      refine J_istoreE (i := 9) (lv' := [(9, .int x9_9), (8, .int x8_8), (0, .ref (K.2.2 + 10)), (1, .ref (K.2.2 + a1)), (2, .int l2), (3, .int l3), (4, .int l4), (5, .int l5), (6, .int l6_14), (7, .int l7_14)]) C e_x9_9 dX2_takeBlock_40 (Nat.le_of_ble_eq_true rfl) rfl rfl ?_
      refine J_iload (i := 9) (p := 0) C dX2_takeBlock_42 rfl rfl ?_
      obtain ⟨x10_10, e_x10_10, h⟩ := Ok.nm h
      refine J_istoreE (i := 10) (lv' := [(10, .int x10_10), (9, .int x9_9), (8, .int x8_8), (0, .ref (K.2.2 + 10)), (1, .ref (K.2.2 + a1)), (2, .int l2), (3, .int l3), (4, .int l4), (5, .int l5), (6, .int l6_14), (7, .int l7_14)]) C e_x10_10 dX2_takeBlock_44 (Nat.le_of_ble_eq_true rfl) rfl rfl ?_
      refine J.sub [3, 4, 5, 6, 7, 8, 9, 10, 2, 1, 0] rfl ?_
      exact hj_46 σ_14 l6_14 l7_14 x8_8 x9_9 x10_10 h
  unfold f2_takeBlock at h
  refine J_iconst (v := 0) C (by decide) dX2_takeBlock_0 rfl ?_
  obtain ⟨x6_14, e_x6_14, h⟩ := Ok.nm h
  refine J_istoreE (i := 6) (lv' := [(6, .int x6_14), (0, .ref (K.2.2 + 10)), (1, .ref (K.2.2 + a1)), (2, .int l2), (3, .int l3), (4, .int l4), (5, .int l5)]) C e_x6_14 dX2_takeBlock_1 (Nat.le_of_ble_eq_true rfl) rfl rfl ?_
  refine J_aload_n (i := 0) (p := 1) C dX2_takeBlock_3 rfl rfl rfl ?_
  refine Jc_getS (o2 := 1) (r2 := 11) C fp_RX2_14 rfl rfl rfl dX2_takeBlock_4 rfl ?_
  refine J_iconst (v := 0) C (by decide) dX2_takeBlock_7 rfl ?_
  obtain ⟨σx_15, e_σx_15, h⟩ := Ok.nm h
  refine Jc_putI C id fp_RX2_35 fw_6_1 rfl rfl rfl e_σx_15 dX2_takeBlock_8 rfl ?_
  refine J_iload_n (i := 2) (p := 3) C dX2_takeBlock_11 rfl rfl rfl ?_
  obtain ⟨x7_16, e_x7_16, h⟩ := Ok.nm h
  refine J_istoreE (i := 7) (lv' := [(7, .int x7_16), (6, .int x6_14), (0, .ref (K.2.2 + 10)), (1, .ref (K.2.2 + a1)), (2, .int l2), (3, .int l3), (4, .int l4), (5, .int l5)]) C e_x7_16 dX2_takeBlock_12 (Nat.le_of_ble_eq_true rfl) rfl rfl ?_
  refine J.sub [2, 3, 4, 5, 6, 7, 1, 0] rfl ?_
  exact hj_14 σx_15 x6_14 x7_16 h
def f11_copyBlock_j57 (l1 : Int32) (l2 : Int32) (l3 : Int32) (l4 : Int32) (σ_57 : Sto) : Option ((Int32 × Sto) ⊕ (Nat × Sto)) :=
  some (.inr (2, σ_57))
def f11_copyBlock (σ : Sto) (l1 : Int32) (l2 : Int32) (l3 : Int32) (l4 : Int32) : Option ((Int32 × Sto) ⊕ (Nat × Sto)) :=
  bndX (f11_requireLine σ l1) fun p_1 =>
  if l2 ≤ ((fI p_1 1 4) - l1) then
    if l2 < (1 : Int32) then
      f11_copyBlock_j57 l1 l2 l3 l4 p_1
    else
      if l3 < 0 then
        f11_copyBlock_j57 l1 l2 l3 l4 p_1
      else
        if (200 : Int32) < l3 then
          f11_copyBlock_j57 l1 l2 l3 l4 p_1
        else
          if l4 < (1 : Int32) then
            f11_copyBlock_j57 l1 l2 l3 l4 p_1
          else
            if l4 ≤ (40 : Int32) then
              bnd (f2_takeBlock p_1 1 l1 l2 l3 l4) fun p_8 =>
              some (.inl (p_8.1, p_8.2))
            else
              f11_copyBlock_j57 l1 l2 l3 l4 p_1
  else
    some (.inr (1, p_1))
set_option maxHeartbeats 4000000 in
set_option maxRecDepth 100000 in
theorem k11_copyBlock {l : Launch} {K : JK} (hl : l.stackTraces = false) {σ : Sto} {l1 : Int32} {l2 : Int32} {l3 : Int32} {l4 : Int32}  {Qf : (Int32 × Sto) ⊕ (Nat × Sto) → Prop} (h : Ok (f11_copyBlock σ l1 l2 l3 l4) Qf) : Con l K yX11_copyBlock (.code yX11_copyBlock cX11_copyBlock 5 (some .int) :: TB) 7 2 12 False [.ref (K.2.2 + 0), .int l1, .int l2, .int l3, .int l4] 2017 (jw K σ) (PR (fun p => Qf (.inl p)) (fun p => some (.int p.1)) (fun p => jw K p.2)) (PX Qf (fun s => jw K s)) := by
  refine Con.enter (own := RX11) hl (by decide) rfl (Nat.le_of_ble_eq_true rfl) ?_
  intro X hX hR C hret hnt
  generalize hQQ : jQ X K 2 12 (PR (fun p => Qf (.inl p)) (fun p => some (.int p.1)) (fun p => jw K p.2)) (PX Qf (fun s => jw K s)) False = QQ
  change J X K 5 False QQ 0 0 2017 (jw K σ) 0 [(0, .ref (K.2.2 + 0)), (1, .int l1), (2, .int l2), (3, .int l3), (4, .int l4)] []
  have hj_57 : (∀ (σ_57 : Sto), Ok (f11_copyBlock_j57 l1 l2 l3 l4 σ_57) Qf → J X K 5 False QQ 1 6 2017 (jw K σ_57) 57 [] []) := by
    intro σ_57 h
    unfold f11_copyBlock_j57 at h
    rw [← hQQ]
    exact J_throw (is := 124) (text := "no such block") C hnt th_82 (by decide +kernel) dX11_copyBlock_57 dX11_copyBlock_60 dX11_copyBlock_61 dX11_copyBlock_63 dX11_copyBlock_66 (by rw [hR]; exact (Nat.le_of_ble_eq_true rfl)) (by rw [hR]; exact (Nat.le_of_ble_eq_true rfl)) (by rw [hR]; exact (Nat.le_of_ble_eq_true rfl)) (by rw [hR]; exact (Nat.le_of_ble_eq_true rfl)) (Nat.le_of_ble_eq_true rfl) (Nat.le_of_ble_eq_true rfl) ⟨2, σ_57, h.osome, rfl, rfl, rfl⟩
  unfold f11_copyBlock at h
  refine J_aload_n (i := 0) (p := 0) C dX11_copyBlock_0 rfl rfl rfl ?_
  refine J_iload_n (i := 1) (p := 1) C dX11_copyBlock_1 rfl rfl rfl ?_
  refine Jc_cV (rest := []) (st9 := fun p_1 => []) C hR hX cv_RX11_112 rfl (Nat.le_of_ble_eq_true rfl) (k11_requireLine hl  (Ok.ofbndX h)) rfl rfl (Nat.le_of_ble_eq_true rfl) (Nat.le_of_ble_eq_true rfl) (Nat.le_of_ble_eq_true rfl) ⟨(Nat.le_of_ble_eq_true rfl), (Nat.le_of_ble_eq_true rfl)⟩ dX11_copyBlock_2 rfl (fun E n9 w9 hx => by rw [← hQQ]; exact JT_x C hnt (Nat.le_of_ble_eq_true rfl) (Nat.le_of_ble_eq_true rfl) (fun c h => h) E n9 w9 hx) (fun _ => rfl) (fun p_1 h => ?_)
  have h : Ok _ _ := h
  change J X K 5 False QQ 1 6 2017 (jw K p_1) 5 [(0, .ref (K.2.2 + 0)), (1, .int l1), (2, .int l2), (3, .int l3), (4, .int l4)] []
  refine J_iload_n (i := 2) (p := 2) C dX11_copyBlock_5 rfl rfl rfl ?_
  refine J_aload_n (i := 0) (p := 0) C dX11_copyBlock_6 rfl rfl rfl ?_
  refine Jc_getS (o2 := 1) (r2 := 1) C fp_RX11_10 rfl rfl rfl dX11_copyBlock_7 rfl ?_
  refine Jc_getI C fp_RX11_116 rfl rfl dX11_copyBlock_10 rfl ?_
  refine J_iload_n (i := 1) (p := 1) C dX11_copyBlock_13 rfl rfl rfl ?_
  refine J_isub C dX11_copyBlock_14 rfl ?_
  refine J_icmp_le (t := 28) C dX11_copyBlock_15 (by decide) rfl (fun c_2 => ?_) (fun c_2 => ?_)
  · have h := h.pos c_2
    refine J_iload_n (i := 2) (p := 2) C dX11_copyBlock_28 rfl rfl rfl ?_
    refine J_iconst (v := 1) C (by decide) dX11_copyBlock_29 rfl ?_
    refine J_icmp_lt (t := 57) C dX11_copyBlock_30 (by decide) rfl (fun c_3 => ?_) (fun c_3 => ?_)
    · have h := h.pos c_3
      refine J.sub [] rfl ?_
      exact hj_57 p_1 h
    · have h := h.neg c_3
      refine J_iload_n (i := 3) (p := 3) C dX11_copyBlock_33 rfl rfl rfl ?_
      refine J_if_lt (t := 57) C dX11_copyBlock_34 (by decide) rfl (fun c_4 => ?_) (fun c_4 => ?_)
      · have h := h.pos c_4
        refine J.sub [] rfl ?_
        exact hj_57 p_1 h
      · have h := h.neg c_4
        refine J_iload_n (i := 3) (p := 3) C dX11_copyBlock_37 rfl rfl rfl ?_
        refine J_sipush (v := 200) C (by decide) dX11_copyBlock_38 rfl ?_
        refine J_icmp_gt (t := 57) C dX11_copyBlock_41 (by decide) rfl (fun c_5 => ?_) (fun c_5 => ?_)
        · have h := h.pos c_5
          refine J.sub [] rfl ?_
          exact hj_57 p_1 h
        · have h := h.neg c_5
          refine J_iload (i := 4) (p := 4) C dX11_copyBlock_44 rfl rfl ?_
          refine J_iconst (v := 1) C (by decide) dX11_copyBlock_46 rfl ?_
          refine J_icmp_lt (t := 57) C dX11_copyBlock_47 (by decide) rfl (fun c_6 => ?_) (fun c_6 => ?_)
          · have h := h.pos c_6
            refine J.sub [] rfl ?_
            exact hj_57 p_1 h
          · have h := h.neg c_6
            refine J_iload (i := 4) (p := 4) C dX11_copyBlock_50 rfl rfl ?_
            refine J_bipush (v := 40) C (by decide) dX11_copyBlock_52 rfl ?_
            refine J_icmp_le (t := 67) C dX11_copyBlock_54 (by decide) rfl (fun c_7 => ?_) (fun c_7 => ?_)
            · have h := h.pos c_7
              refine J_aload_n (i := 0) (p := 0) C dX11_copyBlock_67 rfl rfl rfl ?_
              refine Jc_getS (o2 := 10) (r2 := 10) C fp_RX11_28 rfl rfl rfl dX11_copyBlock_68 rfl ?_
              refine J_aload_n (i := 0) (p := 0) C dX11_copyBlock_71 rfl rfl rfl ?_
              refine Jc_getS (o2 := 1) (r2 := 1) C fp_RX11_10 rfl rfl rfl dX11_copyBlock_72 rfl ?_
              refine J_iload_n (i := 1) (p := 1) C dX11_copyBlock_75 rfl rfl rfl ?_
              refine J_iload_n (i := 2) (p := 2) C dX11_copyBlock_76 rfl rfl rfl ?_
              refine J_iload_n (i := 3) (p := 3) C dX11_copyBlock_77 rfl rfl rfl ?_
              refine J_iload (i := 4) (p := 4) C dX11_copyBlock_78 rfl rfl ?_
              refine Jc_cV (rest := []) (st9 := fun p_8 => [.int p_8.1]) C hR hX cv_RX11_126 rfl (Nat.le_of_ble_eq_true rfl) (k2_takeBlock hl rfl (Ok.ofbnd h)) rfl rfl (Nat.le_of_ble_eq_true rfl) (Nat.le_of_ble_eq_true rfl) (Nat.le_of_ble_eq_true rfl) ⟨(Nat.le_of_ble_eq_true rfl), (Nat.le_of_ble_eq_true rfl)⟩ dX11_copyBlock_80 rfl (fun E n9 w9 hx => JT_n hx) (fun _ => rfl) (fun p_8 h => ?_)
              have h : Ok _ _ := h
              change J X K 5 False QQ 1 6 2017 (jw K p_8.2) 83 [(0, .ref (K.2.2 + 0)), (1, .int l1), (2, .int l2), (3, .int l3), (4, .int l4)] [.int p_8.1]
              rw [← hQQ]
              exact J_iret C hret (Nat.le_of_ble_eq_true rfl) (Nat.le_of_ble_eq_true rfl) ⟨_, h.osome, rfl, rfl, rfl⟩ dX11_copyBlock_83
            · have h := h.neg c_7
              refine J.sub [] rfl ?_
              exact hj_57 p_1 h
  · have h := h.neg c_2
    rw [← hQQ]
    exact J_throw (is := 121) (text := "there are fewer lines") C hnt th_119 (by decide +kernel) dX11_copyBlock_18 dX11_copyBlock_21 dX11_copyBlock_22 dX11_copyBlock_24 dX11_copyBlock_27 (by rw [hR]; exact (Nat.le_of_ble_eq_true rfl)) (by rw [hR]; exact (Nat.le_of_ble_eq_true rfl)) (by rw [hR]; exact (Nat.le_of_ble_eq_true rfl)) (by rw [hR]; exact (Nat.le_of_ble_eq_true rfl)) (Nat.le_of_ble_eq_true rfl) (Nat.le_of_ble_eq_true rfl) ⟨1, p_1, h.osome, rfl, rfl, rfl⟩
def f1_begin (σ : Sto) (a1 : Nat) (l2 : Int32) (l3 : Int32) : Option (Sto) :=
  stp (uI σ 13 4 (0 : Int32)) fun σx_1 =>
  stp (uI σx_1 13 6 (0 : Int32)) fun σx_2 =>
  bnd (f6_become σx_2 18 a1 l2 l3) fun p_1 =>
  some p_1
set_option maxHeartbeats 4000000 in
set_option maxRecDepth 100000 in
theorem k1_begin {l : Launch} {K : JK} (hl : l.stackTraces = false) {σ : Sto} {a1 : Nat} {l2 : Int32} {l3 : Int32} (h_a1 : kc a1 = 13) {Qf : Sto → Prop} (h : Ok (f1_begin σ a1 l2 l3) Qf) : Con l K yX1_begin (.code yX1_begin cX1_begin 4 none :: TB) 2 0 0 False [.ref (K.2.2 + 13), .ref (K.2.2 + a1), .int l2, .int l3] 2017 (jw K σ) (PR Qf (fun p => none) (fun p => jw K p)) PN := by
  refine Con.enter (own := RX1) hl (by decide) rfl (Nat.le_of_ble_eq_true rfl) ?_
  intro X hX hR C hret hnt
  generalize hQQ : jQ X K 0 0 (PR Qf (fun p => none) (fun p => jw K p)) PN False = QQ
  change J X K 4 False QQ 0 0 2017 (jw K σ) 0 [(0, .ref (K.2.2 + 13)), (1, .ref (K.2.2 + a1)), (2, .int l2), (3, .int l3)] []
  unfold f1_begin at h
  refine J_aload_n (i := 0) (p := 0) C dX1_begin_0 rfl rfl rfl ?_
  refine J_iconst (v := 0) C (by decide) dX1_begin_1 rfl ?_
  obtain ⟨σx_1, e_σx_1, h⟩ := Ok.nm h
  refine Jc_putI C id fp_RX1_24 fw_1_4 rfl rfl rfl e_σx_1 dX1_begin_2 rfl ?_
  refine J_aload_n (i := 0) (p := 0) C dX1_begin_5 rfl rfl rfl ?_
  refine J_iconst (v := 0) C (by decide) dX1_begin_6 rfl ?_
  obtain ⟨σx_2, e_σx_2, h⟩ := Ok.nm h
  refine Jc_putZ C id fp_RX1_37 fw_1_6 rfl rfl rfl rfl e_σx_2 dX1_begin_7 rfl ?_
  refine J_aload_n (i := 0) (p := 0) C dX1_begin_10 rfl rfl rfl ?_
  refine Jc_getS (o2 := 5) (r2 := 18) C fp_RX1_33 rfl rfl rfl dX1_begin_11 rfl ?_
  refine J_aload_n (i := 1) (p := 1) C dX1_begin_14 rfl rfl rfl ?_
  refine J_iload_n (i := 2) (p := 2) C dX1_begin_15 rfl rfl rfl ?_
  refine J_iload_n (i := 3) (p := 3) C dX1_begin_16 rfl rfl rfl ?_
  refine Jc_cV (rest := []) (st9 := fun p_1 => []) C hR hX cv_RX1_61 rfl (Nat.le_of_ble_eq_true rfl) (k6_become hl rfl h_a1 (Ok.ofbnd h)) rfl rfl (Nat.le_of_ble_eq_true rfl) (Nat.le_of_ble_eq_true rfl) (Nat.le_of_ble_eq_true rfl) ⟨(Nat.le_of_ble_eq_true rfl), (Nat.le_of_ble_eq_true rfl)⟩ dX1_begin_17 rfl (fun E n9 w9 hx => JT_n hx) (fun _ => rfl) (fun p_1 h => ?_)
  have h : Ok _ _ := h
  change J X K 4 False QQ 0 0 2017 (jw K p_1) 20 [(0, .ref (K.2.2 + 13)), (1, .ref (K.2.2 + a1)), (2, .int l2), (3, .int l3)] []
  rw [← hQQ]
  exact J_vret C hret (Nat.le_of_ble_eq_true rfl) (Nat.le_of_ble_eq_true rfl) ⟨_, h.osome, rfl, rfl, rfl⟩ dX1_begin_20
def f1_addRange (σ : Sto) (l1 : Int32) (l2 : Int32) (l3 : Int32) (l4 : Int32) : Option (Sto) :=
  if (fI σ 13 4) < (3000 : Int32) then
    gd (inb (fI σ 13 4) 3000) <|
    stp (uA σ 14 (Int32.toNatClampNeg (fI σ 13 4)) l1) fun σx_1 =>
    gd (inb (fI σx_1 13 4) 3000) <|
    stp (uA σx_1 15 (Int32.toNatClampNeg (fI σx_1 13 4)) l2) fun σx_2 =>
    gd (inb (fI σx_2 13 4) 3000) <|
    stp (uA σx_2 16 (Int32.toNatClampNeg (fI σx_2 13 4)) l3) fun σx_3 =>
    gd (inb (fI σx_3 13 4) 3000) <|
    stp (uA σx_3 17 (Int32.toNatClampNeg (fI σx_3 13 4)) l4) fun σx_4 =>
    stp (uI σx_4 13 4 ((fI σx_4 13 4) + (1 : Int32))) fun σx_5 =>
    some σx_5
  else
    stp (uI σ 13 6 (1 : Int32)) fun σx_6 =>
    some σx_6
set_option maxHeartbeats 4000000 in
set_option maxRecDepth 100000 in
theorem k1_addRange {l : Launch} {K : JK} (hl : l.stackTraces = false) {σ : Sto} {l1 : Int32} {l2 : Int32} {l3 : Int32} {l4 : Int32}  {Qf : Sto → Prop} (h : Ok (f1_addRange σ l1 l2 l3 l4) Qf) : Con l K yX1_addRange (.code yX1_addRange cX1_addRange 5 none :: TB) 0 0 0 False [.ref (K.2.2 + 13), .int l1, .int l2, .int l3, .int l4] 2017 (jw K σ) (PR Qf (fun p => none) (fun p => jw K p)) PN := by
  refine Con.enter (own := RX1) hl (by decide) rfl (Nat.le_of_ble_eq_true rfl) ?_
  intro X hX hR C hret hnt
  generalize hQQ : jQ X K 0 0 (PR Qf (fun p => none) (fun p => jw K p)) PN False = QQ
  change J X K 5 False QQ 0 0 2017 (jw K σ) 0 [(0, .ref (K.2.2 + 13)), (1, .int l1), (2, .int l2), (3, .int l3), (4, .int l4)] []
  unfold f1_addRange at h
  refine J_aload_n (i := 0) (p := 0) C dX1_addRange_0 rfl rfl rfl ?_
  refine Jc_getI C fp_RX1_24 rfl rfl dX1_addRange_1 rfl ?_
  refine J_sipush (v := 3000) C (by decide) dX1_addRange_4 rfl ?_
  refine J_icmp_lt (t := 16) C dX1_addRange_7 (by decide) rfl (fun c_1 => ?_) (fun c_1 => ?_)
  · have h := h.pos c_1
    refine J_aload_n (i := 0) (p := 0) C dX1_addRange_16 rfl rfl rfl ?_
    refine Jc_getS (o2 := 1) (r2 := 14) C fp_RX1_9 rfl rfl rfl dX1_addRange_17 rfl ?_
    refine J_aload_n (i := 0) (p := 0) C dX1_addRange_20 rfl rfl rfl ?_
    refine Jc_getI C fp_RX1_24 rfl rfl dX1_addRange_21 rfl ?_
    refine J_iload_n (i := 1) (p := 1) C dX1_addRange_24 rfl rfl rfl ?_
    obtain ⟨g_2, h⟩ := Ok.ofgd h
    obtain ⟨σx_1, e_σx_1, h⟩ := Ok.nm h
    refine Jc_iast C id rfl rfl g_2 e_σx_1 dX1_addRange_25 rfl ?_
    refine J_aload_n (i := 0) (p := 0) C dX1_addRange_26 rfl rfl rfl ?_
    refine Jc_getS (o2 := 2) (r2 := 15) C fp_RX1_15 rfl rfl rfl dX1_addRange_27 rfl ?_
    refine J_aload_n (i := 0) (p := 0) C dX1_addRange_30 rfl rfl rfl ?_
    refine Jc_getI C fp_RX1_24 rfl rfl dX1_addRange_31 rfl ?_
    refine J_iload_n (i := 2) (p := 2) C dX1_addRange_34 rfl rfl rfl ?_
    obtain ⟨g_3, h⟩ := Ok.ofgd h
    obtain ⟨σx_2, e_σx_2, h⟩ := Ok.nm h
    refine Jc_iast C id rfl rfl g_3 e_σx_2 dX1_addRange_35 rfl ?_
    refine J_aload_n (i := 0) (p := 0) C dX1_addRange_36 rfl rfl rfl ?_
    refine Jc_getS (o2 := 3) (r2 := 16) C fp_RX1_18 rfl rfl rfl dX1_addRange_37 rfl ?_
    refine J_aload_n (i := 0) (p := 0) C dX1_addRange_40 rfl rfl rfl ?_
    refine Jc_getI C fp_RX1_24 rfl rfl dX1_addRange_41 rfl ?_
    refine J_iload_n (i := 3) (p := 3) C dX1_addRange_44 rfl rfl rfl ?_
    obtain ⟨g_4, h⟩ := Ok.ofgd h
    obtain ⟨σx_3, e_σx_3, h⟩ := Ok.nm h
    refine Jc_iast C id rfl rfl g_4 e_σx_3 dX1_addRange_45 rfl ?_
    refine J_aload_n (i := 0) (p := 0) C dX1_addRange_46 rfl rfl rfl ?_
    refine Jc_getS (o2 := 4) (r2 := 17) C fp_RX1_21 rfl rfl rfl dX1_addRange_47 rfl ?_
    refine J_aload_n (i := 0) (p := 0) C dX1_addRange_50 rfl rfl rfl ?_
    refine Jc_getI C fp_RX1_24 rfl rfl dX1_addRange_51 rfl ?_
    refine J_iload (i := 4) (p := 4) C dX1_addRange_54 rfl rfl ?_
    obtain ⟨g_5, h⟩ := Ok.ofgd h
    obtain ⟨σx_4, e_σx_4, h⟩ := Ok.nm h
    refine Jc_iast C id rfl rfl g_5 e_σx_4 dX1_addRange_56 rfl ?_
    refine J_aload_n (i := 0) (p := 0) C dX1_addRange_57 rfl rfl rfl ?_
    refine J_dup C rfl dX1_addRange_58 rfl ?_
    refine Jc_getI C fp_RX1_24 rfl rfl dX1_addRange_59 rfl ?_
    refine J_iconst (v := 1) C (by decide) dX1_addRange_62 rfl ?_
    refine J_iadd C dX1_addRange_63 rfl ?_
    obtain ⟨σx_5, e_σx_5, h⟩ := Ok.nm h
    refine Jc_putI C id fp_RX1_24 fw_1_4 rfl rfl rfl e_σx_5 dX1_addRange_64 rfl ?_
    rw [← hQQ]
    exact J_vret C hret (Nat.le_of_ble_eq_true rfl) (Nat.le_of_ble_eq_true rfl) ⟨_, h.osome, rfl, rfl, rfl⟩ dX1_addRange_67
  · have h := h.neg c_1
    refine J_aload_n (i := 0) (p := 0) C dX1_addRange_10 rfl rfl rfl ?_
    refine J_iconst (v := 1) C (by decide) dX1_addRange_11 rfl ?_
    obtain ⟨σx_6, e_σx_6, h⟩ := Ok.nm h
    refine Jc_putZ C id fp_RX1_37 fw_1_6 rfl rfl rfl rfl e_σx_6 dX1_addRange_12 rfl ?_
    rw [← hQQ]
    exact J_vret C hret (Nat.le_of_ble_eq_true rfl) (Nat.le_of_ble_eq_true rfl) ⟨_, h.osome, rfl, rfl, rfl⟩ dX1_addRange_15
def f1_addPart_j10 (l1 : Int32) (l2 : Int32) (l3 : Int32) (σ_10 : Sto) : Option (Sto) :=
  bnd (f1_addRange σ_10 l1 l2 (0 : Int32) l3) fun p_1 =>
  some p_1
def f1_addPart (σ : Sto) (l1 : Int32) (l2 : Int32) (l3 : Int32) : Option (Sto) :=
  if l1 = l2 then
    if l3 = 0 then
      some σ
    else
      f1_addPart_j10 l1 l2 l3 σ
  else
    f1_addPart_j10 l1 l2 l3 σ
set_option maxHeartbeats 4000000 in
set_option maxRecDepth 100000 in
theorem k1_addPart {l : Launch} {K : JK} (hl : l.stackTraces = false) {σ : Sto} {l1 : Int32} {l2 : Int32} {l3 : Int32}  {Qf : Sto → Prop} (h : Ok (f1_addPart σ l1 l2 l3) Qf) : Con l K yX1_addPart (.code yX1_addPart cX1_addPart 4 none :: TB) 1 0 0 False [.ref (K.2.2 + 13), .int l1, .int l2, .int l3] 2017 (jw K σ) (PR Qf (fun p => none) (fun p => jw K p)) PN := by
  refine Con.enter (own := RX1) hl (by decide) rfl (Nat.le_of_ble_eq_true rfl) ?_
  intro X hX hR C hret hnt
  generalize hQQ : jQ X K 0 0 (PR Qf (fun p => none) (fun p => jw K p)) PN False = QQ
  change J X K 4 False QQ 0 0 2017 (jw K σ) 0 [(0, .ref (K.2.2 + 13)), (1, .int l1), (2, .int l2), (3, .int l3)] []
  have hj_10 : (∀ (σ_10 : Sto), Ok (f1_addPart_j10 l1 l2 l3 σ_10) Qf → J X K 4 False QQ 0 0 2017 (jw K σ_10) 10 [(0, .ref (K.2.2 + 13)), (1, .int l1), (2, .int l2), (3, .int l3)] []) := by
    intro σ_10 h
    unfold f1_addPart_j10 at h
    refine J_aload_n (i := 0) (p := 0) C dX1_addPart_10 rfl rfl rfl ?_
    refine J_iload_n (i := 1) (p := 1) C dX1_addPart_11 rfl rfl rfl ?_
    refine J_iload_n (i := 2) (p := 2) C dX1_addPart_12 rfl rfl rfl ?_
    refine J_iconst (v := 0) C (by decide) dX1_addPart_13 rfl ?_
    refine J_iload_n (i := 3) (p := 3) C dX1_addPart_14 rfl rfl rfl ?_
    refine Jc_cV (rest := []) (st9 := fun p_1 => []) C hR hX cv_RX1_72 rfl (Nat.le_of_ble_eq_true rfl) (k1_addRange hl  (Ok.ofbnd h)) rfl rfl (Nat.le_of_ble_eq_true rfl) (Nat.le_of_ble_eq_true rfl) (Nat.le_of_ble_eq_true rfl) ⟨(Nat.le_of_ble_eq_true rfl), (Nat.le_of_ble_eq_true rfl)⟩ dX1_addPart_15 rfl (fun E n9 w9 hx => JT_n hx) (fun _ => rfl) (fun p_1 h => ?_)
    have h : Ok _ _ := h
    change J X K 4 False QQ 0 0 2017 (jw K p_1) 18 [(0, .ref (K.2.2 + 13)), (1, .int l1), (2, .int l2), (3, .int l3)] []
    rw [← hQQ]
    exact J_vret C hret (Nat.le_of_ble_eq_true rfl) (Nat.le_of_ble_eq_true rfl) ⟨_, h.osome, rfl, rfl, rfl⟩ dX1_addPart_18
  unfold f1_addPart at h
  refine J_iload_n (i := 1) (p := 1) C dX1_addPart_0 rfl rfl rfl ?_
  refine J_iload_n (i := 2) (p := 2) C dX1_addPart_1 rfl rfl rfl ?_
  refine J_icmp_ne (t := 10) C dX1_addPart_2 (by decide) rfl (fun c_2 => ?_) (fun c_2 => ?_)
  · have h := h.neg c_2
    exact hj_10 σ h
  · have h := h.pos (Decidable.not_not.mp c_2)
    refine J_iload_n (i := 3) (p := 3) C dX1_addPart_5 rfl rfl rfl ?_
    refine J_if_ne (t := 10) C dX1_addPart_6 (by decide) rfl (fun c_3 => ?_) (fun c_3 => ?_)
    · have h := h.neg c_3
      exact hj_10 σ h
    · have h := h.pos (Decidable.not_not.mp c_3)
      rw [← hQQ]
      exact J_vret C hret (Nat.le_of_ble_eq_true rfl) (Nat.le_of_ble_eq_true rfl) ⟨_, h.osome, rfl, rfl, rfl⟩ dX1_addPart_9
def f11_planAtCursors_b13 (a1 : Nat) (l2 : Int32) (l3 : Int32) (σ_13 : Sto) (l4_13 : Int32) : Option ((Sto × Int32) ⊕ Sto) :=
  if (fI σ_13 1 6) ≤ l4_13 then
    some (.inr σ_13)
  else
    gd (inb l4_13 8) <|
    stp (aI σ_13 5 (Int32.toNatClampNeg l4_13)) fun x5_1 =>
    bnd (f1_addPart σ_13 x5_1 x5_1 l3) fun p_3 =>
    stp (l4_13 + (1 : Int32)) fun x4_2 =>
    some (.inl (p_3, x4_2))
def f11_planAtCursors_j13 (a1 : Nat) (l2 : Int32) (l3 : Int32) (σ_13 : Sto) (l4_13 : Int32) : Option (Sto) :=
  bnd (loopF (fun s_13 => f11_planAtCursors_b13 a1 l2 l3 s_13.1 s_13.2) FU (σ_13, l4_13)) fun r_13 =>
    some r_13
def f11_planAtCursors (σ : Sto) (a1 : Nat) (l2 : Int32) (l3 : Int32) : Option (Sto) :=
  bnd (f1_begin σ a1 l2 l3) fun p_4 =>
  stp (0 : Int32) fun x4_3 =>
  f11_planAtCursors_j13 a1 l2 l3 p_4 x4_3
set_option maxHeartbeats 4000000 in
set_option maxRecDepth 100000 in
theorem k11_planAtCursors {l : Launch} {K : JK} (hl : l.stackTraces = false) {σ : Sto} {a1 : Nat} {l2 : Int32} {l3 : Int32} (h_a1 : kc a1 = 13) {Qf : Sto → Prop} (h : Ok (f11_planAtCursors σ a1 l2 l3) Qf) : Con l K yX11_planAtCursors (.code yX11_planAtCursors cX11_planAtCursors 6 none :: TB) 3 0 0 False [.ref (K.2.2 + 0), .ref (K.2.2 + a1), .int l2, .int l3] 2017 (jw K σ) (PR Qf (fun p => none) (fun p => jw K p)) PN := by
  refine Con.enter (own := RX11) hl (by decide) rfl (Nat.le_of_ble_eq_true rfl) ?_
  intro X hX hR C hret hnt
  generalize hQQ : jQ X K 0 0 (PR Qf (fun p => none) (fun p => jw K p)) PN False = QQ
  change J X K 6 False QQ 0 0 2017 (jw K σ) 0 [(0, .ref (K.2.2 + 0)), (1, .ref (K.2.2 + a1)), (2, .int l2), (3, .int l3)] []
  have hj_13 : (∀ (σ_13 : Sto) (l4_13 : Int32), Ok (f11_planAtCursors_j13 a1 l2 l3 σ_13 l4_13) Qf → J X K 6 False QQ 0 0 2017 (jw K σ_13) 13 [(0, .ref (K.2.2 + 0)), (3, .int l3), (4, .int l4_13)] []) := by
    intro σ_13 l4_13 h
    unfold f11_planAtCursors_j13 at h
    refine loop_gen (S := Sto × Int32) (P := fun s_13 => J X K 6 False QQ 0 0 2017 (jw K s_13.1) 13 [(0, .ref (K.2.2 + 0)), (3, .int l3), (4, .int s_13.2)] []) ?_ FU (σ_13, l4_13) (Ok.ofbnd h)
    intro B_13 hB_13 hE_13 s_13 h
    obtain ⟨σ_13, l4_13⟩ := s_13
    have h : Ok (f11_planAtCursors_b13 a1 l2 l3 σ_13 l4_13) B_13 := h
    change J X K 6 False QQ 0 0 2017 (jw K σ_13) 13 [(0, .ref (K.2.2 + 0)), (3, .int l3), (4, .int l4_13)] []
    unfold f11_planAtCursors_b13 at h
    refine J_iload (i := 4) (p := 2) C dX11_planAtCursors_13 rfl rfl ?_
    refine J_aload_n (i := 0) (p := 0) C dX11_planAtCursors_15 rfl rfl rfl ?_
    refine Jc_getS (o2 := 1) (r2 := 1) C fp_RX11_10 rfl rfl rfl dX11_planAtCursors_16 rfl ?_
    refine Jc_getI C fp_RX11_267 rfl rfl dX11_planAtCursors_19 rfl ?_
    refine J_icmp_ge (t := 55) C dX11_planAtCursors_22 (by decide) rfl (fun c_1 => ?_) (fun c_1 => ?_)
    · have h := h.pos c_1
      have h := hE_13 σ_13 h.osome
      try dsimp only at h
      rw [← hQQ]
      exact J_vret C hret (Nat.le_of_ble_eq_true rfl) (Nat.le_of_ble_eq_true rfl) ⟨_, h.osome, rfl, rfl, rfl⟩ dX11_planAtCursors_55
    · have h := h.neg c_1
      refine J_aload_n (i := 0) (p := 0) C dX11_planAtCursors_25 rfl rfl rfl ?_
      refine Jc_getS (o2 := 1) (r2 := 1) C fp_RX11_10 rfl rfl rfl dX11_planAtCursors_26 rfl ?_
      refine Jc_getS (o2 := 4) (r2 := 5) C fp_RX11_205 rfl rfl rfl dX11_planAtCursors_29 rfl ?_
      refine J_iload (i := 4) (p := 2) C dX11_planAtCursors_32 rfl rfl ?_
      obtain ⟨g_2, h⟩ := Ok.ofgd h
      refine Jc_iald C rfl rfl g_2 dX11_planAtCursors_34 rfl ?_
      obtain ⟨x5_1, e_x5_1, h⟩ := Ok.nm h
      refine J_istoreE (i := 5) (lv' := [(5, .int x5_1), (0, .ref (K.2.2 + 0)), (3, .int l3), (4, .int l4_13)]) C e_x5_1 dX11_planAtCursors_35 (Nat.le_of_ble_eq_true rfl) rfl rfl ?_
      refine J_aload_n (i := 0) (p := 1) C dX11_planAtCursors_37 rfl rfl rfl ?_
      refine Jc_getS (o2 := 13) (r2 := 13) C fp_RX11_35 rfl rfl rfl dX11_planAtCursors_38 rfl ?_
      refine J_iload (i := 5) (p := 0) C dX11_planAtCursors_41 rfl rfl ?_
      refine J_iload (i := 5) (p := 0) C dX11_planAtCursors_43 rfl rfl ?_
      refine J_iload_n (i := 3) (p := 2) C dX11_planAtCursors_45 rfl rfl rfl ?_
      refine Jc_cV (rest := []) (st9 := fun p_3 => []) C hR hX cv_RX11_156 rfl (Nat.le_of_ble_eq_true rfl) (k1_addPart hl  (Ok.ofbnd h)) rfl rfl (Nat.le_of_ble_eq_true rfl) (Nat.le_of_ble_eq_true rfl) (Nat.le_of_ble_eq_true rfl) ⟨(Nat.le_of_ble_eq_true rfl), (Nat.le_of_ble_eq_true rfl)⟩ dX11_planAtCursors_46 rfl (fun E n9 w9 hx => JT_n hx) (fun _ => rfl) (fun p_3 h => ?_)
      have h : Ok _ _ := h
      change J X K 6 False QQ 0 0 2017 (jw K p_3) 49 [(5, .int x5_1), (0, .ref (K.2.2 + 0)), (3, .int l3), (4, .int l4_13)] []
      obtain ⟨x4_2, e_x4_2, h⟩ := Ok.nm h
      refine J_iincE (i := 4) (p := 3) (lv' := [(4, .int x4_2), (5, .int x5_1), (0, .ref (K.2.2 + 0)), (3, .int l3)]) C e_x4_2 dX11_planAtCursors_49 rfl (by decide) (Nat.le_of_ble_eq_true rfl) rfl rfl ?_
      refine J_goto (t := 13) C dX11_planAtCursors_52 (by decide) ?_
      refine J.sub [2, 3, 0] rfl ?_
      exact hB_13 (p_3, x4_2) h.osome
  unfold f11_planAtCursors at h
  refine J_aload_n (i := 0) (p := 0) C dX11_planAtCursors_0 rfl rfl rfl ?_
  refine Jc_getS (o2 := 13) (r2 := 13) C fp_RX11_35 rfl rfl rfl dX11_planAtCursors_1 rfl ?_
  refine J_aload_n (i := 1) (p := 1) C dX11_planAtCursors_4 rfl rfl rfl ?_
  refine J_iload_n (i := 2) (p := 2) C dX11_planAtCursors_5 rfl rfl rfl ?_
  refine J_iload_n (i := 3) (p := 3) C dX11_planAtCursors_6 rfl rfl rfl ?_
  refine Jc_cV (rest := []) (st9 := fun p_4 => []) C hR hX cv_RX11_153 rfl (Nat.le_of_ble_eq_true rfl) (k1_begin hl h_a1 (Ok.ofbnd h)) rfl rfl (Nat.le_of_ble_eq_true rfl) (Nat.le_of_ble_eq_true rfl) (Nat.le_of_ble_eq_true rfl) ⟨(Nat.le_of_ble_eq_true rfl), (Nat.le_of_ble_eq_true rfl)⟩ dX11_planAtCursors_7 rfl (fun E n9 w9 hx => JT_n hx) (fun _ => rfl) (fun p_4 h => ?_)
  have h : Ok _ _ := h
  change J X K 6 False QQ 0 0 2017 (jw K p_4) 10 [(0, .ref (K.2.2 + 0)), (1, .ref (K.2.2 + a1)), (2, .int l2), (3, .int l3)] []
  refine J_iconst (v := 0) C (by decide) dX11_planAtCursors_10 rfl ?_
  obtain ⟨x4_3, e_x4_3, h⟩ := Ok.nm h
  refine J_istoreE (i := 4) (lv' := [(4, .int x4_3), (0, .ref (K.2.2 + 0)), (1, .ref (K.2.2 + a1)), (2, .int l2), (3, .int l3)]) C e_x4_3 dX11_planAtCursors_11 (Nat.le_of_ble_eq_true rfl) rfl rfl ?_
  refine J.sub [1, 4, 0] rfl ?_
  exact hj_13 p_4 x4_3 h
def f4_hasRoom_j22 (σ : Sto) (s0_22 : Int32) : Option (Int32) :=
  gd (isB s0_22) <|
  some s0_22
def f4_hasRoom_j17 (σ : Sto) : Option (Int32) :=
  f4_hasRoom_j22 σ (1 : Int32)
def f4_hasRoom (σ : Sto) : Option (Int32) :=
  if (fI σ 24 4) = 0 then
    if (150 : Int32) ≤ (fI σ 24 1) then
      f4_hasRoom_j22 σ (0 : Int32)
    else
      f4_hasRoom_j17 σ
  else
    f4_hasRoom_j17 σ
set_option maxHeartbeats 4000000 in
set_option maxRecDepth 100000 in
theorem k4_hasRoom {l : Launch} {K : JK} (hl : l.stackTraces = false) {σ : Sto}   {Qf : Int32 → Prop} (h : Ok (f4_hasRoom σ) Qf) : Con l K yX4_hasRoom (.code yX4_hasRoom cX4_hasRoom 1 (some .boolean) :: TB) 0 0 0 False [.ref (K.2.2 + 24)] 2017 (jw K σ) (PR Qf (fun p => some (.int p)) (fun p => jw K σ)) PN := by
  refine Con.enter (own := RX4) hl (by decide) rfl (Nat.le_of_ble_eq_true rfl) ?_
  intro X hX hR C hret hnt
  generalize hQQ : jQ X K 0 0 (PR Qf (fun p => some (.int p)) (fun p => jw K σ)) PN False = QQ
  change J X K 1 False QQ 0 0 2017 (jw K σ) 0 [(0, .ref (K.2.2 + 24))] []
  have hj_22 : (∀ (s0_22 : Int32), Ok (f4_hasRoom_j22 σ s0_22) Qf → J X K 1 False QQ 0 0 2017 (jw K σ) 22 [] [.int s0_22]) := by
    intro s0_22 h
    unfold f4_hasRoom_j22 at h
    obtain ⟨g_1, h⟩ := Ok.ofgd h
    rw [← hQQ]
    exact J_zret C hret (narB g_1).1 (Nat.le_of_ble_eq_true rfl) (Nat.le_of_ble_eq_true rfl) ⟨_, h.osome, rfl, rfl, rfl⟩ dX4_hasRoom_22
  have hj_17 : (Ok (f4_hasRoom_j17 σ) Qf → J X K 1 False QQ 0 0 2017 (jw K σ) 17 [] []) := by
    intro h
    unfold f4_hasRoom_j17 at h
    refine J_iconst (v := 1) C (by decide) dX4_hasRoom_17 rfl ?_
    refine J_goto (t := 22) C dX4_hasRoom_18 (by decide) ?_
    exact hj_22 (1 : Int32) h
  unfold f4_hasRoom at h
  refine J_aload_n (i := 0) (p := 0) C dX4_hasRoom_0 rfl rfl rfl ?_
  refine Jc_getI C fp_RX4_30 rfl rfl dX4_hasRoom_1 rfl ?_
  refine J_if_ne (t := 17) C dX4_hasRoom_4 (by decide) rfl (fun c_2 => ?_) (fun c_2 => ?_)
  · have h := h.neg c_2
    refine J.sub [] rfl ?_
    exact hj_17  h
  · have h := h.pos (Decidable.not_not.mp c_2)
    refine J_aload_n (i := 0) (p := 0) C dX4_hasRoom_7 rfl rfl rfl ?_
    refine Jc_getI C fp_RX4_17 rfl rfl dX4_hasRoom_8 rfl ?_
    refine J_sipush (v := 150) C (by decide) dX4_hasRoom_11 rfl ?_
    refine J_icmp_ge (t := 21) C dX4_hasRoom_14 (by decide) rfl (fun c_3 => ?_) (fun c_3 => ?_)
    · have h := h.pos c_3
      refine J_iconst (v := 0) C (by decide) dX4_hasRoom_21 rfl ?_
      refine J.sub [] rfl ?_
      exact hj_22 (0 : Int32) h
    · have h := h.neg c_3
      refine J.sub [] rfl ?_
      exact hj_17  h
def f1_growth_b4 (σ : Sto) (l1_4 : Int32) (l2_4 : Int32) : Option ((Int32 × Int32) ⊕ Int32) :=
  if (fI σ 13 4) ≤ l2_4 then
    some (.inr l1_4)
  else
    gd (inb l2_4 3000) <|
    gd (inb l2_4 3000) <|
    gd (inb l2_4 3000) <|
    stp (l1_4 + ((aI σ 17 (Int32.toNatClampNeg l2_4)) - ((aI σ 15 (Int32.toNatClampNeg l2_4)) - (aI σ 14 (Int32.toNatClampNeg l2_4))))) fun x1_1 =>
    stp (l2_4 + (1 : Int32)) fun x2_2 =>
    some (.inl (x1_1, x2_2))
def f1_growth_j4 (σ : Sto) (l1_4 : Int32) (l2_4 : Int32) : Option (Int32) :=
  bnd (loopF (fun s_4 => f1_growth_b4 σ s_4.1 s_4.2) FU (l1_4, l2_4)) fun r_4 =>
    some r_4
def f1_growth (σ : Sto) : Option (Int32) :=
  stp (0 : Int32) fun x1_3 =>
  stp (0 : Int32) fun x2_4 =>
  f1_growth_j4 σ x1_3 x2_4
set_option maxHeartbeats 4000000 in
set_option maxRecDepth 100000 in
theorem k1_growth {l : Launch} {K : JK} (hl : l.stackTraces = false) {σ : Sto}   {Qf : Int32 → Prop} (h : Ok (f1_growth σ) Qf) : Con l K yX1_growth (.code yX1_growth cX1_growth 3 (some .int) :: TB) 0 0 0 False [.ref (K.2.2 + 13)] 2017 (jw K σ) (PR Qf (fun p => some (.int p)) (fun p => jw K σ)) PN := by
  refine Con.enter (own := RX1) hl (by decide) rfl (Nat.le_of_ble_eq_true rfl) ?_
  intro X hX hR C hret hnt
  generalize hQQ : jQ X K 0 0 (PR Qf (fun p => some (.int p)) (fun p => jw K σ)) PN False = QQ
  change J X K 3 False QQ 0 0 2017 (jw K σ) 0 [(0, .ref (K.2.2 + 13))] []
  have hj_4 : (∀ (l1_4 : Int32) (l2_4 : Int32), Ok (f1_growth_j4 σ l1_4 l2_4) Qf → J X K 3 False QQ 0 0 2017 (jw K σ) 4 [(0, .ref (K.2.2 + 13)), (1, .int l1_4), (2, .int l2_4)] []) := by
    intro l1_4 l2_4 h
    unfold f1_growth_j4 at h
    refine loop_gen (S := Int32 × Int32) (P := fun s_4 => J X K 3 False QQ 0 0 2017 (jw K σ) 4 [(0, .ref (K.2.2 + 13)), (1, .int s_4.1), (2, .int s_4.2)] []) ?_ FU (l1_4, l2_4) (Ok.ofbnd h)
    intro B_4 hB_4 hE_4 s_4 h
    obtain ⟨l1_4, l2_4⟩ := s_4
    have h : Ok (f1_growth_b4 σ l1_4 l2_4) B_4 := h
    change J X K 3 False QQ 0 0 2017 (jw K σ) 4 [(0, .ref (K.2.2 + 13)), (1, .int l1_4), (2, .int l2_4)] []
    unfold f1_growth_b4 at h
    refine J_iload_n (i := 2) (p := 2) C dX1_growth_4 rfl rfl rfl ?_
    refine J_aload_n (i := 0) (p := 0) C dX1_growth_5 rfl rfl rfl ?_
    refine Jc_getI C fp_RX1_24 rfl rfl dX1_growth_6 rfl ?_
    refine J_icmp_ge (t := 41) C dX1_growth_9 (by decide) rfl (fun c_1 => ?_) (fun c_1 => ?_)
    · have h := h.pos c_1
      have h := hE_4 l1_4 h.osome
      try dsimp only at h
      refine J_iload_n (i := 1) (p := 1) C dX1_growth_41 rfl rfl rfl ?_
      rw [← hQQ]
      exact J_iret C hret (Nat.le_of_ble_eq_true rfl) (Nat.le_of_ble_eq_true rfl) ⟨_, h.osome, rfl, rfl, rfl⟩ dX1_growth_42
    · have h := h.neg c_1
      refine J_iload_n (i := 1) (p := 1) C dX1_growth_12 rfl rfl rfl ?_
      refine J_aload_n (i := 0) (p := 0) C dX1_growth_13 rfl rfl rfl ?_
      refine Jc_getS (o2 := 4) (r2 := 17) C fp_RX1_21 rfl rfl rfl dX1_growth_14 rfl ?_
      refine J_iload_n (i := 2) (p := 2) C dX1_growth_17 rfl rfl rfl ?_
      obtain ⟨g_2, h⟩ := Ok.ofgd h
      refine Jc_iald C rfl rfl g_2 dX1_growth_18 rfl ?_
      refine J_aload_n (i := 0) (p := 0) C dX1_growth_19 rfl rfl rfl ?_
      refine Jc_getS (o2 := 2) (r2 := 15) C fp_RX1_15 rfl rfl rfl dX1_growth_20 rfl ?_
      refine J_iload_n (i := 2) (p := 2) C dX1_growth_23 rfl rfl rfl ?_
      obtain ⟨g_3, h⟩ := Ok.ofgd h
      refine Jc_iald C rfl rfl g_3 dX1_growth_24 rfl ?_
      refine J_aload_n (i := 0) (p := 0) C dX1_growth_25 rfl rfl rfl ?_
      refine Jc_getS (o2 := 1) (r2 := 14) C fp_RX1_9 rfl rfl rfl dX1_growth_26 rfl ?_
      refine J_iload_n (i := 2) (p := 2) C dX1_growth_29 rfl rfl rfl ?_
      obtain ⟨g_4, h⟩ := Ok.ofgd h
      refine Jc_iald C rfl rfl g_4 dX1_growth_30 rfl ?_
      refine J_isub C dX1_growth_31 rfl ?_
      refine J_isub C dX1_growth_32 rfl ?_
      refine J_iadd C dX1_growth_33 rfl ?_
      obtain ⟨x1_1, e_x1_1, h⟩ := Ok.nm h
      refine J_istoreE_n (i := 1) (lv' := [(1, .int x1_1), (0, .ref (K.2.2 + 13)), (2, .int l2_4)]) C e_x1_1 dX1_growth_34 rfl (Nat.le_of_ble_eq_true rfl) rfl rfl ?_
      obtain ⟨x2_2, e_x2_2, h⟩ := Ok.nm h
      refine J_iincE (i := 2) (p := 2) (lv' := [(2, .int x2_2), (1, .int x1_1), (0, .ref (K.2.2 + 13))]) C e_x2_2 dX1_growth_35 rfl (by decide) (Nat.le_of_ble_eq_true rfl) rfl rfl ?_
      refine J_goto (t := 4) C dX1_growth_38 (by decide) ?_
      refine J.sub [2, 1, 0] rfl ?_
      exact hB_4 (x1_1, x2_2) h.osome
  unfold f1_growth at h
  refine J_iconst (v := 0) C (by decide) dX1_growth_0 rfl ?_
  obtain ⟨x1_3, e_x1_3, h⟩ := Ok.nm h
  refine J_istoreE_n (i := 1) (lv' := [(1, .int x1_3), (0, .ref (K.2.2 + 13))]) C e_x1_3 dX1_growth_1 rfl (Nat.le_of_ble_eq_true rfl) rfl rfl ?_
  refine J_iconst (v := 0) C (by decide) dX1_growth_2 rfl ?_
  obtain ⟨x2_4, e_x2_4, h⟩ := Ok.nm h
  refine J_istoreE_n (i := 2) (lv' := [(2, .int x2_4), (1, .int x1_3), (0, .ref (K.2.2 + 13))]) C e_x2_4 dX1_growth_3 rfl (Nat.le_of_ble_eq_true rfl) rfl rfl ?_
  refine J.sub [2, 1, 0] rfl ?_
  exact hj_4 x1_3 x2_4 h
def f8_lineWith_j36 (a0 : Nat) (l1 : Int32) (σ : Sto) (l2_36 : Int32) (l3_36 : Int32) : Option ((Int32 × Int32) ⊕ Int32) :=
  stp (l3_36 >>> ((1 : Int32) &&& 31)) fun x3_1 =>
  some (.inl (l2_36, x3_1))
def f8_lineWith_b6 (a0 : Nat) (l1 : Int32) (σ : Sto) (l2_6 : Int32) (l3_6 : Int32) : Option ((Int32 × Int32) ⊕ Int32) :=
  if l3_6 ≤ 0 then
    some (.inr l2_6)
  else
    if (fI σ a0 4) ≤ (l2_6 + l3_6) then
      f8_lineWith_j36 a0 l1 σ l2_6 l3_6
    else
      gd (okr (fR σ a0 2) 12) <|
      gd (inb (l2_6 + l3_6) (ln ((fR σ a0 2) - 1))) <|
      if l1 < (aI σ ((fR σ a0 2) - 1) (Int32.toNatClampNeg (l2_6 + l3_6))) then
        f8_lineWith_j36 a0 l1 σ l2_6 l3_6
      else
        stp (l2_6 + l3_6) fun x2_2 =>
        f8_lineWith_j36 a0 l1 σ x2_2 l3_6
def f8_lineWith_j6 (a0 : Nat) (l1 : Int32) (σ : Sto) (l2_6 : Int32) (l3_6 : Int32) : Option (Int32) :=
  bnd (loopF (fun s_6 => f8_lineWith_b6 a0 l1 σ s_6.1 s_6.2) FU (l2_6, l3_6)) fun r_6 =>
    some r_6
def f8_lineWith (σ : Sto) (a0 : Nat) (l1 : Int32) : Option (Int32) :=
  stp (0 : Int32) fun x2_3 =>
  stp (256 : Int32) fun x3_4 =>
  f8_lineWith_j6 a0 l1 σ x2_3 x3_4
set_option maxHeartbeats 4000000 in
set_option maxRecDepth 100000 in
theorem k8_lineWith {l : Launch} {K : JK} (hl : l.stackTraces = false) {σ : Sto} {a0 : Nat} {l1 : Int32} (h_a0 : kc a0 = 8) {Qf : Int32 → Prop} (h : Ok (f8_lineWith σ a0 l1) Qf) : Con l K yX8_lineWith (.code yX8_lineWith cX8_lineWith 4 (some .int) :: TB) 0 0 0 False [.ref (K.2.2 + a0), .int l1] 2017 (jw K σ) (PR Qf (fun p => some (.int p)) (fun p => jw K σ)) PN := by
  refine Con.enter (own := RX8) hl (by decide) rfl (Nat.le_of_ble_eq_true rfl) ?_
  intro X hX hR C hret hnt
  generalize hQQ : jQ X K 0 0 (PR Qf (fun p => some (.int p)) (fun p => jw K σ)) PN False = QQ
  change J X K 4 False QQ 0 0 2017 (jw K σ) 0 [(0, .ref (K.2.2 + a0)), (1, .int l1)] []
  have hj_6 : (∀ (l2_6 : Int32) (l3_6 : Int32), Ok (f8_lineWith_j6 a0 l1 σ l2_6 l3_6) Qf → J X K 4 False QQ 0 0 2017 (jw K σ) 6 [(0, .ref (K.2.2 + a0)), (1, .int l1), (2, .int l2_6), (3, .int l3_6)] []) := by
    intro l2_6 l3_6 h
    unfold f8_lineWith_j6 at h
    refine loop_gen (S := Int32 × Int32) (P := fun s_6 => J X K 4 False QQ 0 0 2017 (jw K σ) 6 [(0, .ref (K.2.2 + a0)), (1, .int l1), (2, .int s_6.1), (3, .int s_6.2)] []) ?_ FU (l2_6, l3_6) (Ok.ofbnd h)
    intro B_6 hB_6 hE_6 s_6 h
    obtain ⟨l2_6, l3_6⟩ := s_6
    have h : Ok (f8_lineWith_b6 a0 l1 σ l2_6 l3_6) B_6 := h
    change J X K 4 False QQ 0 0 2017 (jw K σ) 6 [(0, .ref (K.2.2 + a0)), (1, .int l1), (2, .int l2_6), (3, .int l3_6)] []
    have hj_36 : (∀ (l2_36 : Int32) (l3_36 : Int32), Ok (f8_lineWith_j36 a0 l1 σ l2_36 l3_36) B_6 → J X K 4 False QQ 0 0 2017 (jw K σ) 36 [(0, .ref (K.2.2 + a0)), (1, .int l1), (2, .int l2_36), (3, .int l3_36)] []) := by
      intro l2_36 l3_36 h
      unfold f8_lineWith_j36 at h
      refine J_iload_n (i := 3) (p := 3) C dX8_lineWith_36 rfl rfl rfl ?_
      refine J_iconst (v := 1) C (by decide) dX8_lineWith_37 rfl ?_
      refine J_ishr C dX8_lineWith_38 rfl ?_
      obtain ⟨x3_1, e_x3_1, h⟩ := Ok.nm h
      refine J_istoreE_n (i := 3) (lv' := [(3, .int x3_1), (0, .ref (K.2.2 + a0)), (1, .int l1), (2, .int l2_36)]) C e_x3_1 dX8_lineWith_39 rfl (Nat.le_of_ble_eq_true rfl) rfl rfl ?_
      refine J_goto (t := 6) C dX8_lineWith_40 (by decide) ?_
      refine J.sub [1, 2, 3, 0] rfl ?_
      exact hB_6 (l2_36, x3_1) h.osome
    unfold f8_lineWith_b6 at h
    refine J_iload_n (i := 3) (p := 3) C dX8_lineWith_6 rfl rfl rfl ?_
    refine J_if_le (t := 43) C dX8_lineWith_7 (by decide) rfl (fun c_1 => ?_) (fun c_1 => ?_)
    · have h := h.pos c_1
      have h := hE_6 l2_6 h.osome
      try dsimp only at h
      refine J_iload_n (i := 2) (p := 2) C dX8_lineWith_43 rfl rfl rfl ?_
      rw [← hQQ]
      exact J_iret C hret (Nat.le_of_ble_eq_true rfl) (Nat.le_of_ble_eq_true rfl) ⟨_, h.osome, rfl, rfl, rfl⟩ dX8_lineWith_44
    · have h := h.neg c_1
      refine J_iload_n (i := 2) (p := 2) C dX8_lineWith_10 rfl rfl rfl ?_
      refine J_iload_n (i := 3) (p := 3) C dX8_lineWith_11 rfl rfl rfl ?_
      refine J_iadd C dX8_lineWith_12 rfl ?_
      refine J_aload_n (i := 0) (p := 0) C dX8_lineWith_13 rfl rfl rfl ?_
      refine Jc_getI C fp_RX8_27 h_a0 rfl dX8_lineWith_14 rfl ?_
      refine J_icmp_ge (t := 36) C dX8_lineWith_17 (by decide) rfl (fun c_2 => ?_) (fun c_2 => ?_)
      · have h := h.pos c_2
        exact hj_36 l2_6 l3_6 h
      · have h := h.neg c_2
        refine J_aload_n (i := 0) (p := 0) C dX8_lineWith_20 rfl rfl rfl ?_
        refine Jc_getD C fp_RX8_19 h_a0 rfl dX8_lineWith_21 rfl ?_
        refine J_iload_n (i := 2) (p := 2) C dX8_lineWith_24 rfl rfl rfl ?_
        refine J_iload_n (i := 3) (p := 3) C dX8_lineWith_25 rfl rfl rfl ?_
        refine J_iadd C dX8_lineWith_26 rfl ?_
        obtain ⟨g_3, h⟩ := Ok.ofgd h
        rw [jv_pos (r := fR σ a0 2) (okr_spec g_3).1]
        obtain ⟨g_4, h⟩ := Ok.ofgd h
        refine Jc_iald C (okr_spec g_3).2 rfl g_4 dX8_lineWith_27 rfl ?_
        refine J_iload_n (i := 1) (p := 1) C dX8_lineWith_28 rfl rfl rfl ?_
        refine J_icmp_gt (t := 36) C dX8_lineWith_29 (by decide) rfl (fun c_5 => ?_) (fun c_5 => ?_)
        · have h := h.pos c_5
          exact hj_36 l2_6 l3_6 h
        · have h := h.neg c_5
          refine J_iload_n (i := 2) (p := 2) C dX8_lineWith_32 rfl rfl rfl ?_
          refine J_iload_n (i := 3) (p := 3) C dX8_lineWith_33 rfl rfl rfl ?_
          refine J_iadd C dX8_lineWith_34 rfl ?_
          obtain ⟨x2_2, e_x2_2, h⟩ := Ok.nm h
          refine J_istoreE_n (i := 2) (lv' := [(2, .int x2_2), (0, .ref (K.2.2 + a0)), (1, .int l1), (3, .int l3_6)]) C e_x2_2 dX8_lineWith_35 rfl (Nat.le_of_ble_eq_true rfl) rfl rfl ?_
          refine J.sub [1, 2, 0, 3] rfl ?_
          exact hj_36 x2_2 l3_6 h
  unfold f8_lineWith at h
  refine J_iconst (v := 0) C (by decide) dX8_lineWith_0 rfl ?_
  obtain ⟨x2_3, e_x2_3, h⟩ := Ok.nm h
  refine J_istoreE_n (i := 2) (lv' := [(2, .int x2_3), (0, .ref (K.2.2 + a0)), (1, .int l1)]) C e_x2_3 dX8_lineWith_1 rfl (Nat.le_of_ble_eq_true rfl) rfl rfl ?_
  refine J_sipush (v := 256) C (by decide) dX8_lineWith_2 rfl ?_
  obtain ⟨x3_4, e_x3_4, h⟩ := Ok.nm h
  refine J_istoreE_n (i := 3) (lv' := [(3, .int x3_4), (2, .int x2_3), (0, .ref (K.2.2 + a0)), (1, .int l1)]) C e_x3_4 dX8_lineWith_5 rfl (Nat.le_of_ble_eq_true rfl) rfl rfl ?_
  refine J.sub [2, 3, 1, 0] rfl ?_
  exact hj_6 x2_3 x3_4 h
def f11_openFold_j61 (a0 : Nat) (l1 : Int32) (l2 : Int32) (σ_61 : Sto) (l4_61 : Int32) : Option (Int32 × Sto) :=
  some (l4_61, σ_61)
def f11_openFold_b34 (a0 : Nat) (l1 : Int32) (l2 : Int32) (σ_34 : Sto) (l4_34 : Int32) (l5_34 : Int32) : Option ((Sto × Int32 × Int32) ⊕ (Sto × Int32)) :=
  if l1 ≤ l5_34 then
    some (.inr (σ_34, l4_34))
  else
    gd (inb l5_34 (ln a0)) <|
    if (aI σ_34 a0 (Int32.toNatClampNeg l5_34)) = 0 then
      some (.inr (σ_34, l4_34))
    else
      gd (inb l5_34 (ln a0)) <|
      stp (uA σ_34 a0 (Int32.toNatClampNeg l5_34) (vp_nar .boolean (0 : Int32))) fun σx_1 =>
      stp (l4_34 + (1 : Int32)) fun x4_2 =>
      stp (l5_34 + (1 : Int32)) fun x5_3 =>
      some (.inl (σx_1, x4_2, x5_3))
def f11_openFold_j34 (a0 : Nat) (l1 : Int32) (l2 : Int32) (σ_34 : Sto) (l4_34 : Int32) (l5_34 : Int32) : Option (Int32 × Sto) :=
  bnd (loopF (fun s_34 => f11_openFold_b34 a0 l1 l2 s_34.1 s_34.2.1 s_34.2.2) FU (σ_34, l4_34, l5_34)) fun r_34 =>
    f11_openFold_j61 a0 l1 l2 r_34.1 r_34.2
def f11_openFold_j28 (a0 : Nat) (l1 : Int32) (l2 : Int32) (σ_28 : Sto) (l3_28 : Int32) : Option (Int32 × Sto) :=
  stp (0 : Int32) fun x4_4 =>
  stp l3_28 fun x5_5 =>
  f11_openFold_j34 a0 l1 l2 σ_28 x4_4 x5_5
def f11_openFold_b10 (a0 : Nat) (l1 : Int32) (l2 : Int32) (σ_10 : Sto) (l3_10 : Int32) : Option (Int32 ⊕ Int32) :=
  if l3_10 ≤ 0 then
    some (.inr l3_10)
  else
    gd (inb (l3_10 - (1 : Int32)) (ln a0)) <|
    if (aI σ_10 a0 (Int32.toNatClampNeg (l3_10 - (1 : Int32)))) = 0 then
      some (.inr l3_10)
    else
      stp (l3_10 + (-1 : Int32)) fun x3_6 =>
      some (.inl x3_6)
def f11_openFold_j10 (a0 : Nat) (l1 : Int32) (l2 : Int32) (σ_10 : Sto) (l3_10 : Int32) : Option (Int32 × Sto) :=
  bnd (loopF (fun s_10 => f11_openFold_b10 a0 l1 l2 σ_10 s_10) FU l3_10) fun r_10 =>
    f11_openFold_j28 a0 l1 l2 σ_10 r_10
def f11_openFold (σ : Sto) (a0 : Nat) (l1 : Int32) (l2 : Int32) : Option (Int32 × Sto) :=
  gd (inb l2 (ln a0)) <|
  if (aI σ a0 (Int32.toNatClampNeg l2)) = 0 then
    some ((0 : Int32), σ)
  else
    stp l2 fun x3_7 =>
    f11_openFold_j10 a0 l1 l2 σ x3_7
set_option maxHeartbeats 4000000 in
set_option maxRecDepth 100000 in
theorem k11_openFold {l : Launch} {K : JK} (hl : l.stackTraces = false) {σ : Sto} {a0 : Nat} {l1 : Int32} {l2 : Int32} (h_a0 : kc a0 = 14) {Qf : Int32 × Sto → Prop} (h : Ok (f11_openFold σ a0 l1 l2) Qf) : Con l K yX11_openFold (.code yX11_openFold cX11_openFold 6 (some .int) :: TB) 0 0 0 False [.ref (K.2.2 + a0), .int l1, .int l2] 2017 (jw K σ) (PR Qf (fun p => some (.int p.1)) (fun p => jw K p.2)) PN := by
  refine Con.enter (own := RX11) hl (by decide) rfl (Nat.le_of_ble_eq_true rfl) ?_
  intro X hX hR C hret hnt
  generalize hQQ : jQ X K 0 0 (PR Qf (fun p => some (.int p.1)) (fun p => jw K p.2)) PN False = QQ
  change J X K 6 False QQ 0 0 2017 (jw K σ) 0 [(0, .ref (K.2.2 + a0)), (1, .int l1), (2, .int l2)] []
  have hj_61 : (∀ (σ_61 : Sto) (l4_61 : Int32), Ok (f11_openFold_j61 a0 l1 l2 σ_61 l4_61) Qf → J X K 6 False QQ 0 0 2017 (jw K σ_61) 61 [(4, .int l4_61)] []) := by
    intro σ_61 l4_61 h
    unfold f11_openFold_j61 at h
    refine J_iload (i := 4) (p := 0) C dX11_openFold_61 rfl rfl ?_
    rw [← hQQ]
    exact J_iret C hret (Nat.le_of_ble_eq_true rfl) (Nat.le_of_ble_eq_true rfl) ⟨_, h.osome, rfl, rfl, rfl⟩ dX11_openFold_63
  have hj_34 : (∀ (σ_34 : Sto) (l4_34 : Int32) (l5_34 : Int32), Ok (f11_openFold_j34 a0 l1 l2 σ_34 l4_34 l5_34) Qf → J X K 6 False QQ 0 0 2017 (jw K σ_34) 34 [(0, .ref (K.2.2 + a0)), (1, .int l1), (4, .int l4_34), (5, .int l5_34)] []) := by
    intro σ_34 l4_34 l5_34 h
    unfold f11_openFold_j34 at h
    refine loop_gen (S := Sto × Int32 × Int32) (P := fun s_34 => J X K 6 False QQ 0 0 2017 (jw K s_34.1) 34 [(0, .ref (K.2.2 + a0)), (1, .int l1), (4, .int s_34.2.1), (5, .int s_34.2.2)] []) ?_ FU (σ_34, l4_34, l5_34) (Ok.ofbnd h)
    intro B_34 hB_34 hE_34 s_34 h
    obtain ⟨σ_34, l4_34, l5_34⟩ := s_34
    have h : Ok (f11_openFold_b34 a0 l1 l2 σ_34 l4_34 l5_34) B_34 := h
    change J X K 6 False QQ 0 0 2017 (jw K σ_34) 34 [(0, .ref (K.2.2 + a0)), (1, .int l1), (4, .int l4_34), (5, .int l5_34)] []
    unfold f11_openFold_b34 at h
    refine J_iload (i := 5) (p := 3) C dX11_openFold_34 rfl rfl ?_
    refine J_iload_n (i := 1) (p := 1) C dX11_openFold_36 rfl rfl rfl ?_
    refine J_icmp_ge (t := 61) C dX11_openFold_37 (by decide) rfl (fun c_1 => ?_) (fun c_1 => ?_)
    · have h := h.pos c_1
      have h := hE_34 (σ_34, l4_34) h.osome
      try dsimp only at h
      refine J.sub [2] rfl ?_
      exact hj_61 σ_34 l4_34 h
    · have h := h.neg c_1
      refine J_aload_n (i := 0) (p := 0) C dX11_openFold_40 rfl rfl rfl ?_
      refine J_iload (i := 5) (p := 3) C dX11_openFold_41 rfl rfl ?_
      obtain ⟨g_2, h⟩ := Ok.ofgd h
      refine Jc_zald C h_a0 rfl g_2 dX11_openFold_43 rfl ?_
      refine J_if_eq (t := 61) C dX11_openFold_44 (by decide) rfl (fun c_3 => ?_) (fun c_3 => ?_)
      · have h := h.pos c_3
        have h := hE_34 (σ_34, l4_34) h.osome
        try dsimp only at h
        refine J.sub [2] rfl ?_
        exact hj_61 σ_34 l4_34 h
      · have h := h.neg c_3
        refine J_aload_n (i := 0) (p := 0) C dX11_openFold_47 rfl rfl rfl ?_
        refine J_iload (i := 5) (p := 3) C dX11_openFold_48 rfl rfl ?_
        refine J_iconst (v := 0) C (by decide) dX11_openFold_50 rfl ?_
        obtain ⟨g_4, h⟩ := Ok.ofgd h
        obtain ⟨σx_1, e_σx_1, h⟩ := Ok.nm h
        refine Jc_zast C id h_a0 rfl g_4 e_σx_1 dX11_openFold_51 rfl ?_
        obtain ⟨x4_2, e_x4_2, h⟩ := Ok.nm h
        refine J_iincE (i := 4) (p := 2) (lv' := [(4, .int x4_2), (0, .ref (K.2.2 + a0)), (1, .int l1), (5, .int l5_34)]) C e_x4_2 dX11_openFold_52 rfl (by decide) (Nat.le_of_ble_eq_true rfl) rfl rfl ?_
        obtain ⟨x5_3, e_x5_3, h⟩ := Ok.nm h
        refine J_iincE (i := 5) (p := 3) (lv' := [(5, .int x5_3), (4, .int x4_2), (0, .ref (K.2.2 + a0)), (1, .int l1)]) C e_x5_3 dX11_openFold_55 rfl (by decide) (Nat.le_of_ble_eq_true rfl) rfl rfl ?_
        refine J_goto (t := 34) C dX11_openFold_58 (by decide) ?_
        refine J.sub [2, 3, 1, 0] rfl ?_
        exact hB_34 (σx_1, x4_2, x5_3) h.osome
  have hj_28 : (∀ (σ_28 : Sto) (l3_28 : Int32), Ok (f11_openFold_j28 a0 l1 l2 σ_28 l3_28) Qf → J X K 6 False QQ 0 0 2017 (jw K σ_28) 28 [(0, .ref (K.2.2 + a0)), (1, .int l1), (3, .int l3_28)] []) := by
    intro σ_28 l3_28 h
    unfold f11_openFold_j28 at h
    refine J_iconst (v := 0) C (by decide) dX11_openFold_28 rfl ?_
    obtain ⟨x4_4, e_x4_4, h⟩ := Ok.nm h
    refine J_istoreE (i := 4) (lv' := [(4, .int x4_4), (0, .ref (K.2.2 + a0)), (1, .int l1), (3, .int l3_28)]) C e_x4_4 dX11_openFold_29 (Nat.le_of_ble_eq_true rfl) rfl rfl ?_
    refine J_iload_n (i := 3) (p := 3) C dX11_openFold_31 rfl rfl rfl ?_
    obtain ⟨x5_5, e_x5_5, h⟩ := Ok.nm h
    refine J_istoreE (i := 5) (lv' := [(5, .int x5_5), (4, .int x4_4), (0, .ref (K.2.2 + a0)), (1, .int l1), (3, .int l3_28)]) C e_x5_5 dX11_openFold_32 (Nat.le_of_ble_eq_true rfl) rfl rfl ?_
    refine J.sub [2, 3, 1, 0] rfl ?_
    exact hj_34 σ_28 x4_4 x5_5 h
  have hj_10 : (∀ (σ_10 : Sto) (l3_10 : Int32), Ok (f11_openFold_j10 a0 l1 l2 σ_10 l3_10) Qf → J X K 6 False QQ 0 0 2017 (jw K σ_10) 10 [(0, .ref (K.2.2 + a0)), (1, .int l1), (3, .int l3_10)] []) := by
    intro σ_10 l3_10 h
    unfold f11_openFold_j10 at h
    refine loop_gen (S := Int32) (P := fun s_10 => J X K 6 False QQ 0 0 2017 (jw K σ_10) 10 [(0, .ref (K.2.2 + a0)), (1, .int l1), (3, .int s_10)] []) ?_ FU l3_10 (Ok.ofbnd h)
    intro B_10 hB_10 hE_10 s_10 h
    generalize s_10 = l3_10 at h ⊢
    have h : Ok (f11_openFold_b10 a0 l1 l2 σ_10 l3_10) B_10 := h
    change J X K 6 False QQ 0 0 2017 (jw K σ_10) 10 [(0, .ref (K.2.2 + a0)), (1, .int l1), (3, .int l3_10)] []
    unfold f11_openFold_b10 at h
    refine J_iload_n (i := 3) (p := 2) C dX11_openFold_10 rfl rfl rfl ?_
    refine J_if_le (t := 28) C dX11_openFold_11 (by decide) rfl (fun c_5 => ?_) (fun c_5 => ?_)
    · have h := h.pos c_5
      have h := hE_10 l3_10 h.osome
      try dsimp only at h
      exact hj_28 σ_10 l3_10 h
    · have h := h.neg c_5
      refine J_aload_n (i := 0) (p := 0) C dX11_openFold_14 rfl rfl rfl ?_
      refine J_iload_n (i := 3) (p := 2) C dX11_openFold_15 rfl rfl rfl ?_
      refine J_iconst (v := 1) C (by decide) dX11_openFold_16 rfl ?_
      refine J_isub C dX11_openFold_17 rfl ?_
      obtain ⟨g_6, h⟩ := Ok.ofgd h
      refine Jc_zald C h_a0 rfl g_6 dX11_openFold_18 rfl ?_
      refine J_if_eq (t := 28) C dX11_openFold_19 (by decide) rfl (fun c_7 => ?_) (fun c_7 => ?_)
      · have h := h.pos c_7
        have h := hE_10 l3_10 h.osome
        try dsimp only at h
        exact hj_28 σ_10 l3_10 h
      · have h := h.neg c_7
        obtain ⟨x3_6, e_x3_6, h⟩ := Ok.nm h
        refine J_iincE (i := 3) (p := 2) (lv' := [(3, .int x3_6), (0, .ref (K.2.2 + a0)), (1, .int l1)]) C e_x3_6 dX11_openFold_22 rfl (by decide) (Nat.le_of_ble_eq_true rfl) rfl rfl ?_
        refine J_goto (t := 10) C dX11_openFold_25 (by decide) ?_
        refine J.sub [1, 2, 0] rfl ?_
        exact hB_10 x3_6 h.osome
  unfold f11_openFold at h
  refine J_aload_n (i := 0) (p := 0) C dX11_openFold_0 rfl rfl rfl ?_
  refine J_iload_n (i := 2) (p := 2) C dX11_openFold_1 rfl rfl rfl ?_
  obtain ⟨g_8, h⟩ := Ok.ofgd h
  refine Jc_zald C h_a0 rfl g_8 dX11_openFold_2 rfl ?_
  refine J_if_ne (t := 8) C dX11_openFold_3 (by decide) rfl (fun c_9 => ?_) (fun c_9 => ?_)
  · have h := h.neg c_9
    refine J_iload_n (i := 2) (p := 2) C dX11_openFold_8 rfl rfl rfl ?_
    obtain ⟨x3_7, e_x3_7, h⟩ := Ok.nm h
    refine J_istoreE_n (i := 3) (lv' := [(3, .int x3_7), (0, .ref (K.2.2 + a0)), (1, .int l1), (2, .int l2)]) C e_x3_7 dX11_openFold_9 rfl (Nat.le_of_ble_eq_true rfl) rfl rfl ?_
    refine J.sub [1, 2, 0] rfl ?_
    exact hj_10 σ x3_7 h
  · have h := h.pos (Decidable.not_not.mp c_9)
    refine J_iconst (v := 0) C (by decide) dX11_openFold_6 rfl ?_
    rw [← hQQ]
    exact J_iret C hret (Nat.le_of_ble_eq_true rfl) (Nat.le_of_ble_eq_true rfl) ⟨_, h.osome, rfl, rfl, rfl⟩ dX11_openFold_7
def f1_findStillHidden_b50 (a1 : Nat) (σ_50 : Sto) (l2_50 : Int32) (l3_50 : Int32) (l4_50 : Int32) : Option ((Sto × Int32) ⊕ Sto) :=
  if l3_50 < l4_50 then
    some (.inr σ_50)
  else
    bnd (f11_openFold σ_50 23 (fI σ_50 a1 4) l4_50) fun p_2 =>
    stp (l4_50 + (1 : Int32)) fun x4_2 =>
    some (.inl (p_2.2, x4_2))
def f1_findStillHidden_j50 (a1 : Nat) (σ_50 : Sto) (l2_50 : Int32) (l3_50 : Int32) (l4_50 : Int32) : Option ((Sto × Int32) ⊕ Sto) :=
  bnd (loopF (fun s_50 => f1_findStillHidden_b50 a1 s_50.1 l2_50 l3_50 s_50.2) FU (σ_50, l4_50)) fun r_50 =>
    stp (l2_50 + (1 : Int32)) fun x2_3 =>
    some (.inl (r_50, x2_3))
def f1_findStillHidden_b19 (a1 : Nat) (σ_19 : Sto) (l2_19 : Int32) : Option ((Sto × Int32) ⊕ Sto) :=
  if (fI σ_19 13 4) ≤ l2_19 then
    some (.inr σ_19)
  else
    gd (inb l2_19 3000) <|
    bnd (f8_lineWith σ_19 a1 (aI σ_19 15 (Int32.toNatClampNeg l2_19))) fun p_5 =>
    stp p_5 fun x3_4 =>
    gd (inb l2_19 3000) <|
    bnd (f8_lineWith σ_19 a1 (aI σ_19 14 (Int32.toNatClampNeg l2_19))) fun p_7 =>
    stp p_7 fun x4_5 =>
    f1_findStillHidden_j50 a1 σ_19 l2_19 x3_4 x4_5
def f1_findStillHidden_j19 (a1 : Nat) (σ_19 : Sto) (l2_19 : Int32) : Option (Sto) :=
  bnd (loopF (fun s_19 => f1_findStillHidden_b19 a1 s_19.1 s_19.2) FU (σ_19, l2_19)) fun r_19 =>
    some r_19
def f1_findStillHidden (σ : Sto) (a1 : Nat) : Option (Sto) :=
  gd (okr (fR σ a1 3) 14) <|
  gd (cpok (0 : Int32) (0 : Int32) (fI σ a1 4) (ln ((fR σ a1 3) - 1)) 300) <|
  gd (fitZ (aI σ ((fR σ a1 3) - 1)) (Int32.toNatClampNeg (0 : Int32)) (Int32.toNatClampNeg (fI σ a1 4))) <|
  stp (rA σ 23 (va_cpy (aI σ ((fR σ a1 3) - 1)) (aI σ 23) (Int32.toNatClampNeg (0 : Int32)) (Int32.toNatClampNeg (0 : Int32)) (Int32.toNatClampNeg (fI σ a1 4)))) fun σx_6 =>
  stp (0 : Int32) fun x2_7 =>
  f1_findStillHidden_j19 a1 σx_6 x2_7
set_option maxHeartbeats 4000000 in
set_option maxRecDepth 100000 in
theorem k1_findStillHidden {l : Launch} {K : JK} (hl : l.stackTraces = false) {σ : Sto} {a1 : Nat} (h_a1 : kc a1 = 8) {Qf : Sto → Prop} (h : Ok (f1_findStillHidden σ a1) Qf) : Con l K yX1_findStillHidden (.code yX1_findStillHidden cX1_findStillHidden 5 none :: TB) 1 0 0 False [.ref (K.2.2 + 13), .ref (K.2.2 + a1)] 2017 (jw K σ) (PR Qf (fun p => none) (fun p => jw K p)) PN := by
  refine Con.enter (own := RX1) hl (by decide) rfl (Nat.le_of_ble_eq_true rfl) ?_
  intro X hX hR C hret hnt
  generalize hQQ : jQ X K 0 0 (PR Qf (fun p => none) (fun p => jw K p)) PN False = QQ
  change J X K 5 False QQ 0 0 2017 (jw K σ) 0 [(0, .ref (K.2.2 + 13)), (1, .ref (K.2.2 + a1))] []
  have hj_19 : (∀ (σ_19 : Sto) (l2_19 : Int32), Ok (f1_findStillHidden_j19 a1 σ_19 l2_19) Qf → J X K 5 False QQ 0 0 2017 (jw K σ_19) 19 [(0, .ref (K.2.2 + 13)), (1, .ref (K.2.2 + a1)), (2, .int l2_19)] []) := by
    intro σ_19 l2_19 h
    unfold f1_findStillHidden_j19 at h
    refine loop_gen (S := Sto × Int32) (P := fun s_19 => J X K 5 False QQ 0 0 2017 (jw K s_19.1) 19 [(0, .ref (K.2.2 + 13)), (1, .ref (K.2.2 + a1)), (2, .int s_19.2)] []) ?_ FU (σ_19, l2_19) (Ok.ofbnd h)
    intro B_19 hB_19 hE_19 s_19 h
    obtain ⟨σ_19, l2_19⟩ := s_19
    have h : Ok (f1_findStillHidden_b19 a1 σ_19 l2_19) B_19 := h
    change J X K 5 False QQ 0 0 2017 (jw K σ_19) 19 [(0, .ref (K.2.2 + 13)), (1, .ref (K.2.2 + a1)), (2, .int l2_19)] []
    have hj_50 : (∀ (σ_50 : Sto) (l2_50 : Int32) (l3_50 : Int32) (l4_50 : Int32), Ok (f1_findStillHidden_j50 a1 σ_50 l2_50 l3_50 l4_50) B_19 → J X K 5 False QQ 0 0 2017 (jw K σ_50) 50 [(0, .ref (K.2.2 + 13)), (1, .ref (K.2.2 + a1)), (2, .int l2_50), (3, .int l3_50), (4, .int l4_50)] []) := by
      intro σ_50 l2_50 l3_50 l4_50 h
      unfold f1_findStillHidden_j50 at h
      refine loop_gen (S := Sto × Int32) (P := fun s_50 => J X K 5 False QQ 0 0 2017 (jw K s_50.1) 50 [(0, .ref (K.2.2 + 13)), (1, .ref (K.2.2 + a1)), (2, .int l2_50), (3, .int l3_50), (4, .int s_50.2)] []) ?_ FU (σ_50, l4_50) (Ok.ofbnd h)
      intro B_50 hB_50 hE_50 s_50 h
      obtain ⟨σ_50, l4_50⟩ := s_50
      have h : Ok (f1_findStillHidden_b50 a1 σ_50 l2_50 l3_50 l4_50) B_50 := h
      change J X K 5 False QQ 0 0 2017 (jw K σ_50) 50 [(0, .ref (K.2.2 + 13)), (1, .ref (K.2.2 + a1)), (2, .int l2_50), (3, .int l3_50), (4, .int l4_50)] []
      unfold f1_findStillHidden_b50 at h
      refine J_iload (i := 4) (p := 4) C dX1_findStillHidden_50 rfl rfl ?_
      refine J_iload_n (i := 3) (p := 3) C dX1_findStillHidden_52 rfl rfl rfl ?_
      refine J_icmp_gt (t := 76) C dX1_findStillHidden_53 (by decide) rfl (fun c_1 => ?_) (fun c_1 => ?_)
      · have h := h.pos c_1
        have h := hE_50 σ_50 h.osome
        try dsimp only at h
        obtain ⟨x2_1, e_x2_1, h⟩ := Ok.nm h
        refine J_iincE (i := 2) (p := 2) (lv' := [(2, .int x2_1), (0, .ref (K.2.2 + 13)), (1, .ref (K.2.2 + a1)), (3, .int l3_50), (4, .int l4_50)]) C e_x2_1 dX1_findStillHidden_76 rfl (by decide) (Nat.le_of_ble_eq_true rfl) rfl rfl ?_
        refine J_goto (t := 19) C dX1_findStillHidden_79 (by decide) ?_
        refine J.sub [1, 2, 0] rfl ?_
        exact hB_19 (σ_50, x2_1) h.osome
      · have h := h.neg c_1
        refine J_aload_n (i := 0) (p := 0) C dX1_findStillHidden_56 rfl rfl rfl ?_
        refine Jc_getS (o2 := 10) (r2 := 23) C fp_RX1_58 rfl rfl rfl dX1_findStillHidden_57 rfl ?_
        refine J_aload_n (i := 1) (p := 1) C dX1_findStillHidden_60 rfl rfl rfl ?_
        refine Jc_getI C fp_RX1_102 h_a1 rfl dX1_findStillHidden_61 rfl ?_
        refine J_iload (i := 4) (p := 4) C dX1_findStillHidden_64 rfl rfl ?_
        refine J_cSN (rest := []) (st9 := fun p_2 => [.int p_2.1]) C hR hX cn_RX1_115 (k11_openFold hl rfl (Ok.ofbnd h)) rfl rfl (Nat.le_of_ble_eq_true rfl) (Nat.le_of_ble_eq_true rfl) (Nat.le_of_ble_eq_true rfl) ⟨(Nat.le_of_ble_eq_true rfl), (Nat.le_of_ble_eq_true rfl)⟩ dX1_findStillHidden_66 rfl (fun E n9 w9 hx => JT_n hx) (fun _ => rfl) (fun p_2 h => ?_)
        have h : Ok _ _ := h
        change J X K 5 False QQ 0 0 2017 (jw K p_2.2) 69 [(0, .ref (K.2.2 + 13)), (1, .ref (K.2.2 + a1)), (2, .int l2_50), (3, .int l3_50), (4, .int l4_50)] [.int p_2.1]
        refine J_pop C rfl dX1_findStillHidden_69 rfl ?_
        obtain ⟨x4_2, e_x4_2, h⟩ := Ok.nm h
        refine J_iincE (i := 4) (p := 4) (lv' := [(4, .int x4_2), (0, .ref (K.2.2 + 13)), (1, .ref (K.2.2 + a1)), (2, .int l2_50), (3, .int l3_50)]) C e_x4_2 dX1_findStillHidden_70 rfl (by decide) (Nat.le_of_ble_eq_true rfl) rfl rfl ?_
        refine J_goto (t := 50) C dX1_findStillHidden_73 (by decide) ?_
        refine J.sub [1, 2, 3, 4, 0] rfl ?_
        exact hB_50 (p_2.2, x4_2) h.osome
    unfold f1_findStillHidden_b19 at h
    refine J_iload_n (i := 2) (p := 2) C dX1_findStillHidden_19 rfl rfl rfl ?_
    refine J_aload_n (i := 0) (p := 0) C dX1_findStillHidden_20 rfl rfl rfl ?_
    refine Jc_getI C fp_RX1_24 rfl rfl dX1_findStillHidden_21 rfl ?_
    refine J_icmp_ge (t := 82) C dX1_findStillHidden_24 (by decide) rfl (fun c_3 => ?_) (fun c_3 => ?_)
    · have h := h.pos c_3
      have h := hE_19 σ_19 h.osome
      try dsimp only at h
      rw [← hQQ]
      exact J_vret C hret (Nat.le_of_ble_eq_true rfl) (Nat.le_of_ble_eq_true rfl) ⟨_, h.osome, rfl, rfl, rfl⟩ dX1_findStillHidden_82
    · have h := h.neg c_3
      refine J_aload_n (i := 1) (p := 1) C dX1_findStillHidden_27 rfl rfl rfl ?_
      refine J_aload_n (i := 0) (p := 0) C dX1_findStillHidden_28 rfl rfl rfl ?_
      refine Jc_getS (o2 := 2) (r2 := 15) C fp_RX1_15 rfl rfl rfl dX1_findStillHidden_29 rfl ?_
      refine J_iload_n (i := 2) (p := 2) C dX1_findStillHidden_32 rfl rfl rfl ?_
      obtain ⟨g_4, h⟩ := Ok.ofgd h
      refine Jc_iald C rfl rfl g_4 dX1_findStillHidden_33 rfl ?_
      refine Jc_cV (rest := []) (st9 := fun p_5 => [.int p_5]) C hR hX cv_RX1_111 h_a1 (Nat.le_of_ble_eq_true rfl) (k8_lineWith hl h_a1 (Ok.ofbnd h)) rfl rfl (Nat.le_of_ble_eq_true rfl) (Nat.le_of_ble_eq_true rfl) (Nat.le_of_ble_eq_true rfl) ⟨(Nat.le_of_ble_eq_true rfl), (Nat.le_of_ble_eq_true rfl)⟩ dX1_findStillHidden_34 rfl (fun E n9 w9 hx => JT_n hx) (fun _ => rfl) (fun p_5 h => ?_)
      have h : Ok _ _ := h
      change J X K 5 False QQ 0 0 2017 (jw K σ_19) 37 [(0, .ref (K.2.2 + 13)), (1, .ref (K.2.2 + a1)), (2, .int l2_19)] [.int p_5]
      obtain ⟨x3_4, e_x3_4, h⟩ := Ok.nm h
      refine J_istoreE_n (i := 3) (lv' := [(3, .int x3_4), (0, .ref (K.2.2 + 13)), (1, .ref (K.2.2 + a1)), (2, .int l2_19)]) C e_x3_4 dX1_findStillHidden_37 rfl (Nat.le_of_ble_eq_true rfl) rfl rfl ?_
      refine J_aload_n (i := 1) (p := 2) C dX1_findStillHidden_38 rfl rfl rfl ?_
      refine J_aload_n (i := 0) (p := 1) C dX1_findStillHidden_39 rfl rfl rfl ?_
      refine Jc_getS (o2 := 1) (r2 := 14) C fp_RX1_9 rfl rfl rfl dX1_findStillHidden_40 rfl ?_
      refine J_iload_n (i := 2) (p := 3) C dX1_findStillHidden_43 rfl rfl rfl ?_
      obtain ⟨g_6, h⟩ := Ok.ofgd h
      refine Jc_iald C rfl rfl g_6 dX1_findStillHidden_44 rfl ?_
      refine Jc_cV (rest := []) (st9 := fun p_7 => [.int p_7]) C hR hX cv_RX1_111 h_a1 (Nat.le_of_ble_eq_true rfl) (k8_lineWith hl h_a1 (Ok.ofbnd h)) rfl rfl (Nat.le_of_ble_eq_true rfl) (Nat.le_of_ble_eq_true rfl) (Nat.le_of_ble_eq_true rfl) ⟨(Nat.le_of_ble_eq_true rfl), (Nat.le_of_ble_eq_true rfl)⟩ dX1_findStillHidden_45 rfl (fun E n9 w9 hx => JT_n hx) (fun _ => rfl) (fun p_7 h => ?_)
      have h : Ok _ _ := h
      change J X K 5 False QQ 0 0 2017 (jw K σ_19) 48 [(3, .int x3_4), (0, .ref (K.2.2 + 13)), (1, .ref (K.2.2 + a1)), (2, .int l2_19)] [.int p_7]
      obtain ⟨x4_5, e_x4_5, h⟩ := Ok.nm h
      refine J_istoreE (i := 4) (lv' := [(4, .int x4_5), (3, .int x3_4), (0, .ref (K.2.2 + 13)), (1, .ref (K.2.2 + a1)), (2, .int l2_19)]) C e_x4_5 dX1_findStillHidden_48 (Nat.le_of_ble_eq_true rfl) rfl rfl ?_
      refine J.sub [2, 3, 4, 1, 0] rfl ?_
      exact hj_50 σ_19 l2_19 x3_4 x4_5 h
  unfold f1_findStillHidden at h
  refine J_aload_n (i := 1) (p := 1) C dX1_findStillHidden_0 rfl rfl rfl ?_
  refine Jc_getD C fp_RX1_99 h_a1 rfl dX1_findStillHidden_1 rfl ?_
  refine J_iconst (v := 0) C (by decide) dX1_findStillHidden_4 rfl ?_
  refine J_aload_n (i := 0) (p := 0) C dX1_findStillHidden_5 rfl rfl rfl ?_
  refine Jc_getS (o2 := 10) (r2 := 23) C fp_RX1_58 rfl rfl rfl dX1_findStillHidden_6 rfl ?_
  refine J_iconst (v := 0) C (by decide) dX1_findStillHidden_9 rfl ?_
  refine J_aload_n (i := 1) (p := 1) C dX1_findStillHidden_10 rfl rfl rfl ?_
  refine Jc_getI C fp_RX1_102 h_a1 rfl dX1_findStillHidden_11 rfl ?_
  obtain ⟨g_8, h⟩ := Ok.ofgd h
  rw [jv_pos (r := fR σ a1 3) (okr_spec g_8).1]
  obtain ⟨g_9, h⟩ := Ok.ofgd h
  obtain ⟨g_10, h⟩ := Ok.ofgd h
  obtain ⟨σx_6, e_σx_6, h⟩ := Ok.nm h
  refine Jc_copyZ C id ac_RX1_105 ac_nat ac_st ac_ini (okr_spec g_8).2 rfl rfl rfl g_9 e_σx_6 (fitZ_spec g_10) (by rw [hR]; exact (Nat.le_of_ble_eq_true rfl)) (by rw [hR]; exact (Nat.le_of_ble_eq_true rfl)) dX1_findStillHidden_14 rfl ?_
  refine J_iconst (v := 0) C (by decide) dX1_findStillHidden_17 rfl ?_
  obtain ⟨x2_7, e_x2_7, h⟩ := Ok.nm h
  refine J_istoreE_n (i := 2) (lv' := [(2, .int x2_7), (0, .ref (K.2.2 + 13)), (1, .ref (K.2.2 + a1))]) C e_x2_7 dX1_findStillHidden_18 rfl (Nat.le_of_ble_eq_true rfl) rfl rfl ?_
  refine J.sub [1, 2, 0] rfl ?_
  exact hj_19 σx_6 x2_7 h
def f1_addLine_j30 (l1 : Int32) (l2 : Int32) (σ_30 : Sto) : Option (Sto) :=
  stp (uI σ_30 13 11 ((fI σ_30 13 11) + (1 : Int32))) fun σx_1 =>
  some σx_1
def f1_addLine (σ : Sto) (l1 : Int32) (l2 : Int32) : Option (Sto) :=
  if (300 : Int32) ≤ (fI σ 13 11) then
    f1_addLine_j30 l1 l2 σ
  else
    gd (okr (fR σ 13 9) 12) <|
    gd (inb (fI σ 13 11) (ln ((fR σ 13 9) - 1))) <|
    stp (uA σ ((fR σ 13 9) - 1) (Int32.toNatClampNeg (fI σ 13 11)) l1) fun σx_2 =>
    gd (okr (fR σx_2 13 10) 14) <|
    gd (inb (fI σx_2 13 11) (ln ((fR σx_2 13 10) - 1))) <|
    stp (uA σx_2 ((fR σx_2 13 10) - 1) (Int32.toNatClampNeg (fI σx_2 13 11)) (vp_nar .boolean l2)) fun σx_3 =>
    f1_addLine_j30 l1 l2 σx_3
set_option maxHeartbeats 4000000 in
set_option maxRecDepth 100000 in
theorem k1_addLine {l : Launch} {K : JK} (hl : l.stackTraces = false) {σ : Sto} {l1 : Int32} {l2 : Int32}  {Qf : Sto → Prop} (h : Ok (f1_addLine σ l1 l2) Qf) : Con l K yX1_addLine (.code yX1_addLine cX1_addLine 3 none :: TB) 0 0 0 False [.ref (K.2.2 + 13), .int l1, .int l2] 2017 (jw K σ) (PR Qf (fun p => none) (fun p => jw K p)) PN := by
  refine Con.enter (own := RX1) hl (by decide) rfl (Nat.le_of_ble_eq_true rfl) ?_
  intro X hX hR C hret hnt
  generalize hQQ : jQ X K 0 0 (PR Qf (fun p => none) (fun p => jw K p)) PN False = QQ
  change J X K 3 False QQ 0 0 2017 (jw K σ) 0 [(0, .ref (K.2.2 + 13)), (1, .int l1), (2, .int l2)] []
  have hj_30 : (∀ (σ_30 : Sto), Ok (f1_addLine_j30 l1 l2 σ_30) Qf → J X K 3 False QQ 0 0 2017 (jw K σ_30) 30 [(0, .ref (K.2.2 + 13))] []) := by
    intro σ_30 h
    unfold f1_addLine_j30 at h
    refine J_aload_n (i := 0) (p := 0) C dX1_addLine_30 rfl rfl rfl ?_
    refine J_dup C rfl dX1_addLine_31 rfl ?_
    refine Jc_getI C fp_RX1_55 rfl rfl dX1_addLine_32 rfl ?_
    refine J_iconst (v := 1) C (by decide) dX1_addLine_35 rfl ?_
    refine J_iadd C dX1_addLine_36 rfl ?_
    obtain ⟨σx_1, e_σx_1, h⟩ := Ok.nm h
    refine Jc_putI C id fp_RX1_55 fw_1_11 rfl rfl rfl e_σx_1 dX1_addLine_37 rfl ?_
    rw [← hQQ]
    exact J_vret C hret (Nat.le_of_ble_eq_true rfl) (Nat.le_of_ble_eq_true rfl) ⟨_, h.osome, rfl, rfl, rfl⟩ dX1_addLine_40
  unfold f1_addLine at h
  refine J_aload_n (i := 0) (p := 0) C dX1_addLine_0 rfl rfl rfl ?_
  refine Jc_getI C fp_RX1_55 rfl rfl dX1_addLine_1 rfl ?_
  refine J_sipush (v := 300) C (by decide) dX1_addLine_4 rfl ?_
  refine J_icmp_ge (t := 30) C dX1_addLine_7 (by decide) rfl (fun c_1 => ?_) (fun c_1 => ?_)
  · have h := h.pos c_1
    refine J.sub [0] rfl ?_
    exact hj_30 σ h
  · have h := h.neg c_1
    refine J_aload_n (i := 0) (p := 0) C dX1_addLine_10 rfl rfl rfl ?_
    refine Jc_getD C fp_RX1_48 rfl rfl dX1_addLine_11 rfl ?_
    refine J_aload_n (i := 0) (p := 0) C dX1_addLine_14 rfl rfl rfl ?_
    refine Jc_getI C fp_RX1_55 rfl rfl dX1_addLine_15 rfl ?_
    refine J_iload_n (i := 1) (p := 1) C dX1_addLine_18 rfl rfl rfl ?_
    obtain ⟨g_2, h⟩ := Ok.ofgd h
    rw [jv_pos (r := fR σ 13 9) (okr_spec g_2).1]
    obtain ⟨g_3, h⟩ := Ok.ofgd h
    obtain ⟨σx_2, e_σx_2, h⟩ := Ok.nm h
    refine Jc_iast C id (okr_spec g_2).2 rfl g_3 e_σx_2 dX1_addLine_19 rfl ?_
    refine J_aload_n (i := 0) (p := 0) C dX1_addLine_20 rfl rfl rfl ?_
    refine Jc_getD C fp_RX1_51 rfl rfl dX1_addLine_21 rfl ?_
    refine J_aload_n (i := 0) (p := 0) C dX1_addLine_24 rfl rfl rfl ?_
    refine Jc_getI C fp_RX1_55 rfl rfl dX1_addLine_25 rfl ?_
    refine J_iload_n (i := 2) (p := 2) C dX1_addLine_28 rfl rfl rfl ?_
    obtain ⟨g_4, h⟩ := Ok.ofgd h
    rw [jv_pos (r := fR σx_2 13 10) (okr_spec g_4).1]
    obtain ⟨g_5, h⟩ := Ok.ofgd h
    obtain ⟨σx_3, e_σx_3, h⟩ := Ok.nm h
    refine Jc_zast C id (okr_spec g_4).2 rfl g_5 e_σx_3 dX1_addLine_29 rfl ?_
    refine J.sub [0] rfl ?_
    exact hj_30 σx_3 h
def f1_takeOver_j82 (a1 : Nat) (l2 : Int32) (l3 : Int32) (σ_82 : Sto) : Option (Sto) :=
  stp (uI σ_82 13 8 ((fI σ_82 13 8) + (l3 - l2))) fun σx_1 =>
  some σx_1
def f1_takeOver_b28 (a1 : Nat) (l2 : Int32) (l3 : Int32) (σ_28 : Sto) (l4_28 : Int32) : Option ((Sto × Int32) ⊕ (Sto ⊕ Sto)) :=
  if (fI σ_28 a1 4) ≤ l4_28 then
    some (.inr (Sum.inl σ_28))
  else
    gd (okr (fR σ_28 a1 2) 12) <|
    gd (inb l4_28 (ln ((fR σ_28 a1 2) - 1))) <|
    if (aI σ_28 ((fR σ_28 a1 2) - 1) (Int32.toNatClampNeg l4_28)) ≤ l3 then
      gd (okr (fR σ_28 a1 2) 12) <|
      gd (inb l4_28 (ln ((fR σ_28 a1 2) - 1))) <|
      gd (inb l4_28 300) <|
      bnd (f1_addLine σ_28 (((fI σ_28 13 8) + (aI σ_28 ((fR σ_28 a1 2) - 1) (Int32.toNatClampNeg l4_28))) - l2) (aI σ_28 23 (Int32.toNatClampNeg l4_28))) fun p_8 =>
      stp (l4_28 + (1 : Int32)) fun x4_2 =>
      some (.inl (p_8, x4_2))
    else
      some (.inr (Sum.inr σ_28))
def f1_takeOver_j28 (a1 : Nat) (l2 : Int32) (l3 : Int32) (σ_28 : Sto) (l4_28 : Int32) : Option (Sto) :=
  bnd (loopF (fun s_28 => f1_takeOver_b28 a1 l2 l3 s_28.1 s_28.2) FU (σ_28, l4_28)) fun r_28 =>
    match r_28 with
    | .inl r_28x =>
      f1_takeOver_j82 a1 l2 l3 r_28x
    | .inr r_28y =>
      f1_takeOver_j82 a1 l2 l3 r_28y
def f1_takeOver (σ : Sto) (a1 : Nat) (l2 : Int32) (l3 : Int32) : Option (Sto) :=
  gd (okr (fR σ a1 0) 13) <|
  gd (okr (fR σ 13 7) 13) <|
  gd (cpok l2 (fI σ 13 8) (l3 - l2) (ln ((fR σ a1 0) - 1)) (ln ((fR σ 13 7) - 1))) <|
  gd (fitB (aI σ ((fR σ a1 0) - 1)) (Int32.toNatClampNeg l2) (Int32.toNatClampNeg (l3 - l2))) <|
  stp (rA σ ((fR σ 13 7) - 1) (va_cpy (aI σ ((fR σ a1 0) - 1)) (aI σ ((fR σ 13 7) - 1)) (Int32.toNatClampNeg l2) (Int32.toNatClampNeg (fI σ 13 8)) (Int32.toNatClampNeg (l3 - l2)))) fun σx_3 =>
  bnd (f8_lineWith σx_3 a1 l2) fun p_13 =>
  stp (p_13 + (1 : Int32)) fun x4_4 =>
  f1_takeOver_j28 a1 l2 l3 σx_3 x4_4
set_option maxHeartbeats 4000000 in
set_option maxRecDepth 100000 in
theorem k1_takeOver {l : Launch} {K : JK} (hl : l.stackTraces = false) {σ : Sto} {a1 : Nat} {l2 : Int32} {l3 : Int32} (h_a1 : kc a1 = 8) {Qf : Sto → Prop} (h : Ok (f1_takeOver σ a1 l2 l3) Qf) : Con l K yX1_takeOver (.code yX1_takeOver cX1_takeOver 5 none :: TB) 1 0 0 False [.ref (K.2.2 + 13), .ref (K.2.2 + a1), .int l2, .int l3] 2017 (jw K σ) (PR Qf (fun p => none) (fun p => jw K p)) PN := by
  refine Con.enter (own := RX1) hl (by decide) rfl (Nat.le_of_ble_eq_true rfl) ?_
  intro X hX hR C hret hnt
  generalize hQQ : jQ X K 0 0 (PR Qf (fun p => none) (fun p => jw K p)) PN False = QQ
  change J X K 5 False QQ 0 0 2017 (jw K σ) 0 [(0, .ref (K.2.2 + 13)), (1, .ref (K.2.2 + a1)), (2, .int l2), (3, .int l3)] []
  have hj_82 : (∀ (σ_82 : Sto), Ok (f1_takeOver_j82 a1 l2 l3 σ_82) Qf → J X K 5 False QQ 0 0 2017 (jw K σ_82) 82 [(0, .ref (K.2.2 + 13)), (2, .int l2), (3, .int l3)] []) := by
    intro σ_82 h
    unfold f1_takeOver_j82 at h
    refine J_aload_n (i := 0) (p := 0) C dX1_takeOver_82 rfl rfl rfl ?_
    refine J_dup C rfl dX1_takeOver_83 rfl ?_
    refine Jc_getI C fp_RX1_45 rfl rfl dX1_takeOver_84 rfl ?_
    refine J_iload_n (i := 3) (p := 2) C dX1_takeOver_87 rfl rfl rfl ?_
    refine J_iload_n (i := 2) (p := 1) C dX1_takeOver_88 rfl rfl rfl ?_
    refine J_isub C dX1_takeOver_89 rfl ?_
    refine J_iadd C dX1_takeOver_90 rfl ?_
    obtain ⟨σx_1, e_σx_1, h⟩ := Ok.nm h
    refine Jc_putI C id fp_RX1_45 fw_1_8 rfl rfl rfl e_σx_1 dX1_takeOver_91 rfl ?_
    rw [← hQQ]
    exact J_vret C hret (Nat.le_of_ble_eq_true rfl) (Nat.le_of_ble_eq_true rfl) ⟨_, h.osome, rfl, rfl, rfl⟩ dX1_takeOver_94
  have hj_28 : (∀ (σ_28 : Sto) (l4_28 : Int32), Ok (f1_takeOver_j28 a1 l2 l3 σ_28 l4_28) Qf → J X K 5 False QQ 0 0 2017 (jw K σ_28) 28 [(0, .ref (K.2.2 + 13)), (1, .ref (K.2.2 + a1)), (2, .int l2), (3, .int l3), (4, .int l4_28)] []) := by
    intro σ_28 l4_28 h
    unfold f1_takeOver_j28 at h
    refine loop_gen (S := Sto × Int32) (P := fun s_28 => J X K 5 False QQ 0 0 2017 (jw K s_28.1) 28 [(0, .ref (K.2.2 + 13)), (1, .ref (K.2.2 + a1)), (2, .int l2), (3, .int l3), (4, .int s_28.2)] []) ?_ FU (σ_28, l4_28) (Ok.ofbnd h)
    intro B_28 hB_28 hE_28 s_28 h
    obtain ⟨σ_28, l4_28⟩ := s_28
    have h : Ok (f1_takeOver_b28 a1 l2 l3 σ_28 l4_28) B_28 := h
    change J X K 5 False QQ 0 0 2017 (jw K σ_28) 28 [(0, .ref (K.2.2 + 13)), (1, .ref (K.2.2 + a1)), (2, .int l2), (3, .int l3), (4, .int l4_28)] []
    unfold f1_takeOver_b28 at h
    refine J_iload (i := 4) (p := 4) C dX1_takeOver_28 rfl rfl ?_
    refine J_aload_n (i := 1) (p := 1) C dX1_takeOver_30 rfl rfl rfl ?_
    refine Jc_getI C fp_RX1_102 h_a1 rfl dX1_takeOver_31 rfl ?_
    refine J_icmp_ge (t := 82) C dX1_takeOver_34 (by decide) rfl (fun c_1 => ?_) (fun c_1 => ?_)
    · have h := h.pos c_1
      have h := hE_28 (Sum.inl σ_28) h.osome
      try dsimp only at h
      refine J.sub [0, 2, 3] rfl ?_
      exact hj_82 σ_28 h
    · have h := h.neg c_1
      refine J_aload_n (i := 1) (p := 1) C dX1_takeOver_37 rfl rfl rfl ?_
      refine Jc_getD C fp_RX1_122 h_a1 rfl dX1_takeOver_38 rfl ?_
      refine J_iload (i := 4) (p := 4) C dX1_takeOver_41 rfl rfl ?_
      obtain ⟨g_2, h⟩ := Ok.ofgd h
      rw [jv_pos (r := fR σ_28 a1 2) (okr_spec g_2).1]
      obtain ⟨g_3, h⟩ := Ok.ofgd h
      refine Jc_iald C (okr_spec g_2).2 rfl g_3 dX1_takeOver_43 rfl ?_
      refine J_iload_n (i := 3) (p := 3) C dX1_takeOver_44 rfl rfl rfl ?_
      refine J_icmp_le (t := 51) C dX1_takeOver_45 (by decide) rfl (fun c_4 => ?_) (fun c_4 => ?_)
      · have h := h.pos c_4
        refine J_aload_n (i := 0) (p := 0) C dX1_takeOver_51 rfl rfl rfl ?_
        refine J_aload_n (i := 0) (p := 0) C dX1_takeOver_52 rfl rfl rfl ?_
        refine Jc_getI C fp_RX1_45 rfl rfl dX1_takeOver_53 rfl ?_
        refine J_aload_n (i := 1) (p := 1) C dX1_takeOver_56 rfl rfl rfl ?_
        refine Jc_getD C fp_RX1_122 h_a1 rfl dX1_takeOver_57 rfl ?_
        refine J_iload (i := 4) (p := 4) C dX1_takeOver_60 rfl rfl ?_
        obtain ⟨g_5, h⟩ := Ok.ofgd h
        rw [jv_pos (r := fR σ_28 a1 2) (okr_spec g_5).1]
        obtain ⟨g_6, h⟩ := Ok.ofgd h
        refine Jc_iald C (okr_spec g_5).2 rfl g_6 dX1_takeOver_62 rfl ?_
        refine J_iadd C dX1_takeOver_63 rfl ?_
        refine J_iload_n (i := 2) (p := 2) C dX1_takeOver_64 rfl rfl rfl ?_
        refine J_isub C dX1_takeOver_65 rfl ?_
        refine J_aload_n (i := 0) (p := 0) C dX1_takeOver_66 rfl rfl rfl ?_
        refine Jc_getS (o2 := 10) (r2 := 23) C fp_RX1_58 rfl rfl rfl dX1_takeOver_67 rfl ?_
        refine J_iload (i := 4) (p := 4) C dX1_takeOver_70 rfl rfl ?_
        obtain ⟨g_7, h⟩ := Ok.ofgd h
        refine Jc_zald C rfl rfl g_7 dX1_takeOver_72 rfl ?_
        refine Jc_cV (rest := []) (st9 := fun p_8 => []) C hR hX cv_RX1_87 rfl (Nat.le_of_ble_eq_true rfl) (k1_addLine hl  (Ok.ofbnd h)) rfl rfl (Nat.le_of_ble_eq_true rfl) (Nat.le_of_ble_eq_true rfl) (Nat.le_of_ble_eq_true rfl) ⟨(Nat.le_of_ble_eq_true rfl), (Nat.le_of_ble_eq_true rfl)⟩ dX1_takeOver_73 rfl (fun E n9 w9 hx => JT_n hx) (fun _ => rfl) (fun p_8 h => ?_)
        have h : Ok _ _ := h
        change J X K 5 False QQ 0 0 2017 (jw K p_8) 76 [(0, .ref (K.2.2 + 13)), (1, .ref (K.2.2 + a1)), (2, .int l2), (3, .int l3), (4, .int l4_28)] []
        obtain ⟨x4_2, e_x4_2, h⟩ := Ok.nm h
        refine J_iincE (i := 4) (p := 4) (lv' := [(4, .int x4_2), (0, .ref (K.2.2 + 13)), (1, .ref (K.2.2 + a1)), (2, .int l2), (3, .int l3)]) C e_x4_2 dX1_takeOver_76 rfl (by decide) (Nat.le_of_ble_eq_true rfl) rfl rfl ?_
        refine J_goto (t := 28) C dX1_takeOver_79 (by decide) ?_
        refine J.sub [1, 2, 3, 4, 0] rfl ?_
        exact hB_28 (p_8, x4_2) h.osome
      · have h := h.neg c_4
        have h := hE_28 (Sum.inr σ_28) h.osome
        try dsimp only at h
        refine J_goto (t := 82) C dX1_takeOver_48 (by decide) ?_
        refine J.sub [0, 2, 3] rfl ?_
        exact hj_82 σ_28 h
  unfold f1_takeOver at h
  refine J_aload_n (i := 1) (p := 1) C dX1_takeOver_0 rfl rfl rfl ?_
  refine Jc_getD C fp_RX1_119 h_a1 rfl dX1_takeOver_1 rfl ?_
  refine J_iload_n (i := 2) (p := 2) C dX1_takeOver_4 rfl rfl rfl ?_
  refine J_aload_n (i := 0) (p := 0) C dX1_takeOver_5 rfl rfl rfl ?_
  refine Jc_getD C fp_RX1_41 rfl rfl dX1_takeOver_6 rfl ?_
  refine J_aload_n (i := 0) (p := 0) C dX1_takeOver_9 rfl rfl rfl ?_
  refine Jc_getI C fp_RX1_45 rfl rfl dX1_takeOver_10 rfl ?_
  refine J_iload_n (i := 3) (p := 3) C dX1_takeOver_13 rfl rfl rfl ?_
  refine J_iload_n (i := 2) (p := 2) C dX1_takeOver_14 rfl rfl rfl ?_
  refine J_isub C dX1_takeOver_15 rfl ?_
  obtain ⟨g_9, h⟩ := Ok.ofgd h
  rw [jv_pos (r := fR σ a1 0) (okr_spec g_9).1]
  obtain ⟨g_10, h⟩ := Ok.ofgd h
  rw [jv_pos (r := fR σ 13 7) (okr_spec g_10).1]
  obtain ⟨g_11, h⟩ := Ok.ofgd h
  obtain ⟨g_12, h⟩ := Ok.ofgd h
  obtain ⟨σx_3, e_σx_3, h⟩ := Ok.nm h
  refine Jc_copyB C id ac_RX1_105 ac_nat ac_st ac_ini (okr_spec g_9).2 (okr_spec g_10).2 rfl rfl g_11 e_σx_3 (fitB_spec g_12) (by rw [hR]; exact (Nat.le_of_ble_eq_true rfl)) (by rw [hR]; exact (Nat.le_of_ble_eq_true rfl)) dX1_takeOver_16 rfl ?_
  refine J_aload_n (i := 1) (p := 1) C dX1_takeOver_19 rfl rfl rfl ?_
  refine J_iload_n (i := 2) (p := 2) C dX1_takeOver_20 rfl rfl rfl ?_
  refine Jc_cV (rest := []) (st9 := fun p_13 => [.int p_13]) C hR hX cv_RX1_111 h_a1 (Nat.le_of_ble_eq_true rfl) (k8_lineWith hl h_a1 (Ok.ofbnd h)) rfl rfl (Nat.le_of_ble_eq_true rfl) (Nat.le_of_ble_eq_true rfl) (Nat.le_of_ble_eq_true rfl) ⟨(Nat.le_of_ble_eq_true rfl), (Nat.le_of_ble_eq_true rfl)⟩ dX1_takeOver_21 rfl (fun E n9 w9 hx => JT_n hx) (fun _ => rfl) (fun p_13 h => ?_)
  have h : Ok _ _ := h
  change J X K 5 False QQ 0 0 2017 (jw K σx_3) 24 [(0, .ref (K.2.2 + 13)), (1, .ref (K.2.2 + a1)), (2, .int l2), (3, .int l3)] [.int p_13]
  refine J_iconst (v := 1) C (by decide) dX1_takeOver_24 rfl ?_
  refine J_iadd C dX1_takeOver_25 rfl ?_
  obtain ⟨x4_4, e_x4_4, h⟩ := Ok.nm h
  refine J_istoreE (i := 4) (lv' := [(4, .int x4_4), (0, .ref (K.2.2 + 13)), (1, .ref (K.2.2 + a1)), (2, .int l2), (3, .int l3)]) C e_x4_4 dX1_takeOver_26 (Nat.le_of_ble_eq_true rfl) rfl rfl ?_
  refine J.sub [1, 2, 3, 4, 0] rfl ?_
  exact hj_28 σx_3 x4_4 h
