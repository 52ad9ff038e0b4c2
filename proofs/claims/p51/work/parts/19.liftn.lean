set_option maxHeartbeats 4000000 in
set_option maxRecDepth 100000 in
theorem k11_feed_n {l : Launch} {K : JK} (hl : l.stackTraces = false) {σ : Sto} {l1 : Int64}  {Qf : (Int32 × Sto) ⊕ (Nat × Sto) → Prop} (h : Ok (f11_feed σ l1) Qf) (hno : ∀ c, ¬ Qf (.inr c)) : Con l K yX11_feed (.code yX11_feed cX11_feed 7 (some .int) :: TB) 6 0 0 False [.ref (K.2.2 + 0), .long l1] 2017 (jw K σ) (PR (fun p => Qf (.inl p)) (fun p => some (.int p.1)) (fun p => jw K p.2)) PN := by
  refine Con.enter (own := RX11) hl (by decide) rfl (Nat.le_of_ble_eq_true rfl) ?_
  intro X hX hR C hret hnt
  generalize hQQ : jQ X K 0 0 (PR (fun p => Qf (.inl p)) (fun p => some (.int p.1)) (fun p => jw K p.2)) PN False = QQ
  change J X K 7 False QQ 0 0 2017 (jw K σ) 0 [(0, .ref (K.2.2 + 0)), (1, .long l1)] []
  have hj_113 : (∀ (σ_113 : Sto) (l5_113 : Int32), Ok (f11_feed_j113 l1 σ_113 l5_113) Qf → J X K 7 False QQ 0 0 2017 (jw K σ_113) 113 [(0, .ref (K.2.2 + 0)), (1, .long l1), (5, .int l5_113)] []) := by
    intro σ_113 l5_113 h
    unfold f11_feed_j113 at h
    refine loop_gen (S := Sto × Int32) (P := fun s_113 => J X K 7 False QQ 0 0 2017 (jw K s_113.1) 113 [(0, .ref (K.2.2 + 0)), (1, .long l1), (5, .int s_113.2)] []) ?_ FU (σ_113, l5_113) (Ok.ofbnd h)
    intro B_113 hB_113 hE_113 s_113 h
    obtain ⟨σ_113, l5_113⟩ := s_113
    have h : Ok (f11_feed_b113 l1 σ_113 l5_113) B_113 := h
    change J X K 7 False QQ 0 0 2017 (jw K σ_113) 113 [(0, .ref (K.2.2 + 0)), (1, .long l1), (5, .int l5_113)] []
    have hj_144 : (∀ (σ_144 : Sto) (l5_144 : Int32), Ok (f11_feed_j144 l1 σ_144 l5_144) B_113 → J X K 7 False QQ 0 0 2017 (jw K σ_144) 144 [(0, .ref (K.2.2 + 0)), (1, .long l1), (5, .int l5_144)] []) := by
      intro σ_144 l5_144 h
      unfold f11_feed_j144 at h
      obtain ⟨x5_1, e_x5_1, h⟩ := Ok.nm h
      refine J_iincE (i := 5) (p := 2) (lv' := [(5, .int x5_1), (0, .ref (K.2.2 + 0)), (1, .long l1)]) C e_x5_1 dX11_feed_144 rfl (by decide) (Nat.le_of_ble_eq_true rfl) rfl rfl ?_
      refine J_goto (t := 113) C dX11_feed_147 (by decide) ?_
      refine J.sub [1, 2, 0] rfl ?_
      exact hB_113 (σ_144, x5_1) h.osome
    unfold f11_feed_b113 at h
    refine J_iload (i := 5) (p := 2) C dX11_feed_113 rfl rfl ?_
    refine J_if_lt (t := 150) C dX11_feed_115 (by decide) rfl (fun c_1 => ?_) (fun c_1 => ?_)
    · have h := h.pos c_1
      have h := hE_113 σ_113 h.osome
      try dsimp only at h
      refine J_aload_n (i := 0) (p := 0) C dX11_feed_150 rfl rfl rfl ?_
      refine Jc_getS (o2 := 8) (r2 := 8) C fp_RX11_21 rfl rfl rfl dX11_feed_151 rfl ?_
      refine Jc_getI C fp_RX11_89 rfl rfl dX11_feed_154 rfl ?_
      rw [← hQQ]
      exact J_iret C hret (Nat.le_of_ble_eq_true rfl) (Nat.le_of_ble_eq_true rfl) ⟨_, h.osome, rfl, rfl, rfl⟩ dX11_feed_157
    · have h := h.neg c_1
      refine J_lload_n (i := 1) (p := 1) C dX11_feed_118 rfl rfl rfl ?_
      refine J_iload (i := 5) (p := 2) C dX11_feed_119 rfl rfl ?_
      refine J_lushr C dX11_feed_121 rfl ?_
      refine J_l2i C dX11_feed_122 rfl ?_
      refine J_sipush (v := 255) C (by decide) dX11_feed_123 rfl ?_
      refine J_iand C dX11_feed_126 rfl ?_
      obtain ⟨x6_2, e_x6_2, h⟩ := Ok.nm h
      refine J_istoreE (i := 6) (lv' := [(6, .int x6_2), (0, .ref (K.2.2 + 0)), (1, .long l1), (5, .int l5_113)]) C e_x6_2 dX11_feed_127 (Nat.le_of_ble_eq_true rfl) rfl rfl ?_
      refine J_iload (i := 6) (p := 0) C dX11_feed_129 rfl rfl ?_
      refine J_if_eq (t := 144) C dX11_feed_131 (by decide) rfl (fun c_2 => ?_) (fun c_2 => ?_)
      · have h := h.pos c_2
        refine J.sub [1, 2, 3] rfl ?_
        exact hj_144 σ_113 l5_113 h
      · have h := h.neg c_2
        refine J_aload_n (i := 0) (p := 1) C dX11_feed_134 rfl rfl rfl ?_
        refine Jc_getS (o2 := 8) (r2 := 8) C fp_RX11_21 rfl rfl rfl dX11_feed_135 rfl ?_
        refine J_iload (i := 6) (p := 0) C dX11_feed_138 rfl rfl ?_
        refine Jc_cV (rest := []) (st9 := fun p_3 => [.int p_3.1]) C hR hX cv_RX11_97 rfl (Nat.le_of_ble_eq_true rfl) (k6_add hl rfl (Ok.ofbnd h)) rfl rfl (Nat.le_of_ble_eq_true rfl) (Nat.le_of_ble_eq_true rfl) (Nat.le_of_ble_eq_true rfl) ⟨(Nat.le_of_ble_eq_true rfl), (Nat.le_of_ble_eq_true rfl)⟩ dX11_feed_140 rfl (fun E n9 w9 hx => JT_n hx) (fun _ => rfl) (fun p_3 h => ?_)
        have h : Ok _ _ := h
        change J X K 7 False QQ 0 0 2017 (jw K p_3.2) 143 [(6, .int x6_2), (0, .ref (K.2.2 + 0)), (1, .long l1), (5, .int l5_113)] [.int p_3.1]
        refine J_pop C rfl dX11_feed_143 rfl ?_
        refine J.sub [1, 2, 3] rfl ?_
        exact hj_144 p_3.2 l5_113 h
  have hj_9 : (∀ (σ_9 : Sto) (l3_9 : Int32) (l4_9 : Int32) (l5_9 : Int32), Ok (f11_feed_j9 l1 σ_9 l3_9 l4_9 l5_9) Qf → J X K 7 False QQ 0 0 2017 (jw K σ_9) 9 [(0, .ref (K.2.2 + 0)), (1, .long l1), (3, .int l3_9), (4, .int l4_9), (5, .int l5_9)] []) := by
    intro σ_9 l3_9 l4_9 l5_9 h
    unfold f11_feed_j9 at h
    refine loop_gen (S := Int32 × Int32 × Int32) (P := fun s_9 => J X K 7 False QQ 0 0 2017 (jw K σ_9) 9 [(0, .ref (K.2.2 + 0)), (1, .long l1), (3, .int s_9.1), (4, .int s_9.2.1), (5, .int s_9.2.2)] []) ?_ FU (l3_9, l4_9, l5_9) (Ok.ofbnd h)
    intro B_9 hB_9 hE_9 s_9 h
    obtain ⟨l3_9, l4_9, l5_9⟩ := s_9
    have h : Ok (f11_feed_b9 l1 σ_9 l3_9 l4_9 l5_9) B_9 := h
    change J X K 7 False QQ 0 0 2017 (jw K σ_9) 9 [(0, .ref (K.2.2 + 0)), (1, .long l1), (3, .int l3_9), (4, .int l4_9), (5, .int l5_9)] []
    have hj_61 : (∀ (l3_61 : Int32) (l5_61 : Int32) (s0_61 : Int32), Ok (f11_feed_j61 l1 σ_9 l3_61 l5_61 s0_61) B_9 → J X K 7 False QQ 0 0 2017 (jw K σ_9) 61 [(0, .ref (K.2.2 + 0)), (1, .long l1), (3, .int l3_61), (5, .int l5_61)] [.int s0_61]) := by
      intro l3_61 l5_61 s0_61 h
      unfold f11_feed_j61 at h
      obtain ⟨x4_3, e_x4_3, h⟩ := Ok.nm h
      refine J_istoreE (i := 4) (lv' := [(4, .int x4_3), (0, .ref (K.2.2 + 0)), (1, .long l1), (3, .int l3_61), (5, .int l5_61)]) C e_x4_3 dX11_feed_61 (Nat.le_of_ble_eq_true rfl) rfl rfl ?_
      obtain ⟨x5_4, e_x5_4, h⟩ := Ok.nm h
      refine J_iincE (i := 5) (p := 4) (lv' := [(5, .int x5_4), (4, .int x4_3), (0, .ref (K.2.2 + 0)), (1, .long l1), (3, .int l3_61)]) C e_x5_4 dX11_feed_63 rfl (by decide) (Nat.le_of_ble_eq_true rfl) rfl rfl ?_
      refine J_goto (t := 9) C dX11_feed_66 (by decide) ?_
      refine J.sub [2, 3, 4, 1, 0] rfl ?_
      exact hB_9 (l3_61, x4_3, x5_4) h.osome
    have hj_60 : (∀ (l3_60 : Int32) (l5_60 : Int32), Ok (f11_feed_j60 l1 σ_9 l3_60 l5_60) B_9 → J X K 7 False QQ 0 0 2017 (jw K σ_9) 60 [(0, .ref (K.2.2 + 0)), (1, .long l1), (3, .int l3_60), (5, .int l5_60)] []) := by
      intro l3_60 l5_60 h
      unfold f11_feed_j60 at h
      refine J_iconst (v := 0) C (by decide) dX11_feed_60 rfl ?_
      exact hj_61 l3_60 l5_60 (0 : Int32) h
    have hj_56 : (∀ (l3_56 : Int32) (l5_56 : Int32), Ok (f11_feed_j56 l1 σ_9 l3_56 l5_56) B_9 → J X K 7 False QQ 0 0 2017 (jw K σ_9) 56 [(0, .ref (K.2.2 + 0)), (1, .long l1), (3, .int l3_56), (5, .int l5_56)] []) := by
      intro l3_56 l5_56 h
      unfold f11_feed_j56 at h
      refine J_iconst (v := 1) C (by decide) dX11_feed_56 rfl ?_
      refine J_goto (t := 61) C dX11_feed_57 (by decide) ?_
      exact hj_61 l3_56 l5_56 (1 : Int32) h
    have hj_36 : (∀ (l4_36 : Int32) (l5_36 : Int32) (l6_36 : Int32) (s0_36 : Int32) (s1_36 : Int32), Ok (f11_feed_j36 l1 σ_9 l4_36 l5_36 l6_36 s0_36 s1_36) B_9 → J X K 7 False QQ 0 0 2017 (jw K σ_9) 36 [(0, .ref (K.2.2 + 0)), (1, .long l1), (4, .int l4_36), (5, .int l5_36), (6, .int l6_36)] [.int s1_36, .int s0_36]) := by
      intro l4_36 l5_36 l6_36 s0_36 s1_36 h
      unfold f11_feed_j36 at h
      refine J_iadd C dX11_feed_36 rfl ?_
      obtain ⟨x3_5, e_x3_5, h⟩ := Ok.nm h
      refine J_istoreE_n (i := 3) (lv' := [(3, .int x3_5), (0, .ref (K.2.2 + 0)), (1, .long l1), (4, .int l4_36), (5, .int l5_36), (6, .int l6_36)]) C e_x3_5 dX11_feed_37 rfl (Nat.le_of_ble_eq_true rfl) rfl rfl ?_
      refine J_iload (i := 4) (p := 3) C dX11_feed_38 rfl rfl ?_
      refine J_if_eq (t := 60) C dX11_feed_40 (by decide) rfl (fun c_4 => ?_) (fun c_4 => ?_)
      · have h := h.pos c_4
        refine J.sub [1, 2, 0, 4] rfl ?_
        exact hj_60 x3_5 l5_36 h
      · have h := h.neg c_4
        refine J_iload (i := 6) (p := 5) C dX11_feed_43 rfl rfl ?_
        refine J_if_eq (t := 56) C dX11_feed_45 (by decide) rfl (fun c_5 => ?_) (fun c_5 => ?_)
        · have h := h.pos c_5
          refine J.sub [1, 2, 0, 4] rfl ?_
          exact hj_56 x3_5 l5_36 h
        · have h := h.neg c_5
          refine J_iload (i := 6) (p := 5) C dX11_feed_48 rfl rfl ?_
          refine J_cS (rest := []) (st9 := fun p_6 => [.int p_6]) C hR hX cs_RX11_78 (k11_isLetter hl  (Ok.ofbnd h)) rfl rfl (Nat.le_of_ble_eq_true rfl) (Nat.le_of_ble_eq_true rfl) (Nat.le_of_ble_eq_true rfl) ⟨(Nat.le_of_ble_eq_true rfl), (Nat.le_of_ble_eq_true rfl)⟩ dX11_feed_50 rfl (fun E n9 w9 hx => JT_n hx) (fun _ => rfl) (fun p_6 h => ?_)
          have h : Ok _ _ := h
          change J X K 7 False QQ 0 0 2017 (jw K σ_9) 53 [(3, .int x3_5), (0, .ref (K.2.2 + 0)), (1, .long l1), (4, .int l4_36), (5, .int l5_36), (6, .int l6_36)] [.int p_6]
          refine J_if_eq (t := 60) C dX11_feed_53 (by decide) rfl (fun c_7 => ?_) (fun c_7 => ?_)
          · have h := h.pos c_7
            refine J.sub [1, 2, 0, 4] rfl ?_
            exact hj_60 x3_5 l5_36 h
          · have h := h.neg c_7
            refine J.sub [1, 2, 0, 4] rfl ?_
            exact hj_56 x3_5 l5_36 h
    unfold f11_feed_b9 at h
    refine J_iload (i := 5) (p := 4) C dX11_feed_9 rfl rfl ?_
    refine J_if_lt (t := 69) C dX11_feed_11 (by decide) rfl (fun c_8 => ?_) (fun c_8 => ?_)
    · have h := h.pos c_8
      have h := hE_9 (l3_9, l4_9) h.osome
      try dsimp only at h
      refine J_iload (i := 4) (p := 3) C dX11_feed_69 rfl rfl ?_
      refine J_if_ne (t := 84) C dX11_feed_71 (by decide) rfl (fun c_9 => ?_) (fun c_9 => ?_)
      · have h := h.neg c_9
        refine J_aload_n (i := 0) (p := 0) C dX11_feed_84 rfl rfl rfl ?_
        refine Jc_getS (o2 := 8) (r2 := 8) C fp_RX11_21 rfl rfl rfl dX11_feed_85 rfl ?_
        refine Jc_getI C fp_RX11_89 rfl rfl dX11_feed_88 rfl ?_
        refine J_iload_n (i := 3) (p := 2) C dX11_feed_91 rfl rfl rfl ?_
        refine J_iadd C dX11_feed_92 rfl ?_
        refine J_sipush (v := 200) C (by decide) dX11_feed_93 rfl ?_
        refine J_icmp_le (t := 109) C dX11_feed_96 (by decide) rfl (fun c_10 => ?_) (fun c_10 => ?_)
        · have h := h.pos c_10
          refine J_bipush (v := 56) C (by decide) dX11_feed_109 rfl ?_
          obtain ⟨x5_6, e_x5_6, h⟩ := Ok.nm h
          refine J_istoreE (i := 5) (lv' := [(5, .int x5_6), (0, .ref (K.2.2 + 0)), (1, .long l1), (3, .int l3_9), (4, .int l4_9)]) C e_x5_6 dX11_feed_111 (Nat.le_of_ble_eq_true rfl) rfl rfl ?_
          refine J.sub [1, 2, 0] rfl ?_
          exact hj_113 σ_9 x5_6 h
        · have h := h.neg c_10
          exact absurd h.osome (hno _)
      · have h := h.pos (Decidable.not_not.mp c_9)
        exact absurd h.osome (hno _)
    · have h := h.neg c_8
      refine J_lload_n (i := 1) (p := 1) C dX11_feed_14 rfl rfl rfl ?_
      refine J_iload (i := 5) (p := 4) C dX11_feed_15 rfl rfl ?_
      refine J_lushr C dX11_feed_17 rfl ?_
      refine J_l2i C dX11_feed_18 rfl ?_
      refine J_sipush (v := 255) C (by decide) dX11_feed_19 rfl ?_
      refine J_iand C dX11_feed_22 rfl ?_
      obtain ⟨x6_7, e_x6_7, h⟩ := Ok.nm h
      refine J_istoreE (i := 6) (lv' := [(6, .int x6_7), (0, .ref (K.2.2 + 0)), (1, .long l1), (3, .int l3_9), (4, .int l4_9), (5, .int l5_9)]) C e_x6_7 dX11_feed_23 (Nat.le_of_ble_eq_true rfl) rfl rfl ?_
      refine J_iload_n (i := 3) (p := 3) C dX11_feed_25 rfl rfl rfl ?_
      refine J_iload (i := 6) (p := 0) C dX11_feed_26 rfl rfl ?_
      refine J_if_eq (t := 35) C dX11_feed_28 (by decide) rfl (fun c_11 => ?_) (fun c_11 => ?_)
      · have h := h.pos c_11
        refine J_iconst (v := 0) C (by decide) dX11_feed_35 rfl ?_
        refine J.sub [1, 2, 4, 5, 0] rfl ?_
        exact hj_36 l4_9 l5_9 x6_7 l3_9 (0 : Int32) h
      · have h := h.neg c_11
        refine J_iconst (v := 1) C (by decide) dX11_feed_31 rfl ?_
        refine J_goto (t := 36) C dX11_feed_32 (by decide) ?_
        refine J.sub [1, 2, 4, 5, 0] rfl ?_
        exact hj_36 l4_9 l5_9 x6_7 l3_9 (1 : Int32) h
  unfold f11_feed at h
  refine J_iconst (v := 0) C (by decide) dX11_feed_0 rfl ?_
  obtain ⟨x3_9, e_x3_9, h⟩ := Ok.nm h
  refine J_istoreE_n (i := 3) (lv' := [(3, .int x3_9), (0, .ref (K.2.2 + 0)), (1, .long l1)]) C e_x3_9 dX11_feed_1 rfl (Nat.le_of_ble_eq_true rfl) rfl rfl ?_
  refine J_iconst (v := 1) C (by decide) dX11_feed_2 rfl ?_
  obtain ⟨x4_10, e_x4_10, h⟩ := Ok.nm h
  refine J_istoreE (i := 4) (lv' := [(4, .int x4_10), (3, .int x3_9), (0, .ref (K.2.2 + 0)), (1, .long l1)]) C e_x4_10 dX11_feed_3 (Nat.le_of_ble_eq_true rfl) rfl rfl ?_
  refine J_bipush (v := 56) C (by decide) dX11_feed_5 rfl ?_
  obtain ⟨x5_11, e_x5_11, h⟩ := Ok.nm h
  refine J_istoreE (i := 5) (lv' := [(5, .int x5_11), (4, .int x4_10), (3, .int x3_9), (0, .ref (K.2.2 + 0)), (1, .long l1)]) C e_x5_11 dX11_feed_7 (Nat.le_of_ble_eq_true rfl) rfl rfl ?_
  refine J.sub [3, 4, 2, 1, 0] rfl ?_
  exact hj_9 σ x3_9 x4_10 x5_11 h
set_option maxHeartbeats 4000000 in
set_option maxRecDepth 100000 in
theorem k11_acts_n {l : Launch} {K : JK} (hl : l.stackTraces = false) {σ : Sto} {l1 : Int32}  {Qf : (Int32 × Sto) ⊕ (Nat × Sto) → Prop} (h : Ok (f11_acts σ l1) Qf) (hno : ∀ c, ¬ Qf (.inr c)) : Con l K yX11_acts (.code yX11_acts cX11_acts 2 (some .int) :: TB) 6 0 0 False [.ref (K.2.2 + 0), .int l1] 2017 (jw K σ) (PR (fun p => Qf (.inl p)) (fun p => some (.int p.1)) (fun p => jw K p.2)) PN := by
  refine Con.enter (own := RX11) hl (by decide) rfl (Nat.le_of_ble_eq_true rfl) ?_
  intro X hX hR C hret hnt
  generalize hQQ : jQ X K 0 0 (PR (fun p => Qf (.inl p)) (fun p => some (.int p.1)) (fun p => jw K p.2)) PN False = QQ
  change J X K 2 False QQ 0 0 2017 (jw K σ) 0 [(0, .ref (K.2.2 + 0)), (1, .int l1)] []
  unfold f11_acts at h
  refine J_iload_n (i := 1) (p := 1) C dX11_acts_0 rfl rfl rfl ?_
  by_cases c_1 : Int32.toInt l1 = 0
  · have h := h.pos c_1
    refine J_tab (t := 32) C 0 c_1 dX11_acts_1 (by decide) (by decide) rfl (by decide) ?_
    refine J_aload_n (i := 0) (p := 0) C dX11_acts_32 rfl rfl rfl ?_
    refine Jc_getS (o2 := 24) (r2 := 24) C fp_RX11_42 rfl rfl rfl dX11_acts_33 rfl ?_
    refine Jc_getI C fp_RX11_253 rfl rfl dX11_acts_36 rfl ?_
    rw [← hQQ]
    exact J_iret C hret (Nat.le_of_ble_eq_true rfl) (Nat.le_of_ble_eq_true rfl) ⟨_, h.osome, rfl, rfl, rfl⟩ dX11_acts_39
  · have h := h.neg c_1
    by_cases c_3 : Int32.toInt l1 = 1
    · have h := h.pos c_3
      refine J_tab (t := 40) C 1 c_3 dX11_acts_1 (by decide) (by decide) rfl (by decide) ?_
      refine J_aload_n (i := 0) (p := 0) C dX11_acts_40 rfl rfl rfl ?_
      refine Jc_getS (o2 := 24) (r2 := 24) C fp_RX11_42 rfl rfl rfl dX11_acts_41 rfl ?_
      refine Jc_cV (rest := []) (st9 := fun p_3 => [.int p_3]) C hR hX cv_RX11_256 rfl (Nat.le_of_ble_eq_true rfl) (k4_countBehind hl  (Ok.ofbnd h)) rfl rfl (Nat.le_of_ble_eq_true rfl) (Nat.le_of_ble_eq_true rfl) (Nat.le_of_ble_eq_true rfl) ⟨(Nat.le_of_ble_eq_true rfl), (Nat.le_of_ble_eq_true rfl)⟩ dX11_acts_44 rfl (fun E n9 w9 hx => JT_n hx) (fun _ => rfl) (fun p_3 h => ?_)
      have h : Ok _ _ := h
      change J X K 2 False QQ 0 0 2017 (jw K σ) 47 [(0, .ref (K.2.2 + 0)), (1, .int l1)] [.int p_3]
      rw [← hQQ]
      exact J_iret C hret (Nat.le_of_ble_eq_true rfl) (Nat.le_of_ble_eq_true rfl) ⟨_, h.osome, rfl, rfl, rfl⟩ dX11_acts_47
    · have h := h.neg c_3
      by_cases c_5 : Int32.toInt l1 = 2
      · have h := h.pos c_5
        refine J_tab (t := 48) C 2 c_5 dX11_acts_1 (by decide) (by decide) rfl (by decide) ?_
        refine J_aload_n (i := 0) (p := 0) C dX11_acts_48 rfl rfl rfl ?_
        refine Jc_getS (o2 := 24) (r2 := 24) C fp_RX11_42 rfl rfl rfl dX11_acts_49 rfl ?_
        refine Jc_cV (rest := []) (st9 := fun p_5 => [.int p_5]) C hR hX cv_RX11_259 rfl (Nat.le_of_ble_eq_true rfl) (k4_countAhead hl  (Ok.ofbnd h)) rfl rfl (Nat.le_of_ble_eq_true rfl) (Nat.le_of_ble_eq_true rfl) (Nat.le_of_ble_eq_true rfl) ⟨(Nat.le_of_ble_eq_true rfl), (Nat.le_of_ble_eq_true rfl)⟩ dX11_acts_52 rfl (fun E n9 w9 hx => JT_n hx) (fun _ => rfl) (fun p_5 h => ?_)
        have h : Ok _ _ := h
        change J X K 2 False QQ 0 0 2017 (jw K σ) 55 [(0, .ref (K.2.2 + 0)), (1, .int l1)] [.int p_5]
        rw [← hQQ]
        exact J_iret C hret (Nat.le_of_ble_eq_true rfl) (Nat.le_of_ble_eq_true rfl) ⟨_, h.osome, rfl, rfl, rfl⟩ dX11_acts_55
      · have h := h.neg c_5
        by_cases c_7 : Int32.toInt l1 = 3
        · have h := h.pos c_7
          refine J_tab (t := 56) C 3 c_7 dX11_acts_1 (by decide) (by decide) rfl (by decide) ?_
          refine J_aload_n (i := 0) (p := 0) C dX11_acts_56 rfl rfl rfl ?_
          refine Jc_getS (o2 := 24) (r2 := 24) C fp_RX11_42 rfl rfl rfl dX11_acts_57 rfl ?_
          refine Jc_cV (rest := []) (st9 := fun p_7 => [.int p_7]) C hR hX cv_RX11_245 rfl (Nat.le_of_ble_eq_true rfl) (k4_countContinuations hl  (Ok.ofbnd h)) rfl rfl (Nat.le_of_ble_eq_true rfl) (Nat.le_of_ble_eq_true rfl) (Nat.le_of_ble_eq_true rfl) ⟨(Nat.le_of_ble_eq_true rfl), (Nat.le_of_ble_eq_true rfl)⟩ dX11_acts_60 rfl (fun E n9 w9 hx => JT_n hx) (fun _ => rfl) (fun p_7 h => ?_)
          have h : Ok _ _ := h
          change J X K 2 False QQ 0 0 2017 (jw K σ) 63 [(0, .ref (K.2.2 + 0)), (1, .int l1)] [.int p_7]
          rw [← hQQ]
          exact J_iret C hret (Nat.le_of_ble_eq_true rfl) (Nat.le_of_ble_eq_true rfl) ⟨_, h.osome, rfl, rfl, rfl⟩ dX11_acts_63
        · have h := h.neg c_7
          refine J_tabO (t := 64) C dX11_acts_1 (by omega) (by decide) ?_
          exact absurd h.osome (hno _)
set_option maxHeartbeats 4000000 in
set_option maxRecDepth 100000 in
theorem k11_cursorAt_n {l : Launch} {K : JK} (hl : l.stackTraces = false) {σ : Sto} {l1 : Int32}  {Qf : (Int32 × Sto) ⊕ (Nat × Sto) → Prop} (h : Ok (f11_cursorAt σ l1) Qf) (hno : ∀ c, ¬ Qf (.inr c)) : Con l K yX11_cursorAt (.code yX11_cursorAt cX11_cursorAt 2 (some .int) :: TB) 6 0 0 False [.ref (K.2.2 + 0), .int l1] 2017 (jw K σ) (PR (fun p => Qf (.inl p)) (fun p => some (.int p.1)) (fun p => jw K p.2)) PN := by
  refine Con.enter (own := RX11) hl (by decide) rfl (Nat.le_of_ble_eq_true rfl) ?_
  intro X hX hR C hret hnt
  generalize hQQ : jQ X K 0 0 (PR (fun p => Qf (.inl p)) (fun p => some (.int p.1)) (fun p => jw K p.2)) PN False = QQ
  change J X K 2 False QQ 0 0 2017 (jw K σ) 0 [(0, .ref (K.2.2 + 0)), (1, .int l1)] []
  have hj_15 : (∀ (σ_15 : Sto), Ok (f11_cursorAt_j15 l1 σ_15) Qf → J X K 2 False QQ 0 0 2017 (jw K σ_15) 15 [] []) := by
    intro σ_15 h
    unfold f11_cursorAt_j15 at h
    exact absurd h.osome (hno _)
  unfold f11_cursorAt at h
  refine J_iload_n (i := 1) (p := 1) C dX11_cursorAt_0 rfl rfl rfl ?_
  refine J_if_lt (t := 15) C dX11_cursorAt_1 (by decide) rfl (fun c_1 => ?_) (fun c_1 => ?_)
  · have h := h.pos c_1
    refine J.sub [] rfl ?_
    exact hj_15 σ h
  · have h := h.neg c_1
    refine J_iload_n (i := 1) (p := 1) C dX11_cursorAt_4 rfl rfl rfl ?_
    refine J_aload_n (i := 0) (p := 0) C dX11_cursorAt_5 rfl rfl rfl ?_
    refine Jc_getS (o2 := 1) (r2 := 1) C fp_RX11_10 rfl rfl rfl dX11_cursorAt_6 rfl ?_
    refine Jc_getI C fp_RX11_267 rfl rfl dX11_cursorAt_9 rfl ?_
    refine J_icmp_lt (t := 26) C dX11_cursorAt_12 (by decide) rfl (fun c_2 => ?_) (fun c_2 => ?_)
    · have h := h.pos c_2
      refine J_aload_n (i := 0) (p := 0) C dX11_cursorAt_26 rfl rfl rfl ?_
      refine Jc_getS (o2 := 1) (r2 := 1) C fp_RX11_10 rfl rfl rfl dX11_cursorAt_27 rfl ?_
      refine Jc_getS (o2 := 4) (r2 := 5) C fp_RX11_205 rfl rfl rfl dX11_cursorAt_30 rfl ?_
      refine J_iload_n (i := 1) (p := 1) C dX11_cursorAt_33 rfl rfl rfl ?_
      obtain ⟨g_3, h⟩ := Ok.ofgd h
      refine Jc_iald C rfl rfl g_3 dX11_cursorAt_34 rfl ?_
      rw [← hQQ]
      exact J_iret C hret (Nat.le_of_ble_eq_true rfl) (Nat.le_of_ble_eq_true rfl) ⟨_, h.osome, rfl, rfl, rfl⟩ dX11_cursorAt_35
    · have h := h.neg c_2
      refine J.sub [] rfl ?_
      exact hj_15 σ h
set_option maxHeartbeats 4000000 in
set_option maxRecDepth 100000 in
theorem k11_requireMark_n {l : Launch} {K : JK} (hl : l.stackTraces = false) {σ : Sto} {l1 : Int32}  {Qf : Sto ⊕ (Nat × Sto) → Prop} (h : Ok (f11_requireMark σ l1) Qf) (hno : ∀ c, ¬ Qf (.inr c)) : Con l K yX11_requireMark (.code yX11_requireMark cX11_requireMark 2 none :: TB) 6 0 0 False [.ref (K.2.2 + 0), .int l1] 2017 (jw K σ) (PR (fun p => Qf (.inl p)) (fun p => none) (fun p => jw K p)) PN := by
  refine Con.enter (own := RX11) hl (by decide) rfl (Nat.le_of_ble_eq_true rfl) ?_
  intro X hX hR C hret hnt
  generalize hQQ : jQ X K 0 0 (PR (fun p => Qf (.inl p)) (fun p => none) (fun p => jw K p)) PN False = QQ
  change J X K 2 False QQ 0 0 2017 (jw K σ) 0 [(0, .ref (K.2.2 + 0)), (1, .int l1)] []
  have hj_10 : (∀ (σ_10 : Sto), Ok (f11_requireMark_j10 l1 σ_10) Qf → J X K 2 False QQ 0 0 2017 (jw K σ_10) 10 [] []) := by
    intro σ_10 h
    unfold f11_requireMark_j10 at h
    exact absurd h.osome (hno _)
  unfold f11_requireMark at h
  refine J_iload_n (i := 1) (p := 1) C dX11_requireMark_0 rfl rfl rfl ?_
  refine J_if_lt (t := 10) C dX11_requireMark_1 (by decide) rfl (fun c_1 => ?_) (fun c_1 => ?_)
  · have h := h.pos c_1
    refine J.sub [] rfl ?_
    exact hj_10 σ h
  · have h := h.neg c_1
    refine J_iload_n (i := 1) (p := 1) C dX11_requireMark_4 rfl rfl rfl ?_
    refine J_bipush (v := 16) C (by decide) dX11_requireMark_5 rfl ?_
    refine J_icmp_lt (t := 21) C dX11_requireMark_7 (by decide) rfl (fun c_2 => ?_) (fun c_2 => ?_)
    · have h := h.pos c_2
      rw [← hQQ]
      exact J_vret C hret (Nat.le_of_ble_eq_true rfl) (Nat.le_of_ble_eq_true rfl) ⟨_, h.osome, rfl, rfl, rfl⟩ dX11_requireMark_21
    · have h := h.neg c_2
      refine J.sub [] rfl ?_
      exact hj_10 σ h
set_option maxHeartbeats 4000000 in
set_option maxRecDepth 100000 in
theorem k11_markAt_n {l : Launch} {K : JK} (hl : l.stackTraces = false) {σ : Sto} {l1 : Int32}  {Qf : (Int32 × Sto) ⊕ (Nat × Sto) → Prop} (h : Ok (f11_markAt σ l1) Qf) (hno : ∀ c, ¬ Qf (.inr c)) : Con l K yX11_markAt (.code yX11_markAt cX11_markAt 2 (some .int) :: TB) 7 0 0 False [.ref (K.2.2 + 0), .int l1] 2017 (jw K σ) (PR (fun p => Qf (.inl p)) (fun p => some (.int p.1)) (fun p => jw K p.2)) PN := by
  refine Con.enter (own := RX11) hl (by decide) rfl (Nat.le_of_ble_eq_true rfl) ?_
  intro X hX hR C hret hnt
  generalize hQQ : jQ X K 0 0 (PR (fun p => Qf (.inl p)) (fun p => some (.int p.1)) (fun p => jw K p.2)) PN False = QQ
  change J X K 2 False QQ 0 0 2017 (jw K σ) 0 [(0, .ref (K.2.2 + 0)), (1, .int l1)] []
  unfold f11_markAt at h
  refine J_aload_n (i := 0) (p := 0) C dX11_markAt_0 rfl rfl rfl ?_
  refine J_iload_n (i := 1) (p := 1) C dX11_markAt_1 rfl rfl rfl ?_
  refine Jc_cV (rest := []) (st9 := fun p_1 => []) C hR hX cv_RX11_285 rfl (Nat.le_of_ble_eq_true rfl) (k11_requireMark_n hl  (Ok.ofbndX h) (fun c hc => hno c hc)) rfl rfl (Nat.le_of_ble_eq_true rfl) (Nat.le_of_ble_eq_true rfl) (Nat.le_of_ble_eq_true rfl) ⟨(Nat.le_of_ble_eq_true rfl), (Nat.le_of_ble_eq_true rfl)⟩ dX11_markAt_2 rfl (fun E n9 w9 hx => JT_n hx) (fun _ => rfl) (fun p_1 h => ?_)
  have h : Ok _ _ := h
  change J X K 2 False QQ 0 0 2017 (jw K p_1) 5 [(0, .ref (K.2.2 + 0)), (1, .int l1)] []
  refine J_aload_n (i := 0) (p := 0) C dX11_markAt_5 rfl rfl rfl ?_
  refine Jc_getS (o2 := 1) (r2 := 1) C fp_RX11_10 rfl rfl rfl dX11_markAt_6 rfl ?_
  refine Jc_getS (o2 := 5) (r2 := 6) C fp_RX11_288 rfl rfl rfl dX11_markAt_9 rfl ?_
  refine J_iload_n (i := 1) (p := 1) C dX11_markAt_12 rfl rfl rfl ?_
  obtain ⟨g_2, h⟩ := Ok.ofgd h
  refine Jc_iald C rfl rfl g_2 dX11_markAt_13 rfl ?_
  rw [← hQQ]
  exact J_iret C hret (Nat.le_of_ble_eq_true rfl) (Nat.le_of_ble_eq_true rfl) ⟨_, h.osome, rfl, rfl, rfl⟩ dX11_markAt_14
set_option maxHeartbeats 4000000 in
set_option maxRecDepth 100000 in
theorem k11_requireLine_n {l : Launch} {K : JK} (hl : l.stackTraces = false) {σ : Sto} {l1 : Int32}  {Qf : Sto ⊕ (Nat × Sto) → Prop} (h : Ok (f11_requireLine σ l1) Qf) (hno : ∀ c, ¬ Qf (.inr c)) : Con l K yX11_requireLine (.code yX11_requireLine cX11_requireLine 2 none :: TB) 6 0 0 False [.ref (K.2.2 + 0), .int l1] 2017 (jw K σ) (PR (fun p => Qf (.inl p)) (fun p => none) (fun p => jw K p)) PN := by
  refine Con.enter (own := RX11) hl (by decide) rfl (Nat.le_of_ble_eq_true rfl) ?_
  intro X hX hR C hret hnt
  generalize hQQ : jQ X K 0 0 (PR (fun p => Qf (.inl p)) (fun p => none) (fun p => jw K p)) PN False = QQ
  change J X K 2 False QQ 0 0 2017 (jw K σ) 0 [(0, .ref (K.2.2 + 0)), (1, .int l1)] []
  have hj_15 : (∀ (σ_15 : Sto), Ok (f11_requireLine_j15 l1 σ_15) Qf → J X K 2 False QQ 0 0 2017 (jw K σ_15) 15 [] []) := by
    intro σ_15 h
    unfold f11_requireLine_j15 at h
    exact absurd h.osome (hno _)
  unfold f11_requireLine at h
  refine J_iload_n (i := 1) (p := 1) C dX11_requireLine_0 rfl rfl rfl ?_
  refine J_if_lt (t := 15) C dX11_requireLine_1 (by decide) rfl (fun c_1 => ?_) (fun c_1 => ?_)
  · have h := h.pos c_1
    refine J.sub [] rfl ?_
    exact hj_15 σ h
  · have h := h.neg c_1
    refine J_iload_n (i := 1) (p := 1) C dX11_requireLine_4 rfl rfl rfl ?_
    refine J_aload_n (i := 0) (p := 0) C dX11_requireLine_5 rfl rfl rfl ?_
    refine Jc_getS (o2 := 1) (r2 := 1) C fp_RX11_10 rfl rfl rfl dX11_requireLine_6 rfl ?_
    refine Jc_getI C fp_RX11_116 rfl rfl dX11_requireLine_9 rfl ?_
    refine J_icmp_lt (t := 26) C dX11_requireLine_12 (by decide) rfl (fun c_2 => ?_) (fun c_2 => ?_)
    · have h := h.pos c_2
      rw [← hQQ]
      exact J_vret C hret (Nat.le_of_ble_eq_true rfl) (Nat.le_of_ble_eq_true rfl) ⟨_, h.osome, rfl, rfl, rfl⟩ dX11_requireLine_26
    · have h := h.neg c_2
      refine J.sub [] rfl ?_
      exact hj_15 σ h
set_option maxHeartbeats 4000000 in
set_option maxRecDepth 100000 in
theorem k11_isHidden_n {l : Launch} {K : JK} (hl : l.stackTraces = false) {σ : Sto} {l1 : Int32}  {Qf : (Int32 × Sto) ⊕ (Nat × Sto) → Prop} (h : Ok (f11_isHidden σ l1) Qf) (hno : ∀ c, ¬ Qf (.inr c)) : Con l K yX11_isHidden (.code yX11_isHidden cX11_isHidden 2 (some .boolean) :: TB) 7 0 0 False [.ref (K.2.2 + 0), .int l1] 2017 (jw K σ) (PR (fun p => Qf (.inl p)) (fun p => some (.int p.1)) (fun p => jw K p.2)) PN := by
  refine Con.enter (own := RX11) hl (by decide) rfl (Nat.le_of_ble_eq_true rfl) ?_
  intro X hX hR C hret hnt
  generalize hQQ : jQ X K 0 0 (PR (fun p => Qf (.inl p)) (fun p => some (.int p.1)) (fun p => jw K p.2)) PN False = QQ
  change J X K 2 False QQ 0 0 2017 (jw K σ) 0 [(0, .ref (K.2.2 + 0)), (1, .int l1)] []
  unfold f11_isHidden at h
  refine J_aload_n (i := 0) (p := 0) C dX11_isHidden_0 rfl rfl rfl ?_
  refine J_iload_n (i := 1) (p := 1) C dX11_isHidden_1 rfl rfl rfl ?_
  refine Jc_cV (rest := []) (st9 := fun p_1 => []) C hR hX cv_RX11_112 rfl (Nat.le_of_ble_eq_true rfl) (k11_requireLine_n hl  (Ok.ofbndX h) (fun c hc => hno c hc)) rfl rfl (Nat.le_of_ble_eq_true rfl) (Nat.le_of_ble_eq_true rfl) (Nat.le_of_ble_eq_true rfl) ⟨(Nat.le_of_ble_eq_true rfl), (Nat.le_of_ble_eq_true rfl)⟩ dX11_isHidden_2 rfl (fun E n9 w9 hx => JT_n hx) (fun _ => rfl) (fun p_1 h => ?_)
  have h : Ok _ _ := h
  change J X K 2 False QQ 0 0 2017 (jw K p_1) 5 [(0, .ref (K.2.2 + 0)), (1, .int l1)] []
  refine J_aload_n (i := 0) (p := 0) C dX11_isHidden_5 rfl rfl rfl ?_
  refine Jc_getS (o2 := 1) (r2 := 1) C fp_RX11_10 rfl rfl rfl dX11_isHidden_6 rfl ?_
  refine Jc_getD C fp_RX11_324 rfl rfl dX11_isHidden_9 rfl ?_
  refine J_iload_n (i := 1) (p := 1) C dX11_isHidden_12 rfl rfl rfl ?_
  obtain ⟨g_2, h⟩ := Ok.ofgd h
  rw [jv_pos (r := fR p_1 1 3) (okr_spec g_2).1]
  obtain ⟨g_3, h⟩ := Ok.ofgd h
  refine Jc_zald C (okr_spec g_2).2 rfl g_3 dX11_isHidden_13 rfl ?_
  obtain ⟨g_4, h⟩ := Ok.ofgd h
  rw [← hQQ]
  exact J_zret C hret (narB g_4).1 (Nat.le_of_ble_eq_true rfl) (Nat.le_of_ble_eq_true rfl) ⟨_, h.osome, rfl, rfl, rfl⟩ dX11_isHidden_14
set_option maxHeartbeats 4000000 in
set_option maxRecDepth 100000 in
theorem k11_count_n {l : Launch} {K : JK} (hl : l.stackTraces = false) {σ : Sto} {l1 : Int32}  {Qf : (Int32 × Sto) ⊕ (Nat × Sto) → Prop} (h : Ok (f11_count σ l1) Qf) (hno : ∀ c, ¬ Qf (.inr c)) : Con l K yX11_count (.code yX11_count cX11_count 2 (some .int) :: TB) 6 0 0 False [.ref (K.2.2 + 0), .int l1] 2017 (jw K σ) (PR (fun p => Qf (.inl p)) (fun p => some (.int p.1)) (fun p => jw K p.2)) PN := by
  refine Con.enter (own := RX11) hl (by decide) rfl (Nat.le_of_ble_eq_true rfl) ?_
  intro X hX hR C hret hnt
  generalize hQQ : jQ X K 0 0 (PR (fun p => Qf (.inl p)) (fun p => some (.int p.1)) (fun p => jw K p.2)) PN False = QQ
  change J X K 2 False QQ 0 0 2017 (jw K σ) 0 [(0, .ref (K.2.2 + 0)), (1, .int l1)] []
  unfold f11_count at h
  refine J_iload_n (i := 1) (p := 1) C dX11_count_0 rfl rfl rfl ?_
  by_cases c_1 : Int32.toInt l1 = 0
  · have h := h.pos c_1
    refine J_tab (t := 48) C 0 c_1 dX11_count_1 (by decide) (by decide) rfl (by decide) ?_
    refine J_aload_n (i := 0) (p := 0) C dX11_count_48 rfl rfl rfl ?_
    refine Jc_getS (o2 := 1) (r2 := 1) C fp_RX11_10 rfl rfl rfl dX11_count_49 rfl ?_
    refine Jc_getI C fp_RX11_144 rfl rfl dX11_count_52 rfl ?_
    rw [← hQQ]
    exact J_iret C hret (Nat.le_of_ble_eq_true rfl) (Nat.le_of_ble_eq_true rfl) ⟨_, h.osome, rfl, rfl, rfl⟩ dX11_count_55
  · have h := h.neg c_1
    by_cases c_2 : Int32.toInt l1 = 1
    · have h := h.pos c_2
      refine J_tab (t := 56) C 1 c_2 dX11_count_1 (by decide) (by decide) rfl (by decide) ?_
      refine J_aload_n (i := 0) (p := 0) C dX11_count_56 rfl rfl rfl ?_
      refine Jc_getS (o2 := 1) (r2 := 1) C fp_RX11_10 rfl rfl rfl dX11_count_57 rfl ?_
      refine Jc_getI C fp_RX11_116 rfl rfl dX11_count_60 rfl ?_
      rw [← hQQ]
      exact J_iret C hret (Nat.le_of_ble_eq_true rfl) (Nat.le_of_ble_eq_true rfl) ⟨_, h.osome, rfl, rfl, rfl⟩ dX11_count_63
    · have h := h.neg c_2
      by_cases c_3 : Int32.toInt l1 = 2
      · have h := h.pos c_3
        refine J_tab (t := 64) C 2 c_3 dX11_count_1 (by decide) (by decide) rfl (by decide) ?_
        refine J_aload_n (i := 0) (p := 0) C dX11_count_64 rfl rfl rfl ?_
        refine Jc_getS (o2 := 1) (r2 := 1) C fp_RX11_10 rfl rfl rfl dX11_count_65 rfl ?_
        refine Jc_getI C fp_RX11_267 rfl rfl dX11_count_68 rfl ?_
        rw [← hQQ]
        exact J_iret C hret (Nat.le_of_ble_eq_true rfl) (Nat.le_of_ble_eq_true rfl) ⟨_, h.osome, rfl, rfl, rfl⟩ dX11_count_71
      · have h := h.neg c_3
        by_cases c_5 : Int32.toInt l1 = 3
        · have h := h.pos c_5
          refine J_tab (t := 72) C 3 c_5 dX11_count_1 (by decide) (by decide) rfl (by decide) ?_
          refine J_aload_n (i := 0) (p := 0) C dX11_count_72 rfl rfl rfl ?_
          refine Jc_getS (o2 := 1) (r2 := 1) C fp_RX11_10 rfl rfl rfl dX11_count_73 rfl ?_
          refine Jc_cV (rest := []) (st9 := fun p_5 => [.int p_5]) C hR hX cv_RX11_355 rfl (Nat.le_of_ble_eq_true rfl) (k8_countMarks hl rfl (Ok.ofbnd h)) rfl rfl (Nat.le_of_ble_eq_true rfl) (Nat.le_of_ble_eq_true rfl) (Nat.le_of_ble_eq_true rfl) ⟨(Nat.le_of_ble_eq_true rfl), (Nat.le_of_ble_eq_true rfl)⟩ dX11_count_76 rfl (fun E n9 w9 hx => JT_n hx) (fun _ => rfl) (fun p_5 h => ?_)
          have h : Ok _ _ := h
          change J X K 2 False QQ 0 0 2017 (jw K σ) 79 [(0, .ref (K.2.2 + 0)), (1, .int l1)] [.int p_5]
          rw [← hQQ]
          exact J_iret C hret (Nat.le_of_ble_eq_true rfl) (Nat.le_of_ble_eq_true rfl) ⟨_, h.osome, rfl, rfl, rfl⟩ dX11_count_79
        · have h := h.neg c_5
          by_cases c_7 : Int32.toInt l1 = 4
          · have h := h.pos c_7
            refine J_tab (t := 80) C 4 c_7 dX11_count_1 (by decide) (by decide) rfl (by decide) ?_
            refine J_aload_n (i := 0) (p := 0) C dX11_count_80 rfl rfl rfl ?_
            refine Jc_getS (o2 := 1) (r2 := 1) C fp_RX11_10 rfl rfl rfl dX11_count_81 rfl ?_
            refine Jc_cV (rest := []) (st9 := fun p_7 => [.int p_7]) C hR hX cv_RX11_327 rfl (Nat.le_of_ble_eq_true rfl) (k8_countHidden hl rfl (Ok.ofbnd h)) rfl rfl (Nat.le_of_ble_eq_true rfl) (Nat.le_of_ble_eq_true rfl) (Nat.le_of_ble_eq_true rfl) ⟨(Nat.le_of_ble_eq_true rfl), (Nat.le_of_ble_eq_true rfl)⟩ dX11_count_84 rfl (fun E n9 w9 hx => JT_n hx) (fun _ => rfl) (fun p_7 h => ?_)
            have h : Ok _ _ := h
            change J X K 2 False QQ 0 0 2017 (jw K σ) 87 [(0, .ref (K.2.2 + 0)), (1, .int l1)] [.int p_7]
            rw [← hQQ]
            exact J_iret C hret (Nat.le_of_ble_eq_true rfl) (Nat.le_of_ble_eq_true rfl) ⟨_, h.osome, rfl, rfl, rfl⟩ dX11_count_87
          · have h := h.neg c_7
            by_cases c_8 : Int32.toInt l1 = 5
            · have h := h.pos c_8
              refine J_tab (t := 88) C 5 c_8 dX11_count_1 (by decide) (by decide) rfl (by decide) ?_
              refine J_aload_n (i := 0) (p := 0) C dX11_count_88 rfl rfl rfl ?_
              refine Jc_getS (o2 := 8) (r2 := 8) C fp_RX11_21 rfl rfl rfl dX11_count_89 rfl ?_
              refine Jc_getI C fp_RX11_89 rfl rfl dX11_count_92 rfl ?_
              rw [← hQQ]
              exact J_iret C hret (Nat.le_of_ble_eq_true rfl) (Nat.le_of_ble_eq_true rfl) ⟨_, h.osome, rfl, rfl, rfl⟩ dX11_count_95
            · have h := h.neg c_8
              by_cases c_9 : Int32.toInt l1 = 6
              · have h := h.pos c_9
                refine J_tab (t := 96) C 6 c_9 dX11_count_1 (by decide) (by decide) rfl (by decide) ?_
                refine J_aload_n (i := 0) (p := 0) C dX11_count_96 rfl rfl rfl ?_
                refine Jc_getS (o2 := 10) (r2 := 10) C fp_RX11_28 rfl rfl rfl dX11_count_97 rfl ?_
                refine Jc_getS (o2 := 1) (r2 := 11) C fp_RX11_358 rfl rfl rfl dX11_count_100 rfl ?_
                refine Jc_getI C fp_RX11_89 rfl rfl dX11_count_103 rfl ?_
                rw [← hQQ]
                exact J_iret C hret (Nat.le_of_ble_eq_true rfl) (Nat.le_of_ble_eq_true rfl) ⟨_, h.osome, rfl, rfl, rfl⟩ dX11_count_106
              · have h := h.neg c_9
                by_cases c_11 : Int32.toInt l1 = 7
                · have h := h.pos c_11
                  refine J_tab (t := 107) C 7 c_11 dX11_count_1 (by decide) (by decide) rfl (by decide) ?_
                  refine J_aload_n (i := 0) (p := 0) C dX11_count_107 rfl rfl rfl ?_
                  refine Jc_getS (o2 := 1) (r2 := 1) C fp_RX11_10 rfl rfl rfl dX11_count_108 rfl ?_
                  refine Jc_cV (rest := []) (st9 := fun p_11 => [.int p_11]) C hR hX cv_RX11_360 rfl (Nat.le_of_ble_eq_true rfl) (k8_countWords hl rfl (Ok.ofbnd h)) rfl rfl (Nat.le_of_ble_eq_true rfl) (Nat.le_of_ble_eq_true rfl) (Nat.le_of_ble_eq_true rfl) ⟨(Nat.le_of_ble_eq_true rfl), (Nat.le_of_ble_eq_true rfl)⟩ dX11_count_111 rfl (fun E n9 w9 hx => JT_n hx) (fun _ => rfl) (fun p_11 h => ?_)
                  have h : Ok _ _ := h
                  change J X K 2 False QQ 0 0 2017 (jw K σ) 114 [(0, .ref (K.2.2 + 0)), (1, .int l1)] [.int p_11]
                  rw [← hQQ]
                  exact J_iret C hret (Nat.le_of_ble_eq_true rfl) (Nat.le_of_ble_eq_true rfl) ⟨_, h.osome, rfl, rfl, rfl⟩ dX11_count_114
                · have h := h.neg c_11
                  refine J_tabO (t := 115) C dX11_count_1 (by omega) (by decide) ?_
                  exact absurd h.osome (hno _)
set_option maxHeartbeats 4000000 in
set_option maxRecDepth 100000 in
theorem k11_letterAt_n {l : Launch} {K : JK} (hl : l.stackTraces = false) {σ : Sto} {l1 : Int32}  {Qf : (Int32 × Sto) ⊕ (Nat × Sto) → Prop} (h : Ok (f11_letterAt σ l1) Qf) (hno : ∀ c, ¬ Qf (.inr c)) : Con l K yX11_letterAt (.code yX11_letterAt cX11_letterAt 2 (some .int) :: TB) 6 0 0 False [.ref (K.2.2 + 0), .int l1] 2017 (jw K σ) (PR (fun p => Qf (.inl p)) (fun p => some (.int p.1)) (fun p => jw K p.2)) PN := by
  refine Con.enter (own := RX11) hl (by decide) rfl (Nat.le_of_ble_eq_true rfl) ?_
  intro X hX hR C hret hnt
  generalize hQQ : jQ X K 0 0 (PR (fun p => Qf (.inl p)) (fun p => some (.int p.1)) (fun p => jw K p.2)) PN False = QQ
  change J X K 2 False QQ 0 0 2017 (jw K σ) 0 [(0, .ref (K.2.2 + 0)), (1, .int l1)] []
  have hj_15 : (∀ (σ_15 : Sto), Ok (f11_letterAt_j15 l1 σ_15) Qf → J X K 2 False QQ 0 0 2017 (jw K σ_15) 15 [] []) := by
    intro σ_15 h
    unfold f11_letterAt_j15 at h
    exact absurd h.osome (hno _)
  unfold f11_letterAt at h
  refine J_iload_n (i := 1) (p := 1) C dX11_letterAt_0 rfl rfl rfl ?_
  refine J_if_lt (t := 15) C dX11_letterAt_1 (by decide) rfl (fun c_1 => ?_) (fun c_1 => ?_)
  · have h := h.pos c_1
    refine J.sub [] rfl ?_
    exact hj_15 σ h
  · have h := h.neg c_1
    refine J_iload_n (i := 1) (p := 1) C dX11_letterAt_4 rfl rfl rfl ?_
    refine J_aload_n (i := 0) (p := 0) C dX11_letterAt_5 rfl rfl rfl ?_
    refine Jc_getS (o2 := 1) (r2 := 1) C fp_RX11_10 rfl rfl rfl dX11_letterAt_6 rfl ?_
    refine Jc_getI C fp_RX11_144 rfl rfl dX11_letterAt_9 rfl ?_
    refine J_icmp_lt (t := 26) C dX11_letterAt_12 (by decide) rfl (fun c_2 => ?_) (fun c_2 => ?_)
    · have h := h.pos c_2
      refine J_aload_n (i := 0) (p := 0) C dX11_letterAt_26 rfl rfl rfl ?_
      refine Jc_getS (o2 := 1) (r2 := 1) C fp_RX11_10 rfl rfl rfl dX11_letterAt_27 rfl ?_
      refine Jc_getD C fp_RX11_104 rfl rfl dX11_letterAt_30 rfl ?_
      refine J_iload_n (i := 1) (p := 1) C dX11_letterAt_33 rfl rfl rfl ?_
      obtain ⟨g_3, h⟩ := Ok.ofgd h
      rw [jv_pos (r := fR σ 1 0) (okr_spec g_3).1]
      obtain ⟨g_4, h⟩ := Ok.ofgd h
      refine Jc_bald C (okr_spec g_3).2 rfl g_4 dX11_letterAt_34 rfl ?_
      rw [← hQQ]
      exact J_iret C hret (Nat.le_of_ble_eq_true rfl) (Nat.le_of_ble_eq_true rfl) ⟨_, h.osome, rfl, rfl, rfl⟩ dX11_letterAt_35
    · have h := h.neg c_2
      refine J.sub [] rfl ?_
      exact hj_15 σ h
set_option maxHeartbeats 4000000 in
set_option maxRecDepth 100000 in
theorem k11_requirePlace_n {l : Launch} {K : JK} (hl : l.stackTraces = false) {σ : Sto} {l1 : Int32}  {Qf : Sto ⊕ (Nat × Sto) → Prop} (h : Ok (f11_requirePlace σ l1) Qf) (hno : ∀ c, ¬ Qf (.inr c)) : Con l K yX11_requirePlace (.code yX11_requirePlace cX11_requirePlace 2 none :: TB) 6 0 0 False [.ref (K.2.2 + 0), .int l1] 2017 (jw K σ) (PR (fun p => Qf (.inl p)) (fun p => none) (fun p => jw K p)) PN := by
  refine Con.enter (own := RX11) hl (by decide) rfl (Nat.le_of_ble_eq_true rfl) ?_
  intro X hX hR C hret hnt
  generalize hQQ : jQ X K 0 0 (PR (fun p => Qf (.inl p)) (fun p => none) (fun p => jw K p)) PN False = QQ
  change J X K 2 False QQ 0 0 2017 (jw K σ) 0 [(0, .ref (K.2.2 + 0)), (1, .int l1)] []
  have hj_15 : (∀ (σ_15 : Sto), Ok (f11_requirePlace_j15 l1 σ_15) Qf → J X K 2 False QQ 0 0 2017 (jw K σ_15) 15 [] []) := by
    intro σ_15 h
    unfold f11_requirePlace_j15 at h
    exact absurd h.osome (hno _)
  unfold f11_requirePlace at h
  refine J_iload_n (i := 1) (p := 1) C dX11_requirePlace_0 rfl rfl rfl ?_
  refine J_if_lt (t := 15) C dX11_requirePlace_1 (by decide) rfl (fun c_1 => ?_) (fun c_1 => ?_)
  · have h := h.pos c_1
    refine J.sub [] rfl ?_
    exact hj_15 σ h
  · have h := h.neg c_1
    refine J_iload_n (i := 1) (p := 1) C dX11_requirePlace_4 rfl rfl rfl ?_
    refine J_aload_n (i := 0) (p := 0) C dX11_requirePlace_5 rfl rfl rfl ?_
    refine Jc_getS (o2 := 1) (r2 := 1) C fp_RX11_10 rfl rfl rfl dX11_requirePlace_6 rfl ?_
    refine Jc_getI C fp_RX11_144 rfl rfl dX11_requirePlace_9 rfl ?_
    refine J_icmp_le (t := 26) C dX11_requirePlace_12 (by decide) rfl (fun c_2 => ?_) (fun c_2 => ?_)
    · have h := h.pos c_2
      rw [← hQQ]
      exact J_vret C hret (Nat.le_of_ble_eq_true rfl) (Nat.le_of_ble_eq_true rfl) ⟨_, h.osome, rfl, rfl, rfl⟩ dX11_requirePlace_26
    · have h := h.neg c_2
      refine J.sub [] rfl ?_
      exact hj_15 σ h
set_option maxHeartbeats 4000000 in
set_option maxRecDepth 100000 in
theorem k11_lineOf_n {l : Launch} {K : JK} (hl : l.stackTraces = false) {σ : Sto} {l1 : Int32}  {Qf : (Int32 × Sto) ⊕ (Nat × Sto) → Prop} (h : Ok (f11_lineOf σ l1) Qf) (hno : ∀ c, ¬ Qf (.inr c)) : Con l K yX11_lineOf (.code yX11_lineOf cX11_lineOf 2 (some .int) :: TB) 7 0 0 False [.ref (K.2.2 + 0), .int l1] 2017 (jw K σ) (PR (fun p => Qf (.inl p)) (fun p => some (.int p.1)) (fun p => jw K p.2)) PN := by
  refine Con.enter (own := RX11) hl (by decide) rfl (Nat.le_of_ble_eq_true rfl) ?_
  intro X hX hR C hret hnt
  generalize hQQ : jQ X K 0 0 (PR (fun p => Qf (.inl p)) (fun p => some (.int p.1)) (fun p => jw K p.2)) PN False = QQ
  change J X K 2 False QQ 0 0 2017 (jw K σ) 0 [(0, .ref (K.2.2 + 0)), (1, .int l1)] []
  unfold f11_lineOf at h
  refine J_aload_n (i := 0) (p := 0) C dX11_lineOf_0 rfl rfl rfl ?_
  refine J_iload_n (i := 1) (p := 1) C dX11_lineOf_1 rfl rfl rfl ?_
  refine Jc_cV (rest := []) (st9 := fun p_1 => []) C hR hX cv_RX11_264 rfl (Nat.le_of_ble_eq_true rfl) (k11_requirePlace_n hl  (Ok.ofbndX h) (fun c hc => hno c hc)) rfl rfl (Nat.le_of_ble_eq_true rfl) (Nat.le_of_ble_eq_true rfl) (Nat.le_of_ble_eq_true rfl) ⟨(Nat.le_of_ble_eq_true rfl), (Nat.le_of_ble_eq_true rfl)⟩ dX11_lineOf_2 rfl (fun E n9 w9 hx => JT_n hx) (fun _ => rfl) (fun p_1 h => ?_)
  have h : Ok _ _ := h
  change J X K 2 False QQ 0 0 2017 (jw K p_1) 5 [(0, .ref (K.2.2 + 0)), (1, .int l1)] []
  refine J_aload_n (i := 0) (p := 0) C dX11_lineOf_5 rfl rfl rfl ?_
  refine Jc_getS (o2 := 1) (r2 := 1) C fp_RX11_10 rfl rfl rfl dX11_lineOf_6 rfl ?_
  refine J_iload_n (i := 1) (p := 1) C dX11_lineOf_9 rfl rfl rfl ?_
  refine Jc_cV (rest := []) (st9 := fun p_2 => [.int p_2]) C hR hX cv_RX11_365 rfl (Nat.le_of_ble_eq_true rfl) (k8_lineWith hl rfl (Ok.ofbnd h)) rfl rfl (Nat.le_of_ble_eq_true rfl) (Nat.le_of_ble_eq_true rfl) (Nat.le_of_ble_eq_true rfl) ⟨(Nat.le_of_ble_eq_true rfl), (Nat.le_of_ble_eq_true rfl)⟩ dX11_lineOf_10 rfl (fun E n9 w9 hx => JT_n hx) (fun _ => rfl) (fun p_2 h => ?_)
  have h : Ok _ _ := h
  change J X K 2 False QQ 0 0 2017 (jw K p_1) 13 [(0, .ref (K.2.2 + 0)), (1, .int l1)] [.int p_2]
  rw [← hQQ]
  exact J_iret C hret (Nat.le_of_ble_eq_true rfl) (Nat.le_of_ble_eq_true rfl) ⟨_, h.osome, rfl, rfl, rfl⟩ dX11_lineOf_13
set_option maxHeartbeats 4000000 in
set_option maxRecDepth 100000 in
theorem k11_columnOf_n {l : Launch} {K : JK} (hl : l.stackTraces = false) {σ : Sto} {l1 : Int32}  {Qf : (Int32 × Sto) ⊕ (Nat × Sto) → Prop} (h : Ok (f11_columnOf σ l1) Qf) (hno : ∀ c, ¬ Qf (.inr c)) : Con l K yX11_columnOf (.code yX11_columnOf cX11_columnOf 2 (some .int) :: TB) 7 0 0 False [.ref (K.2.2 + 0), .int l1] 2017 (jw K σ) (PR (fun p => Qf (.inl p)) (fun p => some (.int p.1)) (fun p => jw K p.2)) PN := by
  refine Con.enter (own := RX11) hl (by decide) rfl (Nat.le_of_ble_eq_true rfl) ?_
  intro X hX hR C hret hnt
  generalize hQQ : jQ X K 0 0 (PR (fun p => Qf (.inl p)) (fun p => some (.int p.1)) (fun p => jw K p.2)) PN False = QQ
  change J X K 2 False QQ 0 0 2017 (jw K σ) 0 [(0, .ref (K.2.2 + 0)), (1, .int l1)] []
  unfold f11_columnOf at h
  refine J_aload_n (i := 0) (p := 0) C dX11_columnOf_0 rfl rfl rfl ?_
  refine J_iload_n (i := 1) (p := 1) C dX11_columnOf_1 rfl rfl rfl ?_
  refine Jc_cV (rest := []) (st9 := fun p_1 => []) C hR hX cv_RX11_264 rfl (Nat.le_of_ble_eq_true rfl) (k11_requirePlace_n hl  (Ok.ofbndX h) (fun c hc => hno c hc)) rfl rfl (Nat.le_of_ble_eq_true rfl) (Nat.le_of_ble_eq_true rfl) (Nat.le_of_ble_eq_true rfl) ⟨(Nat.le_of_ble_eq_true rfl), (Nat.le_of_ble_eq_true rfl)⟩ dX11_columnOf_2 rfl (fun E n9 w9 hx => JT_n hx) (fun _ => rfl) (fun p_1 h => ?_)
  have h : Ok _ _ := h
  change J X K 2 False QQ 0 0 2017 (jw K p_1) 5 [(0, .ref (K.2.2 + 0)), (1, .int l1)] []
  refine J_aload_n (i := 0) (p := 0) C dX11_columnOf_5 rfl rfl rfl ?_
  refine Jc_getS (o2 := 1) (r2 := 1) C fp_RX11_10 rfl rfl rfl dX11_columnOf_6 rfl ?_
  refine J_iload_n (i := 1) (p := 1) C dX11_columnOf_9 rfl rfl rfl ?_
  refine J_aload_n (i := 0) (p := 0) C dX11_columnOf_10 rfl rfl rfl ?_
  refine Jc_getI C fp_RX11_74 rfl rfl dX11_columnOf_11 rfl ?_
  refine Jc_cV (rest := []) (st9 := fun p_2 => [.int p_2]) C hR hX cv_RX11_368 rfl (Nat.le_of_ble_eq_true rfl) (k8_columnWith hl rfl (Ok.ofbnd h)) rfl rfl (Nat.le_of_ble_eq_true rfl) (Nat.le_of_ble_eq_true rfl) (Nat.le_of_ble_eq_true rfl) ⟨(Nat.le_of_ble_eq_true rfl), (Nat.le_of_ble_eq_true rfl)⟩ dX11_columnOf_14 rfl (fun E n9 w9 hx => JT_n hx) (fun _ => rfl) (fun p_2 h => ?_)
  have h : Ok _ _ := h
  change J X K 2 False QQ 0 0 2017 (jw K p_1) 17 [(0, .ref (K.2.2 + 0)), (1, .int l1)] [.int p_2]
  rw [← hQQ]
  exact J_iret C hret (Nat.le_of_ble_eq_true rfl) (Nat.le_of_ble_eq_true rfl) ⟨_, h.osome, rfl, rfl, rfl⟩ dX11_columnOf_17
set_option maxHeartbeats 4000000 in
set_option maxRecDepth 100000 in
theorem k11_placeAt_n {l : Launch} {K : JK} (hl : l.stackTraces = false) {σ : Sto} {l1 : Int32} {l2 : Int32}  {Qf : (Int32 × Sto) ⊕ (Nat × Sto) → Prop} (h : Ok (f11_placeAt σ l1 l2) Qf) (hno : ∀ c, ¬ Qf (.inr c)) : Con l K yX11_placeAt (.code yX11_placeAt cX11_placeAt 3 (some .int) :: TB) 7 0 0 False [.ref (K.2.2 + 0), .int l1, .int l2] 2017 (jw K σ) (PR (fun p => Qf (.inl p)) (fun p => some (.int p.1)) (fun p => jw K p.2)) PN := by
  refine Con.enter (own := RX11) hl (by decide) rfl (Nat.le_of_ble_eq_true rfl) ?_
  intro X hX hR C hret hnt
  generalize hQQ : jQ X K 0 0 (PR (fun p => Qf (.inl p)) (fun p => some (.int p.1)) (fun p => jw K p.2)) PN False = QQ
  change J X K 3 False QQ 0 0 2017 (jw K σ) 0 [(0, .ref (K.2.2 + 0)), (1, .int l1), (2, .int l2)] []
  unfold f11_placeAt at h
  refine J_aload_n (i := 0) (p := 0) C dX11_placeAt_0 rfl rfl rfl ?_
  refine J_iload_n (i := 1) (p := 1) C dX11_placeAt_1 rfl rfl rfl ?_
  refine Jc_cV (rest := []) (st9 := fun p_1 => []) C hR hX cv_RX11_112 rfl (Nat.le_of_ble_eq_true rfl) (k11_requireLine_n hl  (Ok.ofbndX h) (fun c hc => hno c hc)) rfl rfl (Nat.le_of_ble_eq_true rfl) (Nat.le_of_ble_eq_true rfl) (Nat.le_of_ble_eq_true rfl) ⟨(Nat.le_of_ble_eq_true rfl), (Nat.le_of_ble_eq_true rfl)⟩ dX11_placeAt_2 rfl (fun E n9 w9 hx => JT_n hx) (fun _ => rfl) (fun p_1 h => ?_)
  have h : Ok _ _ := h
  change J X K 3 False QQ 0 0 2017 (jw K p_1) 5 [(0, .ref (K.2.2 + 0)), (1, .int l1), (2, .int l2)] []
  refine J_iload_n (i := 2) (p := 2) C dX11_placeAt_5 rfl rfl rfl ?_
  refine J_if_ge (t := 20) C dX11_placeAt_6 (by decide) rfl (fun c_2 => ?_) (fun c_2 => ?_)
  · have h := h.pos c_2
    refine J_aload_n (i := 0) (p := 0) C dX11_placeAt_20 rfl rfl rfl ?_
    refine Jc_getS (o2 := 1) (r2 := 1) C fp_RX11_10 rfl rfl rfl dX11_placeAt_21 rfl ?_
    refine J_iload_n (i := 1) (p := 1) C dX11_placeAt_24 rfl rfl rfl ?_
    refine J_iload_n (i := 2) (p := 2) C dX11_placeAt_25 rfl rfl rfl ?_
    refine J_aload_n (i := 0) (p := 0) C dX11_placeAt_26 rfl rfl rfl ?_
    refine Jc_getI C fp_RX11_74 rfl rfl dX11_placeAt_27 rfl ?_
    refine Jc_cV (rest := []) (st9 := fun p_3 => [.int p_3]) C hR hX cv_RX11_373 rfl (Nat.le_of_ble_eq_true rfl) (k8_placeWith hl rfl (Ok.ofbnd h)) rfl rfl (Nat.le_of_ble_eq_true rfl) (Nat.le_of_ble_eq_true rfl) (Nat.le_of_ble_eq_true rfl) ⟨(Nat.le_of_ble_eq_true rfl), (Nat.le_of_ble_eq_true rfl)⟩ dX11_placeAt_30 rfl (fun E n9 w9 hx => JT_n hx) (fun _ => rfl) (fun p_3 h => ?_)
    have h : Ok _ _ := h
    change J X K 3 False QQ 0 0 2017 (jw K p_1) 33 [(0, .ref (K.2.2 + 0)), (1, .int l1), (2, .int l2)] [.int p_3]
    rw [← hQQ]
    exact J_iret C hret (Nat.le_of_ble_eq_true rfl) (Nat.le_of_ble_eq_true rfl) ⟨_, h.osome, rfl, rfl, rfl⟩ dX11_placeAt_33
  · have h := h.neg c_2
    exact absurd h.osome (hno _)
