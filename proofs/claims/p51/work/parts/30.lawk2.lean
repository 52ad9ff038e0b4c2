set_option maxHeartbeats 4000000 in
set_option maxRecDepth 100000 in
theorem kL_feeds {l : Launch} {K : JK} (hl : l.stackTraces = false) {τ : LawS} {a1 : Nat} {l2 : Int32} (h_a1 : kl a1 = 12) {Qf : Int32 × LawS → Prop} (h : Ok (fL_feeds τ a1 l2) Qf) : Con l K yL_feeds (.code yL_feeds cL_feeds 8 (some .boolean) :: TB) 7 0 0 False [.ref (K.2.2 + 47), .ref (K.2.2 + a1), .int l2] 2064 (jl K τ) (PL Qf (fun p => some (.int p.1)) (fun p => jl K p.2)) PN := by
  refine Con.enter (own := RL) hl (by decide) rfl (Nat.le_of_ble_eq_true rfl) ?_
  intro X hX hR C hret hnt
  generalize hQQ : jQ X K 0 0 (PL Qf (fun p => some (.int p.1)) (fun p => jl K p.2)) PN False = QQ
  change J X K 8 False QQ 0 0 2064 (jl K τ) 0 [(0, .ref (K.2.2 + 47)), (1, .ref (K.2.2 + a1)), (2, .int l2)] []
  have hj_90 : (∀ (τ_90 : LawS) (s0_90 : Int32), Ok (fL_feeds_j90 a1 l2 τ_90 s0_90) Qf → J X K 8 False QQ 0 0 2064 (jl K τ_90) 90 [] [.int s0_90]) := by
    intro τ_90 s0_90 h
    unfold fL_feeds_j90 at h
    obtain ⟨g_1, h⟩ := Ok.ofgd h
    rw [← hQQ]
    exact J_zret C hret (narB g_1).1 (Nat.le_of_ble_eq_true rfl) (Nat.le_of_ble_eq_true rfl) ⟨_, h.osome, rfl, rfl, rfl⟩ dL_feeds_90
  have hj_89 : (∀ (τ_89 : LawS), Ok (fL_feeds_j89 a1 l2 τ_89) Qf → J X K 8 False QQ 0 0 2064 (jl K τ_89) 89 [] []) := by
    intro τ_89 h
    unfold fL_feeds_j89 at h
    refine J_iconst (v := 0) C (by decide) dL_feeds_89 rfl ?_
    exact hj_90 τ_89 (0 : Int32) h
  have hj_10 : (∀ (τ_10 : LawS) (l3_10 : Int32) (l4_10 : Int32), Ok (fL_feeds_j10 a1 l2 τ_10 l3_10 l4_10) Qf → J X K 8 False QQ 0 0 2064 (jl K τ_10) 10 [(0, .ref (K.2.2 + 47)), (1, .ref (K.2.2 + a1)), (2, .int l2), (3, .int l3_10), (4, .int l4_10)] []) := by
    intro τ_10 l3_10 l4_10 h
    unfold fL_feeds_j10 at h
    refine loop_gen (S := LawS × Int32 × Int32) (P := fun s_10 => J X K 8 False QQ 0 0 2064 (jl K s_10.1) 10 [(0, .ref (K.2.2 + 47)), (1, .ref (K.2.2 + a1)), (2, .int l2), (3, .int s_10.2.1), (4, .int s_10.2.2)] []) ?_ FU (τ_10, l3_10, l4_10) (Ok.ofbnd h)
    intro B_10 hB_10 hE_10 s_10 h
    obtain ⟨τ_10, l3_10, l4_10⟩ := s_10
    have h : Ok (fL_feeds_b10 a1 l2 τ_10 l3_10 l4_10) B_10 := h
    change J X K 8 False QQ 0 0 2064 (jl K τ_10) 10 [(0, .ref (K.2.2 + 47)), (1, .ref (K.2.2 + a1)), (2, .int l2), (3, .int l3_10), (4, .int l4_10)] []
    have hj_58 : (∀ (τ_58 : LawS) (l4_58 : Int32) (l5_58 : Int64), Ok (fL_feeds_j58 a1 l2 τ_58 l4_58 l5_58) B_10 → J X K 8 False QQ 0 0 2064 (jl K τ_58) 58 [(0, .ref (K.2.2 + 47)), (1, .ref (K.2.2 + a1)), (2, .int l2), (4, .int l4_58), (5, .long l5_58)] []) := by
      intro τ_58 l4_58 l5_58 h
      unfold fL_feeds_j58 at h
      refine J_aload_n (i := 0) (p := 0) C dL_feeds_58 rfl rfl rfl ?_
      refine J_lload (i := 5) (p := 4) C dL_feeds_59 rfl rfl ?_
      refine Jl_cV (α := Int32 × Sto) (rest := []) (st9 := fun p_2 => [.int p_2.1]) (wd := fun p_2 => p_2.2) C hR hX cv_RL_130 (k11_feed_n hl (Ok.ofnox h) (fun c hc => hc)) rfl rfl (Nat.le_of_ble_eq_true rfl) (Nat.le_of_ble_eq_true rfl) (Nat.le_of_ble_eq_true rfl) ⟨(Nat.le_of_ble_eq_true rfl), (Nat.le_of_ble_eq_true rfl)⟩ dL_feeds_61 rfl (fun E n9 w9 hx => hx.elim) (fun _ => rfl) (fun p_2 h => ?_)
      have h : Ok _ _ := h
      change J X K 8 False QQ 0 0 2064 (jl K (τ_58.1, p_2.2)) 64 [(0, .ref (K.2.2 + 47)), (1, .ref (K.2.2 + a1)), (2, .int l2), (4, .int l4_58), (5, .long l5_58)] [.int p_2.1]
      obtain ⟨x3_1, e_x3_1, h⟩ := Ok.nm h
      refine J_istoreE_n (i := 3) (lv' := [(3, .int x3_1), (0, .ref (K.2.2 + 47)), (1, .ref (K.2.2 + a1)), (2, .int l2), (4, .int l4_58), (5, .long l5_58)]) C e_x3_1 dL_feeds_64 rfl (Nat.le_of_ble_eq_true rfl) rfl rfl ?_
      obtain ⟨x4_2, e_x4_2, h⟩ := Ok.nm h
      refine J_iincE (i := 4) (p := 4) (lv' := [(4, .int x4_2), (3, .int x3_1), (0, .ref (K.2.2 + 47)), (1, .ref (K.2.2 + a1)), (2, .int l2), (5, .long l5_58)]) C e_x4_2 dL_feeds_65 rfl (by decide) (Nat.le_of_ble_eq_true rfl) rfl rfl ?_
      refine J_goto (t := 10) C dL_feeds_68 (by decide) ?_
      refine J.sub [2, 3, 4, 1, 0] rfl ?_
      exact hB_10 ((τ_58.1, p_2.2), x3_1, x4_2) h.osome
    have hj_23 : (∀ (τ_23 : LawS) (l4_23 : Int32) (l5_23 : Int64) (l7_23 : Int32), Ok (fL_feeds_j23 a1 l2 τ_23 l4_23 l5_23 l7_23) B_10 → J X K 8 False QQ 0 0 2064 (jl K τ_23) 23 [(0, .ref (K.2.2 + 47)), (1, .ref (K.2.2 + a1)), (2, .int l2), (4, .int l4_23), (5, .long l5_23), (7, .int l7_23)] []) := by
      intro τ_23 l4_23 l5_23 l7_23 h
      unfold fL_feeds_j23 at h
      refine loop_gen (S := Int64 × Int32) (P := fun s_23 => J X K 8 False QQ 0 0 2064 (jl K τ_23) 23 [(0, .ref (K.2.2 + 47)), (1, .ref (K.2.2 + a1)), (2, .int l2), (4, .int l4_23), (5, .long s_23.1), (7, .int s_23.2)] []) ?_ FU (l5_23, l7_23) (Ok.ofbnd h)
      intro B_23 hB_23 hE_23 s_23 h
      obtain ⟨l5_23, l7_23⟩ := s_23
      have h : Ok (fL_feeds_b23 a1 l2 τ_23 l4_23 l5_23 l7_23) B_23 := h
      change J X K 8 False QQ 0 0 2064 (jl K τ_23) 23 [(0, .ref (K.2.2 + 47)), (1, .ref (K.2.2 + a1)), (2, .int l2), (4, .int l4_23), (5, .long l5_23), (7, .int l7_23)] []
      unfold fL_feeds_b23 at h
      refine J_iload (i := 7) (p := 5) C dL_feeds_23 rfl rfl ?_
      refine J_iload (i := 4) (p := 3) C dL_feeds_25 rfl rfl ?_
      refine J_bipush (v := 8) C (by decide) dL_feeds_27 rfl ?_
      refine J_iadd C dL_feeds_29 rfl ?_
      refine J_icmp_ge (t := 58) C dL_feeds_30 (by decide) rfl (fun c_3 => ?_) (fun c_3 => ?_)
      · have h := h.pos c_3
        have h := hE_23 l5_23 h.osome
        try dsimp only at h
        refine J.sub [0, 1, 2, 3, 4] rfl ?_
        exact hj_58 τ_23 l4_23 l5_23 h
      · have h := h.neg c_3
        refine J_iload (i := 7) (p := 5) C dL_feeds_33 rfl rfl ?_
        refine J_iload_n (i := 2) (p := 2) C dL_feeds_35 rfl rfl rfl ?_
        refine J_icmp_ge (t := 58) C dL_feeds_36 (by decide) rfl (fun c_4 => ?_) (fun c_4 => ?_)
        · have h := h.pos c_4
          have h := hE_23 l5_23 h.osome
          try dsimp only at h
          refine J.sub [0, 1, 2, 3, 4] rfl ?_
          exact hj_58 τ_23 l4_23 l5_23 h
        · have h := h.neg c_4
          refine J_lload (i := 5) (p := 4) C dL_feeds_39 rfl rfl ?_
          refine J_bipush (v := 8) C (by decide) dL_feeds_41 rfl ?_
          refine J_lshl C dL_feeds_43 rfl ?_
          refine J_aload_n (i := 1) (p := 1) C dL_feeds_44 rfl rfl rfl ?_
          refine J_iload (i := 7) (p := 5) C dL_feeds_45 rfl rfl ?_
          obtain ⟨g_5, h⟩ := Ok.ofgd h
          refine Jl_iald C h_a1 rfl g_5 dL_feeds_47 rfl ?_
          refine J_i2l C dL_feeds_48 rfl ?_
          refine J_lor C dL_feeds_49 rfl ?_
          obtain ⟨x5_3, e_x5_3, h⟩ := Ok.nm h
          refine J_lstoreE (i := 5) (lv' := [(5, .long x5_3), (0, .ref (K.2.2 + 47)), (1, .ref (K.2.2 + a1)), (2, .int l2), (4, .int l4_23), (7, .int l7_23)]) C e_x5_3 dL_feeds_50 (Nat.le_of_ble_eq_true rfl) rfl rfl ?_
          obtain ⟨x7_4, e_x7_4, h⟩ := Ok.nm h
          refine J_iincE (i := 7) (p := 5) (lv' := [(7, .int x7_4), (5, .long x5_3), (0, .ref (K.2.2 + 47)), (1, .ref (K.2.2 + a1)), (2, .int l2), (4, .int l4_23)]) C e_x7_4 dL_feeds_52 rfl (by decide) (Nat.le_of_ble_eq_true rfl) rfl rfl ?_
          refine J_goto (t := 23) C dL_feeds_55 (by decide) ?_
          refine J.sub [2, 3, 4, 5, 1, 0] rfl ?_
          exact hB_23 (x5_3, x7_4) h.osome
    unfold fL_feeds_b10 at h
    refine J_iload (i := 4) (p := 4) C dL_feeds_10 rfl rfl ?_
    refine J_iload_n (i := 2) (p := 2) C dL_feeds_12 rfl rfl rfl ?_
    refine J_icmp_ge (t := 71) C dL_feeds_13 (by decide) rfl (fun c_6 => ?_) (fun c_6 => ?_)
    · have h := h.pos c_6
      have h := hE_10 (τ_10, l3_10) h.osome
      try dsimp only at h
      refine J_iload_n (i := 3) (p := 3) C dL_feeds_71 rfl rfl rfl ?_
      refine J_iload_n (i := 2) (p := 2) C dL_feeds_72 rfl rfl rfl ?_
      refine J_icmp_ne (t := 89) C dL_feeds_73 (by decide) rfl (fun c_7 => ?_) (fun c_7 => ?_)
      · have h := h.neg c_7
        refine J.sub [] rfl ?_
        exact hj_89 τ_10 h
      · have h := h.pos (Decidable.not_not.mp c_7)
        refine J_aload_n (i := 0) (p := 0) C dL_feeds_76 rfl rfl rfl ?_
        refine J_iconst (v := 5) C (by decide) dL_feeds_77 rfl ?_
        refine Jl_cV (α := Int32 × Sto) (rest := []) (st9 := fun p_8 => [.int p_8.1]) (wd := fun p_8 => p_8.2) C hR hX cv_RL_134 (k11_count_n hl (Ok.ofnox h) (fun c hc => hc)) rfl rfl (Nat.le_of_ble_eq_true rfl) (Nat.le_of_ble_eq_true rfl) (Nat.le_of_ble_eq_true rfl) ⟨(Nat.le_of_ble_eq_true rfl), (Nat.le_of_ble_eq_true rfl)⟩ dL_feeds_78 rfl (fun E n9 w9 hx => hx.elim) (fun _ => rfl) (fun p_8 h => ?_)
        have h : Ok _ _ := h
        change J X K 8 False QQ 0 0 2064 (jl K (τ_10.1, p_8.2)) 81 [(0, .ref (K.2.2 + 47)), (1, .ref (K.2.2 + a1)), (2, .int l2), (3, .int l3_10), (4, .int l4_10)] [.int p_8.1]
        refine J_iload_n (i := 2) (p := 2) C dL_feeds_81 rfl rfl rfl ?_
        refine J_icmp_ne (t := 89) C dL_feeds_82 (by decide) rfl (fun c_9 => ?_) (fun c_9 => ?_)
        · have h := h.neg c_9
          refine J.sub [] rfl ?_
          exact hj_89 (τ_10.1, p_8.2) h
        · have h := h.pos (Decidable.not_not.mp c_9)
          refine J_iconst (v := 1) C (by decide) dL_feeds_85 rfl ?_
          refine J_goto (t := 90) C dL_feeds_86 (by decide) ?_
          refine J.sub [] rfl ?_
          exact hj_90 (τ_10.1, p_8.2) (1 : Int32) h
    · have h := h.neg c_6
      refine J_lconst (v := 0) C (by decide) dL_feeds_16 rfl ?_
      obtain ⟨x5_5, e_x5_5, h⟩ := Ok.nm h
      refine J_lstoreE (i := 5) (lv' := [(5, .long x5_5), (0, .ref (K.2.2 + 47)), (1, .ref (K.2.2 + a1)), (2, .int l2), (3, .int l3_10), (4, .int l4_10)]) C e_x5_5 dL_feeds_17 (Nat.le_of_ble_eq_true rfl) rfl rfl ?_
      refine J_iload (i := 4) (p := 5) C dL_feeds_19 rfl rfl ?_
      obtain ⟨x7_6, e_x7_6, h⟩ := Ok.nm h
      refine J_istoreE (i := 7) (lv' := [(7, .int x7_6), (5, .long x5_5), (0, .ref (K.2.2 + 47)), (1, .ref (K.2.2 + a1)), (2, .int l2), (3, .int l3_10), (4, .int l4_10)]) C e_x7_6 dL_feeds_21 (Nat.le_of_ble_eq_true rfl) rfl rfl ?_
      refine J.sub [2, 3, 4, 6, 1, 0] rfl ?_
      exact hj_23 τ_10 l4_10 x5_5 x7_6 h
  unfold fL_feeds at h
  refine J_aload_n (i := 0) (p := 0) C dL_feeds_0 rfl rfl rfl ?_
  refine Jl_cV (α := Int32 × Sto) (rest := []) (st9 := fun p_13 => [.int p_13.1]) (wd := fun p_13 => p_13.2) C hR hX cv_RL_127 (k11_clearTape hl (Ok.ofbnd h)) rfl rfl (Nat.le_of_ble_eq_true rfl) (Nat.le_of_ble_eq_true rfl) (Nat.le_of_ble_eq_true rfl) ⟨(Nat.le_of_ble_eq_true rfl), (Nat.le_of_ble_eq_true rfl)⟩ dL_feeds_1 rfl (fun E n9 w9 hx => hx.elim) (fun _ => rfl) (fun p_13 h => ?_)
  have h : Ok _ _ := h
  change J X K 8 False QQ 0 0 2064 (jl K (τ.1, p_13.2)) 4 [(0, .ref (K.2.2 + 47)), (1, .ref (K.2.2 + a1)), (2, .int l2)] [.int p_13.1]
  obtain ⟨x3_7, e_x3_7, h⟩ := Ok.nm h
  refine J_istoreE_n (i := 3) (lv' := [(3, .int x3_7), (0, .ref (K.2.2 + 47)), (1, .ref (K.2.2 + a1)), (2, .int l2)]) C e_x3_7 dL_feeds_4 rfl (Nat.le_of_ble_eq_true rfl) rfl rfl ?_
  refine J_iconst (v := 0) C (by decide) dL_feeds_5 rfl ?_
  obtain ⟨x3_8, e_x3_8, h⟩ := Ok.nm h
  refine J_istoreE_n (i := 3) (lv' := [(3, .int x3_8), (0, .ref (K.2.2 + 47)), (1, .ref (K.2.2 + a1)), (2, .int l2)]) C e_x3_8 dL_feeds_6 rfl (Nat.le_of_ble_eq_true rfl) rfl rfl ?_
  refine J_iconst (v := 0) C (by decide) dL_feeds_7 rfl ?_
  obtain ⟨x4_9, e_x4_9, h⟩ := Ok.nm h
  refine J_istoreE (i := 4) (lv' := [(4, .int x4_9), (3, .int x3_8), (0, .ref (K.2.2 + 47)), (1, .ref (K.2.2 + a1)), (2, .int l2)]) C e_x4_9 dL_feeds_8 (Nat.le_of_ble_eq_true rfl) rfl rfl ?_
  refine J.sub [2, 3, 4, 1, 0] rfl ?_
  exact hj_10 (τ.1, p_13.2) x3_8 x4_9 h
set_option maxHeartbeats 4000000 in
set_option maxRecDepth 100000 in
theorem kL_draws {l : Launch} {K : JK} (hl : l.stackTraces = false) {τ : LawS}   {Qf : Int32 × LawS → Prop} (h : Ok (fL_draws τ) Qf) : Con l K yL_draws (.code yL_draws cL_draws 5 (some .int) :: TB) 2 0 0 False [.ref (K.2.2 + 0), .ref (K.2.2 + 43)] 2064 (jl K τ) (PL Qf (fun p => some (.int p.1)) (fun p => jl K p.2)) PN := by
  refine Con.enter (own := RL) hl (by decide) rfl (Nat.le_of_ble_eq_true rfl) ?_
  intro X hX hR C hret hnt
  generalize hQQ : jQ X K 0 0 (PL Qf (fun p => some (.int p.1)) (fun p => jl K p.2)) PN False = QQ
  change J X K 5 False QQ 0 0 2064 (jl K τ) 0 [(0, .ref (K.2.2 + 0)), (1, .ref (K.2.2 + 43))] []
  have hj_28 : (∀ (τ_28 : LawS) (l2_28 : Int32) (l3_28 : Int32), Ok (fL_draws_j28 τ_28 l2_28 l3_28) Qf → J X K 5 False QQ 0 0 2064 (jl K τ_28) 28 [(0, .ref (K.2.2 + 0)), (1, .ref (K.2.2 + 43)), (2, .int l2_28), (3, .int l3_28)] []) := by
    intro τ_28 l2_28 l3_28 h
    unfold fL_draws_j28 at h
    refine loop_gen (S := LawS × Int32) (P := fun s_28 => J X K 5 False QQ 0 0 2064 (jl K s_28.1) 28 [(0, .ref (K.2.2 + 0)), (1, .ref (K.2.2 + 43)), (2, .int l2_28), (3, .int s_28.2)] []) ?_ FU (τ_28, l3_28) (Ok.ofbnd h)
    intro B_28 hB_28 hE_28 s_28 h
    obtain ⟨τ_28, l3_28⟩ := s_28
    have h : Ok (fL_draws_b28 τ_28 l2_28 l3_28) B_28 := h
    change J X K 5 False QQ 0 0 2064 (jl K τ_28) 28 [(0, .ref (K.2.2 + 0)), (1, .ref (K.2.2 + 43)), (2, .int l2_28), (3, .int l3_28)] []
    have hj_115 : (∀ (τ_115 : LawS) (l3_115 : Int32) (s1_115 : Int32) (s2_115 : Int32), Ok (fL_draws_j115 l2_28 τ_115 l3_115 s1_115 s2_115) B_28 → J X K 5 False QQ 0 0 2064 (jl K τ_115) 115 [(0, .ref (K.2.2 + 0)), (1, .ref (K.2.2 + 43)), (2, .int l2_28), (3, .int l3_115)] [.int s2_115, .int s1_115, .ref (K.2.2 + 43)]) := by
      intro τ_115 l3_115 s1_115 s2_115 h
      unfold fL_draws_j115 at h
      obtain ⟨g_1, h⟩ := Ok.ofgd h
      obtain ⟨τx_1, e_τx_1, h⟩ := Ok.nm h
      refine Jl_iast C id rfl rfl g_1 e_τx_1 dL_draws_115 rfl ?_
      obtain ⟨x3_2, e_x3_2, h⟩ := Ok.nm h
      refine J_iincE (i := 3) (p := 3) (lv' := [(3, .int x3_2), (0, .ref (K.2.2 + 0)), (1, .ref (K.2.2 + 43)), (2, .int l2_28)]) C e_x3_2 dL_draws_116 rfl (by decide) (Nat.le_of_ble_eq_true rfl) rfl rfl ?_
      refine J_goto (t := 28) C dL_draws_119 (by decide) ?_
      refine J.sub [1, 2, 3, 0] rfl ?_
      exact hB_28 (τx_1, x3_2) h.osome
    unfold fL_draws_b28 at h
    refine J_iload_n (i := 3) (p := 3) C dL_draws_28 rfl rfl rfl ?_
    refine J_iload_n (i := 2) (p := 2) C dL_draws_29 rfl rfl rfl ?_
    refine J_icmp_ge (t := 122) C dL_draws_30 (by decide) rfl (fun c_2 => ?_) (fun c_2 => ?_)
    · have h := h.pos c_2
      have h := hE_28 τ_28 h.osome
      try dsimp only at h
      refine J_iload_n (i := 2) (p := 2) C dL_draws_122 rfl rfl rfl ?_
      rw [← hQQ]
      exact J_iret C hret (Nat.le_of_ble_eq_true rfl) (Nat.le_of_ble_eq_true rfl) ⟨_, h.osome, rfl, rfl, rfl⟩ dL_draws_123
    · have h := h.neg c_2
      refine J_aload_n (i := 0) (p := 0) C dL_draws_33 rfl rfl rfl ?_
      refine Jl_cS (α := Int32 × LawS) (rest := []) (st9 := fun p_3 => [.int p_3.1]) C hR hX cs_RL_8 (kL_next hl  (Ok.ofbnd h)) rfl rfl (Nat.le_of_ble_eq_true rfl) (Nat.le_of_ble_eq_true rfl) (Nat.le_of_ble_eq_true rfl) ⟨(Nat.le_of_ble_eq_true rfl), (Nat.le_of_ble_eq_true rfl)⟩ dL_draws_34 rfl (fun _ => rfl) (fun p_3 h => ?_)
      have h : Ok _ _ := h
      change J X K 5 False QQ 0 0 2064 (jl K p_3.2) 37 [(0, .ref (K.2.2 + 0)), (1, .ref (K.2.2 + 43)), (2, .int l2_28), (3, .int l3_28)] [.int p_3.1]
      refine J_bipush (v := 11) C (by decide) dL_draws_37 rfl ?_
      refine J_irem C (by decide) dL_draws_39 rfl ?_
      obtain ⟨x4_3, e_x4_3, h⟩ := Ok.nm h
      refine J_istoreE (i := 4) (lv' := [(4, .int x4_3), (0, .ref (K.2.2 + 0)), (1, .ref (K.2.2 + 43)), (2, .int l2_28), (3, .int l3_28)]) C e_x4_3 dL_draws_40 (Nat.le_of_ble_eq_true rfl) rfl rfl ?_
      refine J_aload_n (i := 1) (p := 2) C dL_draws_42 rfl rfl rfl ?_
      refine J_iload_n (i := 3) (p := 4) C dL_draws_43 rfl rfl rfl ?_
      refine J_iload (i := 4) (p := 0) C dL_draws_44 rfl rfl ?_
      refine J_iconst (v := 4) C (by decide) dL_draws_46 rfl ?_
      refine J_icmp_ge (t := 60) C dL_draws_47 (by decide) rfl (fun c_4 => ?_) (fun c_4 => ?_)
      · have h := h.pos c_4
        refine J_iload (i := 4) (p := 0) C dL_draws_60 rfl rfl ?_
        refine J_bipush (v := 6) C (by decide) dL_draws_62 rfl ?_
        refine J_icmp_ge (t := 72) C dL_draws_64 (by decide) rfl (fun c_5 => ?_) (fun c_5 => ?_)
        · have h := h.pos c_5
          refine J_iload (i := 4) (p := 0) C dL_draws_72 rfl rfl ?_
          refine J_bipush (v := 6) C (by decide) dL_draws_74 rfl ?_
          refine J_icmp_ne (t := 84) C dL_draws_76 (by decide) rfl (fun c_6 => ?_) (fun c_6 => ?_)
          · have h := h.neg c_6
            refine J_iload (i := 4) (p := 0) C dL_draws_84 rfl rfl ?_
            refine J_bipush (v := 7) C (by decide) dL_draws_86 rfl ?_
            refine J_icmp_ne (t := 96) C dL_draws_88 (by decide) rfl (fun c_7 => ?_) (fun c_7 => ?_)
            · have h := h.neg c_7
              refine J_iload (i := 4) (p := 0) C dL_draws_96 rfl rfl ?_
              refine J_bipush (v := 8) C (by decide) dL_draws_98 rfl ?_
              refine J_icmp_ne (t := 108) C dL_draws_100 (by decide) rfl (fun c_8 => ?_) (fun c_8 => ?_)
              · have h := h.neg c_8
                refine J_bipush (v := 97) C (by decide) dL_draws_108 rfl ?_
                refine J_iload (i := 4) (p := 0) C dL_draws_110 rfl rfl ?_
                refine J_iconst (v := 3) C (by decide) dL_draws_112 rfl ?_
                refine J_irem C (by decide) dL_draws_113 rfl ?_
                refine J_iadd C dL_draws_114 rfl ?_
                refine J.sub [1, 2, 3, 4] rfl ?_
                exact hj_115 p_3.2 l3_28 l3_28 ((97 : Int32) + (x4_3 - x4_3 / (3 : Int32) * (3 : Int32))) h
              · have h := h.pos (Decidable.not_not.mp c_8)
                refine J_bipush (v := 45) C (by decide) dL_draws_103 rfl ?_
                refine J_goto (t := 115) C dL_draws_105 (by decide) ?_
                refine J.sub [1, 2, 3, 4] rfl ?_
                exact hj_115 p_3.2 l3_28 l3_28 (45 : Int32) h
            · have h := h.pos (Decidable.not_not.mp c_7)
              refine J_bipush (v := 9) C (by decide) dL_draws_91 rfl ?_
              refine J_goto (t := 115) C dL_draws_93 (by decide) ?_
              refine J.sub [1, 2, 3, 4] rfl ?_
              exact hj_115 p_3.2 l3_28 l3_28 (9 : Int32) h
          · have h := h.pos (Decidable.not_not.mp c_6)
            refine J_bipush (v := 10) C (by decide) dL_draws_79 rfl ?_
            refine J_goto (t := 115) C dL_draws_81 (by decide) ?_
            refine J.sub [1, 2, 3, 4] rfl ?_
            exact hj_115 p_3.2 l3_28 l3_28 (10 : Int32) h
        · have h := h.neg c_5
          refine J_bipush (v := 32) C (by decide) dL_draws_67 rfl ?_
          refine J_goto (t := 115) C dL_draws_69 (by decide) ?_
          refine J.sub [1, 2, 3, 4] rfl ?_
          exact hj_115 p_3.2 l3_28 l3_28 (32 : Int32) h
      · have h := h.neg c_4
        refine J_bipush (v := 97) C (by decide) dL_draws_50 rfl ?_
        refine J_iload (i := 4) (p := 0) C dL_draws_52 rfl rfl ?_
        refine J_iconst (v := 2) C (by decide) dL_draws_54 rfl ?_
        refine J_irem C (by decide) dL_draws_55 rfl ?_
        refine J_iadd C dL_draws_56 rfl ?_
        refine J_goto (t := 115) C dL_draws_57 (by decide) ?_
        refine J.sub [1, 2, 3, 4] rfl ?_
        exact hj_115 p_3.2 l3_28 l3_28 ((97 : Int32) + (x4_3 - x4_3 / (2 : Int32) * (2 : Int32))) h
  have hj_25 : (∀ (τ_25 : LawS) (s0_25 : Int32), Ok (fL_draws_j25 τ_25 s0_25) Qf → J X K 5 False QQ 0 0 2064 (jl K τ_25) 25 [(0, .ref (K.2.2 + 0)), (1, .ref (K.2.2 + 43))] [.int s0_25]) := by
    intro τ_25 s0_25 h
    unfold fL_draws_j25 at h
    obtain ⟨x2_4, e_x2_4, h⟩ := Ok.nm h
    refine J_istoreE_n (i := 2) (lv' := [(2, .int x2_4), (0, .ref (K.2.2 + 0)), (1, .ref (K.2.2 + 43))]) C e_x2_4 dL_draws_25 rfl (Nat.le_of_ble_eq_true rfl) rfl rfl ?_
    refine J_iconst (v := 0) C (by decide) dL_draws_26 rfl ?_
    obtain ⟨x3_5, e_x3_5, h⟩ := Ok.nm h
    refine J_istoreE_n (i := 3) (lv' := [(3, .int x3_5), (2, .int x2_4), (0, .ref (K.2.2 + 0)), (1, .ref (K.2.2 + 43))]) C e_x3_5 dL_draws_27 rfl (Nat.le_of_ble_eq_true rfl) rfl rfl ?_
    refine J.sub [2, 3, 1, 0] rfl ?_
    exact hj_28 τ_25 x2_4 x3_5 h
  unfold fL_draws at h
  refine J_aload_n (i := 0) (p := 0) C dL_draws_0 rfl rfl rfl ?_
  refine Jl_cS (α := Int32 × LawS) (rest := []) (st9 := fun p_9 => [.int p_9.1]) C hR hX cs_RL_8 (kL_next hl  (Ok.ofbnd h)) rfl rfl (Nat.le_of_ble_eq_true rfl) (Nat.le_of_ble_eq_true rfl) (Nat.le_of_ble_eq_true rfl) ⟨(Nat.le_of_ble_eq_true rfl), (Nat.le_of_ble_eq_true rfl)⟩ dL_draws_1 rfl (fun _ => rfl) (fun p_9 h => ?_)
  have h : Ok _ _ := h
  change J X K 5 False QQ 0 0 2064 (jl K p_9.2) 4 [(0, .ref (K.2.2 + 0)), (1, .ref (K.2.2 + 43))] [.int p_9.1]
  refine J_iconst (v := 4) C (by decide) dL_draws_4 rfl ?_
  refine J_irem C (by decide) dL_draws_5 rfl ?_
  refine J_if_ne (t := 18) C dL_draws_6 (by decide) rfl (fun c_10 => ?_) (fun c_10 => ?_)
  · have h := h.neg c_10
    refine J_aload_n (i := 0) (p := 0) C dL_draws_18 rfl rfl rfl ?_
    refine J_iconst (v := 1) C (by decide) dL_draws_19 rfl ?_
    refine J_bipush (v := 12) C (by decide) dL_draws_20 rfl ?_
    refine Jl_cS (α := Int32 × LawS) (rest := []) (st9 := fun p_11 => [.int p_11.1]) C hR hX cs_RL_137 (kL_from hl  (Ok.ofbnd h)) rfl rfl (Nat.le_of_ble_eq_true rfl) (Nat.le_of_ble_eq_true rfl) (Nat.le_of_ble_eq_true rfl) ⟨(Nat.le_of_ble_eq_true rfl), (Nat.le_of_ble_eq_true rfl)⟩ dL_draws_22 rfl (fun _ => rfl) (fun p_11 h => ?_)
    have h : Ok _ _ := h
    change J X K 5 False QQ 0 0 2064 (jl K p_11.2) 25 [(0, .ref (K.2.2 + 0)), (1, .ref (K.2.2 + 43))] [.int p_11.1]
    exact hj_25 p_11.2 p_11.1 h
  · have h := h.pos (Decidable.not_not.mp c_10)
    refine J_aload_n (i := 0) (p := 0) C dL_draws_9 rfl rfl rfl ?_
    refine Jl_cS (α := Int32 × LawS) (rest := []) (st9 := fun p_12 => [.int p_12.1]) C hR hX cs_RL_8 (kL_next hl  (Ok.ofbnd h)) rfl rfl (Nat.le_of_ble_eq_true rfl) (Nat.le_of_ble_eq_true rfl) (Nat.le_of_ble_eq_true rfl) ⟨(Nat.le_of_ble_eq_true rfl), (Nat.le_of_ble_eq_true rfl)⟩ dL_draws_10 rfl (fun _ => rfl) (fun p_12 h => ?_)
    have h : Ok _ _ := h
    change J X K 5 False QQ 0 0 2064 (jl K p_12.2) 13 [(0, .ref (K.2.2 + 0)), (1, .ref (K.2.2 + 43))] [.int p_12.1]
    refine J_iconst (v := 3) C (by decide) dL_draws_13 rfl ?_
    refine J_irem C (by decide) dL_draws_14 rfl ?_
    refine J_goto (t := 25) C dL_draws_15 (by decide) ?_
    exact hj_25 p_12.2 (p_12.1 - p_12.1 / (3 : Int32) * (3 : Int32)) h
set_option maxHeartbeats 4000000 in
set_option maxRecDepth 100000 in
theorem kL_sees {l : Launch} {K : JK} (hl : l.stackTraces = false) {τ : LawS} {a1 : Nat} (h_a1 : kl a1 = 12) {Qf : LawS → Prop} (h : Ok (fL_sees τ a1) Qf) : Con l K yL_sees (.code yL_sees cL_sees 5 none :: TB) 8 0 0 False [.ref (K.2.2 + 47), .ref (K.2.2 + a1)] 2064 (jl K τ) (PL Qf (fun p => none) (fun p => jl K p)) PN := by
  refine Con.enter (own := RL) hl (by decide) rfl (Nat.le_of_ble_eq_true rfl) ?_
  intro X hX hR C hret hnt
  generalize hQQ : jQ X K 0 0 (PL Qf (fun p => none) (fun p => jl K p)) PN False = QQ
  change J X K 5 False QQ 0 0 2064 (jl K τ) 0 [(0, .ref (K.2.2 + 47)), (1, .ref (K.2.2 + a1))] []
  have hj_113 : (∀ (τ_113 : LawS) (l2_113 : Int32) (l4_113 : Int32), Ok (fL_sees_j113 a1 τ_113 l2_113 l4_113) Qf → J X K 5 False QQ 0 0 2064 (jl K τ_113) 113 [(0, .ref (K.2.2 + 47)), (1, .ref (K.2.2 + a1)), (2, .int l2_113), (4, .int l4_113)] []) := by
    intro τ_113 l2_113 l4_113 h
    unfold fL_sees_j113 at h
    refine loop_gen (S := LawS × Int32) (P := fun s_113 => J X K 5 False QQ 0 0 2064 (jl K s_113.1) 113 [(0, .ref (K.2.2 + 47)), (1, .ref (K.2.2 + a1)), (2, .int l2_113), (4, .int s_113.2)] []) ?_ FU (τ_113, l4_113) (Ok.ofbnd h)
    intro B_113 hB_113 hE_113 s_113 h
    obtain ⟨τ_113, l4_113⟩ := s_113
    have h : Ok (fL_sees_b113 a1 τ_113 l2_113 l4_113) B_113 := h
    change J X K 5 False QQ 0 0 2064 (jl K τ_113) 113 [(0, .ref (K.2.2 + 47)), (1, .ref (K.2.2 + a1)), (2, .int l2_113), (4, .int l4_113)] []
    unfold fL_sees_b113 at h
    refine J_iload (i := 4) (p := 3) C dL_sees_113 rfl rfl ?_
    refine J_iload_n (i := 2) (p := 2) C dL_sees_115 rfl rfl rfl ?_
    refine J_icmp_ge (t := 139) C dL_sees_116 (by decide) rfl (fun c_1 => ?_) (fun c_1 => ?_)
    · have h := h.pos c_1
      have h := hE_113 τ_113 h.osome
      try dsimp only at h
      rw [← hQQ]
      exact J_vret C hret (Nat.le_of_ble_eq_true rfl) (Nat.le_of_ble_eq_true rfl) ⟨_, h.osome, rfl, rfl, rfl⟩ dL_sees_139
    · have h := h.neg c_1
      refine J_aload_n (i := 1) (p := 1) C dL_sees_119 rfl rfl rfl ?_
      refine J_sipush (v := 400) C (by decide) dL_sees_120 rfl ?_
      refine J_iload (i := 4) (p := 3) C dL_sees_123 rfl rfl ?_
      refine J_iadd C dL_sees_125 rfl ?_
      refine J_aload_n (i := 0) (p := 0) C dL_sees_126 rfl rfl rfl ?_
      refine J_iload (i := 4) (p := 3) C dL_sees_127 rfl rfl ?_
      refine Jl_cV (α := Int32 × Sto) (rest := [.int ((400 : Int32) + l4_113), .ref (K.2.2 + a1)]) (st9 := fun p_2 => [.int p_2.1, .int ((400 : Int32) + l4_113), .ref (K.2.2 + a1)]) (wd := fun p_2 => p_2.2) C hR hX cv_RL_106 (k11_letterAt_n hl (Ok.ofnox h) (fun c hc => hc)) rfl rfl (Nat.le_of_ble_eq_true rfl) (Nat.le_of_ble_eq_true rfl) (Nat.le_of_ble_eq_true rfl) ⟨(Nat.le_of_ble_eq_true rfl), (Nat.le_of_ble_eq_true rfl)⟩ dL_sees_129 rfl (fun E n9 w9 hx => hx.elim) (fun _ => rfl) (fun p_2 h => ?_)
      have h : Ok _ _ := h
      change J X K 5 False QQ 0 0 2064 (jl K (τ_113.1, p_2.2)) 132 [(0, .ref (K.2.2 + 47)), (1, .ref (K.2.2 + a1)), (2, .int l2_113), (4, .int l4_113)] [.int p_2.1, .int ((400 : Int32) + l4_113), .ref (K.2.2 + a1)]
      obtain ⟨g_3, h⟩ := Ok.ofgd h
      obtain ⟨τx_1, e_τx_1, h⟩ := Ok.nm h
      refine Jl_iast C id h_a1 rfl g_3 e_τx_1 dL_sees_132 rfl ?_
      obtain ⟨x4_2, e_x4_2, h⟩ := Ok.nm h
      refine J_iincE (i := 4) (p := 3) (lv' := [(4, .int x4_2), (0, .ref (K.2.2 + 47)), (1, .ref (K.2.2 + a1)), (2, .int l2_113)]) C e_x4_2 dL_sees_133 rfl (by decide) (Nat.le_of_ble_eq_true rfl) rfl rfl ?_
      refine J_goto (t := 113) C dL_sees_136 (by decide) ?_
      refine J.sub [1, 2, 3, 0] rfl ?_
      exact hB_113 (τx_1, x4_2) h.osome
  have hj_82 : (∀ (τ_82 : LawS) (l2_82 : Int32) (l3_82 : Int32) (l4_82 : Int32), Ok (fL_sees_j82 a1 τ_82 l2_82 l3_82 l4_82) Qf → J X K 5 False QQ 0 0 2064 (jl K τ_82) 82 [(0, .ref (K.2.2 + 47)), (1, .ref (K.2.2 + a1)), (2, .int l2_82), (3, .int l3_82), (4, .int l4_82)] []) := by
    intro τ_82 l2_82 l3_82 l4_82 h
    unfold fL_sees_j82 at h
    refine loop_gen (S := LawS × Int32) (P := fun s_82 => J X K 5 False QQ 0 0 2064 (jl K s_82.1) 82 [(0, .ref (K.2.2 + 47)), (1, .ref (K.2.2 + a1)), (2, .int l2_82), (3, .int l3_82), (4, .int s_82.2)] []) ?_ FU (τ_82, l4_82) (Ok.ofbnd h)
    intro B_82 hB_82 hE_82 s_82 h
    obtain ⟨τ_82, l4_82⟩ := s_82
    have h : Ok (fL_sees_b82 a1 τ_82 l2_82 l3_82 l4_82) B_82 := h
    change J X K 5 False QQ 0 0 2064 (jl K τ_82) 82 [(0, .ref (K.2.2 + 47)), (1, .ref (K.2.2 + a1)), (2, .int l2_82), (3, .int l3_82), (4, .int l4_82)] []
    unfold fL_sees_b82 at h
    refine J_iload (i := 4) (p := 4) C dL_sees_82 rfl rfl ?_
    refine J_iload_n (i := 3) (p := 3) C dL_sees_84 rfl rfl rfl ?_
    refine J_icmp_ge (t := 110) C dL_sees_85 (by decide) rfl (fun c_4 => ?_) (fun c_4 => ?_)
    · have h := h.pos c_4
      have h := hE_82 τ_82 h.osome
      try dsimp only at h
      refine J_iconst (v := 0) C (by decide) dL_sees_110 rfl ?_
      obtain ⟨x4_3, e_x4_3, h⟩ := Ok.nm h
      refine J_istoreE (i := 4) (lv' := [(4, .int x4_3), (0, .ref (K.2.2 + 47)), (1, .ref (K.2.2 + a1)), (2, .int l2_82), (3, .int l3_82)]) C e_x4_3 dL_sees_111 (Nat.le_of_ble_eq_true rfl) rfl rfl ?_
      refine J.sub [1, 2, 3, 0] rfl ?_
      exact hj_113 τ_82 l2_82 x4_3 h
    · have h := h.neg c_4
      refine J_aload_n (i := 1) (p := 1) C dL_sees_88 rfl rfl rfl ?_
      refine J_bipush (v := 30) C (by decide) dL_sees_89 rfl ?_
      refine J_iload (i := 4) (p := 4) C dL_sees_91 rfl rfl ?_
      refine J_iadd C dL_sees_93 rfl ?_
      refine J_aload_n (i := 0) (p := 0) C dL_sees_94 rfl rfl rfl ?_
      refine J_iload (i := 4) (p := 4) C dL_sees_95 rfl rfl ?_
      refine Jl_cV (α := Int32 × Sto) (rest := [.int ((30 : Int32) + l4_82), .ref (K.2.2 + a1)]) (st9 := fun p_5 => [.int p_5.1, .int ((30 : Int32) + l4_82), .ref (K.2.2 + a1)]) (wd := fun p_5 => p_5.2) C hR hX cv_RL_147 (k11_isHidden_n hl (Ok.ofnox h) (fun c hc => hc)) rfl rfl (Nat.le_of_ble_eq_true rfl) (Nat.le_of_ble_eq_true rfl) (Nat.le_of_ble_eq_true rfl) ⟨(Nat.le_of_ble_eq_true rfl), (Nat.le_of_ble_eq_true rfl)⟩ dL_sees_97 rfl (fun E n9 w9 hx => hx.elim) (fun _ => rfl) (fun p_5 h => ?_)
      have h : Ok _ _ := h
      change J X K 5 False QQ 0 0 2064 (jl K (τ_82.1, p_5.2)) 100 [(0, .ref (K.2.2 + 47)), (1, .ref (K.2.2 + a1)), (2, .int l2_82), (3, .int l3_82), (4, .int l4_82)] [.int p_5.1, .int ((30 : Int32) + l4_82), .ref (K.2.2 + a1)]
      refine Jl_cS (α := Int32) (rest := [.int ((30 : Int32) + l4_82), .ref (K.2.2 + a1)]) (st9 := fun p_6 => [.int p_6, .int ((30 : Int32) + l4_82), .ref (K.2.2 + a1)]) C hR hX cs_RL_63 (kL_one hl  (Ok.ofbnd h)) rfl rfl (Nat.le_of_ble_eq_true rfl) (Nat.le_of_ble_eq_true rfl) (Nat.le_of_ble_eq_true rfl) ⟨(Nat.le_of_ble_eq_true rfl), (Nat.le_of_ble_eq_true rfl)⟩ dL_sees_100 rfl (fun _ => rfl) (fun p_6 h => ?_)
      have h : Ok _ _ := h
      change J X K 5 False QQ 0 0 2064 (jl K (τ_82.1, p_5.2)) 103 [(0, .ref (K.2.2 + 47)), (1, .ref (K.2.2 + a1)), (2, .int l2_82), (3, .int l3_82), (4, .int l4_82)] [.int p_6, .int ((30 : Int32) + l4_82), .ref (K.2.2 + a1)]
      obtain ⟨g_7, h⟩ := Ok.ofgd h
      obtain ⟨τx_4, e_τx_4, h⟩ := Ok.nm h
      refine Jl_iast C id h_a1 rfl g_7 e_τx_4 dL_sees_103 rfl ?_
      obtain ⟨x4_5, e_x4_5, h⟩ := Ok.nm h
      refine J_iincE (i := 4) (p := 4) (lv' := [(4, .int x4_5), (0, .ref (K.2.2 + 47)), (1, .ref (K.2.2 + a1)), (2, .int l2_82), (3, .int l3_82)]) C e_x4_5 dL_sees_104 rfl (by decide) (Nat.le_of_ble_eq_true rfl) rfl rfl ?_
      refine J_goto (t := 82) C dL_sees_107 (by decide) ?_
      refine J.sub [1, 2, 3, 4, 0] rfl ?_
      exact hB_82 (τx_4, x4_5) h.osome
  have hj_45 : (∀ (τ_45 : LawS) (l2_45 : Int32) (l3_45 : Int32), Ok (fL_sees_j45 a1 τ_45 l2_45 l3_45) Qf → J X K 5 False QQ 0 0 2064 (jl K τ_45) 45 [(0, .ref (K.2.2 + 47)), (1, .ref (K.2.2 + a1)), (2, .int l2_45), (3, .int l3_45)] []) := by
    intro τ_45 l2_45 l3_45 h
    unfold fL_sees_j45 at h
    refine loop_gen (S := LawS × Int32) (P := fun s_45 => J X K 5 False QQ 0 0 2064 (jl K s_45.1) 45 [(0, .ref (K.2.2 + 47)), (1, .ref (K.2.2 + a1)), (2, .int l2_45), (3, .int s_45.2)] []) ?_ FU (τ_45, l3_45) (Ok.ofbnd h)
    intro B_45 hB_45 hE_45 s_45 h
    obtain ⟨τ_45, l3_45⟩ := s_45
    have h : Ok (fL_sees_b45 a1 τ_45 l2_45 l3_45) B_45 := h
    change J X K 5 False QQ 0 0 2064 (jl K τ_45) 45 [(0, .ref (K.2.2 + 47)), (1, .ref (K.2.2 + a1)), (2, .int l2_45), (3, .int l3_45)] []
    unfold fL_sees_b45 at h
    refine J_iload_n (i := 3) (p := 3) C dL_sees_45 rfl rfl rfl ?_
    refine J_bipush (v := 16) C (by decide) dL_sees_46 rfl ?_
    refine J_icmp_ge (t := 68) C dL_sees_48 (by decide) rfl (fun c_8 => ?_) (fun c_8 => ?_)
    · have h := h.pos c_8
      have h := hE_45 τ_45 h.osome
      try dsimp only at h
      refine J_aload_n (i := 0) (p := 0) C dL_sees_68 rfl rfl rfl ?_
      refine J_iconst (v := 1) C (by decide) dL_sees_69 rfl ?_
      refine Jl_cV (α := Int32 × Sto) (rest := []) (st9 := fun p_9 => [.int p_9.1]) (wd := fun p_9 => p_9.2) C hR hX cv_RL_134 (k11_count_n hl (Ok.ofnox h) (fun c hc => hc)) rfl rfl (Nat.le_of_ble_eq_true rfl) (Nat.le_of_ble_eq_true rfl) (Nat.le_of_ble_eq_true rfl) ⟨(Nat.le_of_ble_eq_true rfl), (Nat.le_of_ble_eq_true rfl)⟩ dL_sees_70 rfl (fun E n9 w9 hx => hx.elim) (fun _ => rfl) (fun p_9 h => ?_)
      have h : Ok _ _ := h
      change J X K 5 False QQ 0 0 2064 (jl K (τ_45.1, p_9.2)) 73 [(0, .ref (K.2.2 + 47)), (1, .ref (K.2.2 + a1)), (2, .int l2_45), (3, .int l3_45)] [.int p_9.1]
      obtain ⟨x3_7, e_x3_7, h⟩ := Ok.nm h
      refine J_istoreE_n (i := 3) (lv' := [(3, .int x3_7), (0, .ref (K.2.2 + 47)), (1, .ref (K.2.2 + a1)), (2, .int l2_45)]) C e_x3_7 dL_sees_73 rfl (Nat.le_of_ble_eq_true rfl) rfl rfl ?_
      refine J_aload_n (i := 1) (p := 2) C dL_sees_74 rfl rfl rfl ?_
      refine J_bipush (v := 26) C (by decide) dL_sees_75 rfl ?_
      refine J_iload_n (i := 3) (p := 0) C dL_sees_77 rfl rfl rfl ?_
      obtain ⟨g_10, h⟩ := Ok.ofgd h
      obtain ⟨τx_8, e_τx_8, h⟩ := Ok.nm h
      refine Jl_iast C id h_a1 rfl g_10 e_τx_8 dL_sees_78 rfl ?_
      refine J_iconst (v := 0) C (by decide) dL_sees_79 rfl ?_
      obtain ⟨x4_9, e_x4_9, h⟩ := Ok.nm h
      refine J_istoreE (i := 4) (lv' := [(4, .int x4_9), (3, .int x3_7), (0, .ref (K.2.2 + 47)), (1, .ref (K.2.2 + a1)), (2, .int l2_45)]) C e_x4_9 dL_sees_80 (Nat.le_of_ble_eq_true rfl) rfl rfl ?_
      refine J.sub [2, 3, 4, 1, 0] rfl ?_
      exact hj_82 τx_8 l2_45 x3_7 x4_9 h
    · have h := h.neg c_8
      refine J_aload_n (i := 1) (p := 1) C dL_sees_51 rfl rfl rfl ?_
      refine J_bipush (v := 10) C (by decide) dL_sees_52 rfl ?_
      refine J_iload_n (i := 3) (p := 3) C dL_sees_54 rfl rfl rfl ?_
      refine J_iadd C dL_sees_55 rfl ?_
      refine J_aload_n (i := 0) (p := 0) C dL_sees_56 rfl rfl rfl ?_
      refine J_iload_n (i := 3) (p := 3) C dL_sees_57 rfl rfl rfl ?_
      refine Jl_cV (α := Int32 × Sto) (rest := [.int ((10 : Int32) + l3_45), .ref (K.2.2 + a1)]) (st9 := fun p_11 => [.int p_11.1, .int ((10 : Int32) + l3_45), .ref (K.2.2 + a1)]) (wd := fun p_11 => p_11.2) C hR hX cv_RL_144 (k11_markAt_n hl (Ok.ofnox h) (fun c hc => hc)) rfl rfl (Nat.le_of_ble_eq_true rfl) (Nat.le_of_ble_eq_true rfl) (Nat.le_of_ble_eq_true rfl) ⟨(Nat.le_of_ble_eq_true rfl), (Nat.le_of_ble_eq_true rfl)⟩ dL_sees_58 rfl (fun E n9 w9 hx => hx.elim) (fun _ => rfl) (fun p_11 h => ?_)
      have h : Ok _ _ := h
      change J X K 5 False QQ 0 0 2064 (jl K (τ_45.1, p_11.2)) 61 [(0, .ref (K.2.2 + 47)), (1, .ref (K.2.2 + a1)), (2, .int l2_45), (3, .int l3_45)] [.int p_11.1, .int ((10 : Int32) + l3_45), .ref (K.2.2 + a1)]
      obtain ⟨g_12, h⟩ := Ok.ofgd h
      obtain ⟨τx_10, e_τx_10, h⟩ := Ok.nm h
      refine Jl_iast C id h_a1 rfl g_12 e_τx_10 dL_sees_61 rfl ?_
      obtain ⟨x3_11, e_x3_11, h⟩ := Ok.nm h
      refine J_iincE (i := 3) (p := 3) (lv' := [(3, .int x3_11), (0, .ref (K.2.2 + 47)), (1, .ref (K.2.2 + a1)), (2, .int l2_45)]) C e_x3_11 dL_sees_62 rfl (by decide) (Nat.le_of_ble_eq_true rfl) rfl rfl ?_
      refine J_goto (t := 45) C dL_sees_65 (by decide) ?_
      refine J.sub [1, 2, 3, 0] rfl ?_
      exact hB_45 (τx_10, x3_11) h.osome
  have hj_20 : (∀ (τ_20 : LawS) (l2_20 : Int32) (l3_20 : Int32), Ok (fL_sees_j20 a1 τ_20 l2_20 l3_20) Qf → J X K 5 False QQ 0 0 2064 (jl K τ_20) 20 [(0, .ref (K.2.2 + 47)), (1, .ref (K.2.2 + a1)), (2, .int l2_20), (3, .int l3_20)] []) := by
    intro τ_20 l2_20 l3_20 h
    unfold fL_sees_j20 at h
    refine loop_gen (S := LawS × Int32) (P := fun s_20 => J X K 5 False QQ 0 0 2064 (jl K s_20.1) 20 [(0, .ref (K.2.2 + 47)), (1, .ref (K.2.2 + a1)), (2, .int l2_20), (3, .int s_20.2)] []) ?_ FU (τ_20, l3_20) (Ok.ofbnd h)
    intro B_20 hB_20 hE_20 s_20 h
    obtain ⟨τ_20, l3_20⟩ := s_20
    have h : Ok (fL_sees_b20 a1 τ_20 l2_20 l3_20) B_20 := h
    change J X K 5 False QQ 0 0 2064 (jl K τ_20) 20 [(0, .ref (K.2.2 + 47)), (1, .ref (K.2.2 + a1)), (2, .int l2_20), (3, .int l3_20)] []
    unfold fL_sees_b20 at h
    refine J_iload_n (i := 3) (p := 3) C dL_sees_20 rfl rfl rfl ?_
    refine J_aload_n (i := 1) (p := 1) C dL_sees_21 rfl rfl rfl ?_
    refine J_iconst (v := 1) C (by decide) dL_sees_22 rfl ?_
    obtain ⟨g_15, h⟩ := Ok.ofgd h
    refine Jl_iald C h_a1 rfl g_15 dL_sees_23 rfl ?_
    refine J_icmp_ge (t := 43) C dL_sees_24 (by decide) rfl (fun c_16 => ?_) (fun c_16 => ?_)
    · have h := h.pos c_16
      have h := hE_20 τ_20 h.osome
      try dsimp only at h
      refine J_iconst (v := 0) C (by decide) dL_sees_43 rfl ?_
      obtain ⟨x3_15, e_x3_15, h⟩ := Ok.nm h
      refine J_istoreE_n (i := 3) (lv' := [(3, .int x3_15), (0, .ref (K.2.2 + 47)), (1, .ref (K.2.2 + a1)), (2, .int l2_20)]) C e_x3_15 dL_sees_44 rfl (Nat.le_of_ble_eq_true rfl) rfl rfl ?_
      refine J.sub [1, 2, 3, 0] rfl ?_
      exact hj_45 τ_20 l2_20 x3_15 h
    · have h := h.neg c_16
      refine J_aload_n (i := 1) (p := 1) C dL_sees_27 rfl rfl rfl ?_
      refine J_iconst (v := 2) C (by decide) dL_sees_28 rfl ?_
      refine J_iload_n (i := 3) (p := 3) C dL_sees_29 rfl rfl rfl ?_
      refine J_iadd C dL_sees_30 rfl ?_
      refine J_aload_n (i := 0) (p := 0) C dL_sees_31 rfl rfl rfl ?_
      refine J_iload_n (i := 3) (p := 3) C dL_sees_32 rfl rfl rfl ?_
      refine Jl_cV (α := Int32 × Sto) (rest := [.int ((2 : Int32) + l3_20), .ref (K.2.2 + a1)]) (st9 := fun p_17 => [.int p_17.1, .int ((2 : Int32) + l3_20), .ref (K.2.2 + a1)]) (wd := fun p_17 => p_17.2) C hR hX cv_RL_141 (k11_cursorAt_n hl (Ok.ofnox h) (fun c hc => hc)) rfl rfl (Nat.le_of_ble_eq_true rfl) (Nat.le_of_ble_eq_true rfl) (Nat.le_of_ble_eq_true rfl) ⟨(Nat.le_of_ble_eq_true rfl), (Nat.le_of_ble_eq_true rfl)⟩ dL_sees_33 rfl (fun E n9 w9 hx => hx.elim) (fun _ => rfl) (fun p_17 h => ?_)
      have h : Ok _ _ := h
      change J X K 5 False QQ 0 0 2064 (jl K (τ_20.1, p_17.2)) 36 [(0, .ref (K.2.2 + 47)), (1, .ref (K.2.2 + a1)), (2, .int l2_20), (3, .int l3_20)] [.int p_17.1, .int ((2 : Int32) + l3_20), .ref (K.2.2 + a1)]
      obtain ⟨g_18, h⟩ := Ok.ofgd h
      obtain ⟨τx_16, e_τx_16, h⟩ := Ok.nm h
      refine Jl_iast C id h_a1 rfl g_18 e_τx_16 dL_sees_36 rfl ?_
      obtain ⟨x3_17, e_x3_17, h⟩ := Ok.nm h
      refine J_iincE (i := 3) (p := 3) (lv' := [(3, .int x3_17), (0, .ref (K.2.2 + 47)), (1, .ref (K.2.2 + a1)), (2, .int l2_20)]) C e_x3_17 dL_sees_37 rfl (by decide) (Nat.le_of_ble_eq_true rfl) rfl rfl ?_
      refine J_goto (t := 20) C dL_sees_40 (by decide) ?_
      refine J.sub [1, 2, 3, 0] rfl ?_
      exact hB_20 (τx_16, x3_17) h.osome
  unfold fL_sees at h
  refine J_aload_n (i := 0) (p := 0) C dL_sees_0 rfl rfl rfl ?_
  refine J_iconst (v := 0) C (by decide) dL_sees_1 rfl ?_
  refine Jl_cV (α := Int32 × Sto) (rest := []) (st9 := fun p_19 => [.int p_19.1]) (wd := fun p_19 => p_19.2) C hR hX cv_RL_134 (k11_count_n hl (Ok.ofnox h) (fun c hc => hc)) rfl rfl (Nat.le_of_ble_eq_true rfl) (Nat.le_of_ble_eq_true rfl) (Nat.le_of_ble_eq_true rfl) ⟨(Nat.le_of_ble_eq_true rfl), (Nat.le_of_ble_eq_true rfl)⟩ dL_sees_2 rfl (fun E n9 w9 hx => hx.elim) (fun _ => rfl) (fun p_19 h => ?_)
  have h : Ok _ _ := h
  change J X K 5 False QQ 0 0 2064 (jl K (τ.1, p_19.2)) 5 [(0, .ref (K.2.2 + 47)), (1, .ref (K.2.2 + a1))] [.int p_19.1]
  obtain ⟨x2_19, e_x2_19, h⟩ := Ok.nm h
  refine J_istoreE_n (i := 2) (lv' := [(2, .int x2_19), (0, .ref (K.2.2 + 47)), (1, .ref (K.2.2 + a1))]) C e_x2_19 dL_sees_5 rfl (Nat.le_of_ble_eq_true rfl) rfl rfl ?_
  refine J_aload_n (i := 1) (p := 2) C dL_sees_6 rfl rfl rfl ?_
  refine J_iconst (v := 0) C (by decide) dL_sees_7 rfl ?_
  refine J_iload_n (i := 2) (p := 0) C dL_sees_8 rfl rfl rfl ?_
  obtain ⟨g_20, h⟩ := Ok.ofgd h
  obtain ⟨τx_20, e_τx_20, h⟩ := Ok.nm h
  refine Jl_iast C id h_a1 rfl g_20 e_τx_20 dL_sees_9 rfl ?_
  refine J_aload_n (i := 1) (p := 2) C dL_sees_10 rfl rfl rfl ?_
  refine J_iconst (v := 1) C (by decide) dL_sees_11 rfl ?_
  refine J_aload_n (i := 0) (p := 1) C dL_sees_12 rfl rfl rfl ?_
  refine J_iconst (v := 2) C (by decide) dL_sees_13 rfl ?_
  refine Jl_cV (α := Int32 × Sto) (rest := [.int (1 : Int32), .ref (K.2.2 + a1)]) (st9 := fun p_21 => [.int p_21.1, .int (1 : Int32), .ref (K.2.2 + a1)]) (wd := fun p_21 => p_21.2) C hR hX cv_RL_134 (k11_count_n hl (Ok.ofnox h) (fun c hc => hc)) rfl rfl (Nat.le_of_ble_eq_true rfl) (Nat.le_of_ble_eq_true rfl) (Nat.le_of_ble_eq_true rfl) ⟨(Nat.le_of_ble_eq_true rfl), (Nat.le_of_ble_eq_true rfl)⟩ dL_sees_14 rfl (fun E n9 w9 hx => hx.elim) (fun _ => rfl) (fun p_21 h => ?_)
  have h : Ok _ _ := h
  change J X K 5 False QQ 0 0 2064 (jl K (τx_20.1, p_21.2)) 17 [(2, .int x2_19), (0, .ref (K.2.2 + 47)), (1, .ref (K.2.2 + a1))] [.int p_21.1, .int (1 : Int32), .ref (K.2.2 + a1)]
  obtain ⟨g_22, h⟩ := Ok.ofgd h
  obtain ⟨τx_21, e_τx_21, h⟩ := Ok.nm h
  refine Jl_iast C id h_a1 rfl g_22 e_τx_21 dL_sees_17 rfl ?_
  refine J_iconst (v := 0) C (by decide) dL_sees_18 rfl ?_
  obtain ⟨x3_22, e_x3_22, h⟩ := Ok.nm h
  refine J_istoreE_n (i := 3) (lv' := [(3, .int x3_22), (2, .int x2_19), (0, .ref (K.2.2 + 47)), (1, .ref (K.2.2 + a1))]) C e_x3_22 dL_sees_19 rfl (Nat.le_of_ble_eq_true rfl) rfl rfl ?_
  refine J.sub [2, 3, 1, 0] rfl ?_
  exact hj_20 τx_21 x2_19 x3_22 h
set_option maxHeartbeats 4000000 in
set_option maxRecDepth 100000 in
theorem kL_isLike {l : Launch} {K : JK} (hl : l.stackTraces = false) {τ : LawS} {a1 : Nat} (h_a1 : kl a1 = 12) {Qf : Int32 × LawS → Prop} (h : Ok (fL_isLike τ a1) Qf) : Con l K yL_isLike (.code yL_isLike cL_isLike 4 (some .boolean) :: TB) 9 0 0 False [.ref (K.2.2 + 47), .ref (K.2.2 + a1), .ref (K.2.2 + 42)] 2064 (jl K τ) (PL Qf (fun p => some (.int p.1)) (fun p => jl K p.2)) PN := by
  refine Con.enter (own := RL) hl (by decide) rfl (Nat.le_of_ble_eq_true rfl) ?_
  intro X hX hR C hret hnt
  generalize hQQ : jQ X K 0 0 (PL Qf (fun p => some (.int p.1)) (fun p => jl K p.2)) PN False = QQ
  change J X K 4 False QQ 0 0 2064 (jl K τ) 0 [(0, .ref (K.2.2 + 47)), (1, .ref (K.2.2 + a1)), (2, .ref (K.2.2 + 42))] []
  have hj_115 : (∀ (τ_115 : LawS) (l3_115 : Int32), Ok (fL_isLike_j115 a1 τ_115 l3_115) Qf → J X K 4 False QQ 0 0 2064 (jl K τ_115) 115 [(1, .ref (K.2.2 + a1)), (2, .ref (K.2.2 + 42)), (3, .int l3_115)] []) := by
    intro τ_115 l3_115 h
    unfold fL_isLike_j115 at h
    refine loop_gen (S := Int32) (P := fun s_115 => J X K 4 False QQ 0 0 2064 (jl K τ_115) 115 [(1, .ref (K.2.2 + a1)), (2, .ref (K.2.2 + 42)), (3, .int s_115)] []) ?_ FU l3_115 (Ok.ofbnd h)
    intro B_115 hB_115 hE_115 s_115 h
    generalize s_115 = l3_115 at h ⊢
    have h : Ok (fL_isLike_b115 a1 τ_115 l3_115) B_115 := h
    change J X K 4 False QQ 0 0 2064 (jl K τ_115) 115 [(1, .ref (K.2.2 + a1)), (2, .ref (K.2.2 + 42)), (3, .int l3_115)] []
    unfold fL_isLike_b115 at h
    refine J_iload_n (i := 3) (p := 2) C dL_isLike_115 rfl rfl rfl ?_
    refine J_aload_n (i := 1) (p := 0) C dL_isLike_116 rfl rfl rfl ?_
    refine J_iconst (v := 0) C (by decide) dL_isLike_117 rfl ?_
    obtain ⟨g_1, h⟩ := Ok.ofgd h
    refine Jl_iald C h_a1 rfl g_1 dL_isLike_118 rfl ?_
    refine J_icmp_ge (t := 147) C dL_isLike_119 (by decide) rfl (fun c_2 => ?_) (fun c_2 => ?_)
    · have h := h.pos c_2
      have h := hE_115 (Sum.inl ()) h.osome
      try dsimp only at h
      refine J_iconst (v := 1) C (by decide) dL_isLike_147 rfl ?_
      rw [← hQQ]
      exact J_zret C hret rfl (Nat.le_of_ble_eq_true rfl) (Nat.le_of_ble_eq_true rfl) ⟨_, h.osome, rfl, rfl, rfl⟩ dL_isLike_148
    · have h := h.neg c_2
      refine J_aload_n (i := 2) (p := 1) C dL_isLike_122 rfl rfl rfl ?_
      refine J_sipush (v := 400) C (by decide) dL_isLike_123 rfl ?_
      refine J_iload_n (i := 3) (p := 2) C dL_isLike_126 rfl rfl rfl ?_
      refine J_iadd C dL_isLike_127 rfl ?_
      obtain ⟨g_3, h⟩ := Ok.ofgd h
      refine Jl_iald C rfl rfl g_3 dL_isLike_128 rfl ?_
      refine J_aload_n (i := 1) (p := 0) C dL_isLike_129 rfl rfl rfl ?_
      refine J_sipush (v := 400) C (by decide) dL_isLike_130 rfl ?_
      refine J_iload_n (i := 3) (p := 2) C dL_isLike_133 rfl rfl rfl ?_
      refine J_iadd C dL_isLike_134 rfl ?_
      obtain ⟨g_4, h⟩ := Ok.ofgd h
      refine Jl_iald C h_a1 rfl g_4 dL_isLike_135 rfl ?_
      refine J_icmp_eq (t := 141) C dL_isLike_136 (by decide) rfl (fun c_5 => ?_) (fun c_5 => ?_)
      · have h := h.pos c_5
        obtain ⟨x3_1, e_x3_1, h⟩ := Ok.nm h
        refine J_iincE (i := 3) (p := 2) (lv' := [(3, .int x3_1), (1, .ref (K.2.2 + a1)), (2, .ref (K.2.2 + 42))]) C e_x3_1 dL_isLike_141 rfl (by decide) (Nat.le_of_ble_eq_true rfl) rfl rfl ?_
        refine J_goto (t := 115) C dL_isLike_144 (by decide) ?_
        refine J.sub [1, 2, 0] rfl ?_
        exact hB_115 x3_1 h.osome
      · have h := h.neg c_5
        have h := hE_115 (Sum.inr ()) h.osome
        try dsimp only at h
        refine J_iconst (v := 0) C (by decide) dL_isLike_139 rfl ?_
        rw [← hQQ]
        exact J_zret C hret rfl (Nat.le_of_ble_eq_true rfl) (Nat.le_of_ble_eq_true rfl) ⟨_, h.osome, rfl, rfl, rfl⟩ dL_isLike_140
  have hj_67 : (∀ (τ_67 : LawS) (l3_67 : Int32), Ok (fL_isLike_j67 a1 τ_67 l3_67) Qf → J X K 4 False QQ 0 0 2064 (jl K τ_67) 67 [(1, .ref (K.2.2 + a1)), (2, .ref (K.2.2 + 42)), (3, .int l3_67)] []) := by
    intro τ_67 l3_67 h
    unfold fL_isLike_j67 at h
    refine loop_gen (S := Int32) (P := fun s_67 => J X K 4 False QQ 0 0 2064 (jl K τ_67) 67 [(1, .ref (K.2.2 + a1)), (2, .ref (K.2.2 + 42)), (3, .int s_67)] []) ?_ FU l3_67 (Ok.ofbnd h)
    intro B_67 hB_67 hE_67 s_67 h
    generalize s_67 = l3_67 at h ⊢
    have h : Ok (fL_isLike_b67 a1 τ_67 l3_67) B_67 := h
    change J X K 4 False QQ 0 0 2064 (jl K τ_67) 67 [(1, .ref (K.2.2 + a1)), (2, .ref (K.2.2 + 42)), (3, .int l3_67)] []
    have hj_107 : (∀ (l3_107 : Int32), Ok (fL_isLike_j107 a1 τ_67 l3_107) B_67 → J X K 4 False QQ 0 0 2064 (jl K τ_67) 107 [(1, .ref (K.2.2 + a1)), (2, .ref (K.2.2 + 42)), (3, .int l3_107)] []) := by
      intro l3_107 h
      unfold fL_isLike_j107 at h
      obtain ⟨x3_2, e_x3_2, h⟩ := Ok.nm h
      refine J_iincE (i := 3) (p := 2) (lv' := [(3, .int x3_2), (1, .ref (K.2.2 + a1)), (2, .ref (K.2.2 + 42))]) C e_x3_2 dL_isLike_107 rfl (by decide) (Nat.le_of_ble_eq_true rfl) rfl rfl ?_
      refine J_goto (t := 67) C dL_isLike_110 (by decide) ?_
      refine J.sub [1, 2, 0] rfl ?_
      exact hB_67 x3_2 h.osome
    unfold fL_isLike_b67 at h
    refine J_iload_n (i := 3) (p := 2) C dL_isLike_67 rfl rfl rfl ?_
    refine J_bipush (v := 30) C (by decide) dL_isLike_68 rfl ?_
    refine J_aload_n (i := 1) (p := 0) C dL_isLike_70 rfl rfl rfl ?_
    refine J_bipush (v := 26) C (by decide) dL_isLike_71 rfl ?_
    obtain ⟨g_6, h⟩ := Ok.ofgd h
    refine Jl_iald C h_a1 rfl g_6 dL_isLike_73 rfl ?_
    refine J_iadd C dL_isLike_74 rfl ?_
    refine J_icmp_ge (t := 113) C dL_isLike_75 (by decide) rfl (fun c_7 => ?_) (fun c_7 => ?_)
    · have h := h.pos c_7
      have h := hE_67 (Sum.inl ()) h.osome
      try dsimp only at h
      refine J_iconst (v := 0) C (by decide) dL_isLike_113 rfl ?_
      obtain ⟨x3_3, e_x3_3, h⟩ := Ok.nm h
      refine J_istoreE_n (i := 3) (lv' := [(3, .int x3_3), (1, .ref (K.2.2 + a1)), (2, .ref (K.2.2 + 42))]) C e_x3_3 dL_isLike_114 rfl (Nat.le_of_ble_eq_true rfl) rfl rfl ?_
      refine J.sub [1, 2, 0] rfl ?_
      exact hj_115 τ_67 x3_3 h
    · have h := h.neg c_7
      refine J_iload_n (i := 3) (p := 2) C dL_isLike_78 rfl rfl rfl ?_
      refine J_bipush (v := 27) C (by decide) dL_isLike_79 rfl ?_
      refine J_icmp_eq (t := 107) C dL_isLike_81 (by decide) rfl (fun c_8 => ?_) (fun c_8 => ?_)
      · have h := h.pos c_8
        exact hj_107 l3_67 h
      · have h := h.neg c_8
        refine J_iload_n (i := 3) (p := 2) C dL_isLike_84 rfl rfl rfl ?_
        refine J_bipush (v := 28) C (by decide) dL_isLike_85 rfl ?_
        refine J_icmp_eq (t := 107) C dL_isLike_87 (by decide) rfl (fun c_9 => ?_) (fun c_9 => ?_)
        · have h := h.pos c_9
          exact hj_107 l3_67 h
        · have h := h.neg c_9
          refine J_iload_n (i := 3) (p := 2) C dL_isLike_90 rfl rfl rfl ?_
          refine J_bipush (v := 29) C (by decide) dL_isLike_91 rfl ?_
          refine J_icmp_eq (t := 107) C dL_isLike_93 (by decide) rfl (fun c_10 => ?_) (fun c_10 => ?_)
          · have h := h.pos c_10
            exact hj_107 l3_67 h
          · have h := h.neg c_10
            refine J_aload_n (i := 2) (p := 1) C dL_isLike_96 rfl rfl rfl ?_
            refine J_iload_n (i := 3) (p := 2) C dL_isLike_97 rfl rfl rfl ?_
            obtain ⟨g_11, h⟩ := Ok.ofgd h
            refine Jl_iald C rfl rfl g_11 dL_isLike_98 rfl ?_
            refine J_aload_n (i := 1) (p := 0) C dL_isLike_99 rfl rfl rfl ?_
            refine J_iload_n (i := 3) (p := 2) C dL_isLike_100 rfl rfl rfl ?_
            obtain ⟨g_12, h⟩ := Ok.ofgd h
            refine Jl_iald C h_a1 rfl g_12 dL_isLike_101 rfl ?_
            refine J_icmp_eq (t := 107) C dL_isLike_102 (by decide) rfl (fun c_13 => ?_) (fun c_13 => ?_)
            · have h := h.pos c_13
              exact hj_107 l3_67 h
            · have h := h.neg c_13
              have h := hE_67 (Sum.inr ()) h.osome
              try dsimp only at h
              refine J_iconst (v := 0) C (by decide) dL_isLike_105 rfl ?_
              rw [← hQQ]
              exact J_zret C hret rfl (Nat.le_of_ble_eq_true rfl) (Nat.le_of_ble_eq_true rfl) ⟨_, h.osome, rfl, rfl, rfl⟩ dL_isLike_106
  have hj_38 : (∀ (τ_38 : LawS) (l3_38 : Int32), Ok (fL_isLike_j38 a1 τ_38 l3_38) Qf → J X K 4 False QQ 0 0 2064 (jl K τ_38) 38 [(1, .ref (K.2.2 + a1)), (2, .ref (K.2.2 + 42)), (3, .int l3_38)] []) := by
    intro τ_38 l3_38 h
    unfold fL_isLike_j38 at h
    refine loop_gen (S := Int32) (P := fun s_38 => J X K 4 False QQ 0 0 2064 (jl K τ_38) 38 [(1, .ref (K.2.2 + a1)), (2, .ref (K.2.2 + 42)), (3, .int s_38)] []) ?_ FU l3_38 (Ok.ofbnd h)
    intro B_38 hB_38 hE_38 s_38 h
    generalize s_38 = l3_38 at h ⊢
    have h : Ok (fL_isLike_b38 a1 τ_38 l3_38) B_38 := h
    change J X K 4 False QQ 0 0 2064 (jl K τ_38) 38 [(1, .ref (K.2.2 + a1)), (2, .ref (K.2.2 + 42)), (3, .int l3_38)] []
    unfold fL_isLike_b38 at h
    refine J_iload_n (i := 3) (p := 2) C dL_isLike_38 rfl rfl rfl ?_
    refine J_iconst (v := 2) C (by decide) dL_isLike_39 rfl ?_
    refine J_aload_n (i := 1) (p := 0) C dL_isLike_40 rfl rfl rfl ?_
    refine J_iconst (v := 1) C (by decide) dL_isLike_41 rfl ?_
    obtain ⟨g_14, h⟩ := Ok.ofgd h
    refine Jl_iald C h_a1 rfl g_14 dL_isLike_42 rfl ?_
    refine J_iadd C dL_isLike_43 rfl ?_
    refine J_icmp_ge (t := 64) C dL_isLike_44 (by decide) rfl (fun c_15 => ?_) (fun c_15 => ?_)
    · have h := h.pos c_15
      have h := hE_38 (Sum.inl ()) h.osome
      try dsimp only at h
      refine J_bipush (v := 10) C (by decide) dL_isLike_64 rfl ?_
      obtain ⟨x3_5, e_x3_5, h⟩ := Ok.nm h
      refine J_istoreE_n (i := 3) (lv' := [(3, .int x3_5), (1, .ref (K.2.2 + a1)), (2, .ref (K.2.2 + 42))]) C e_x3_5 dL_isLike_66 rfl (Nat.le_of_ble_eq_true rfl) rfl rfl ?_
      refine J.sub [1, 2, 0] rfl ?_
      exact hj_67 τ_38 x3_5 h
    · have h := h.neg c_15
      refine J_aload_n (i := 2) (p := 1) C dL_isLike_47 rfl rfl rfl ?_
      refine J_iload_n (i := 3) (p := 2) C dL_isLike_48 rfl rfl rfl ?_
      obtain ⟨g_16, h⟩ := Ok.ofgd h
      refine Jl_iald C rfl rfl g_16 dL_isLike_49 rfl ?_
      refine J_aload_n (i := 1) (p := 0) C dL_isLike_50 rfl rfl rfl ?_
      refine J_iload_n (i := 3) (p := 2) C dL_isLike_51 rfl rfl rfl ?_
      obtain ⟨g_17, h⟩ := Ok.ofgd h
      refine Jl_iald C h_a1 rfl g_17 dL_isLike_52 rfl ?_
      refine J_icmp_eq (t := 58) C dL_isLike_53 (by decide) rfl (fun c_18 => ?_) (fun c_18 => ?_)
      · have h := h.pos c_18
        obtain ⟨x3_6, e_x3_6, h⟩ := Ok.nm h
        refine J_iincE (i := 3) (p := 2) (lv' := [(3, .int x3_6), (1, .ref (K.2.2 + a1)), (2, .ref (K.2.2 + 42))]) C e_x3_6 dL_isLike_58 rfl (by decide) (Nat.le_of_ble_eq_true rfl) rfl rfl ?_
        refine J_goto (t := 38) C dL_isLike_61 (by decide) ?_
        refine J.sub [1, 2, 0] rfl ?_
        exact hB_38 x3_6 h.osome
      · have h := h.neg c_18
        have h := hE_38 (Sum.inr ()) h.osome
        try dsimp only at h
        refine J_iconst (v := 0) C (by decide) dL_isLike_56 rfl ?_
        rw [← hQQ]
        exact J_zret C hret rfl (Nat.le_of_ble_eq_true rfl) (Nat.le_of_ble_eq_true rfl) ⟨_, h.osome, rfl, rfl, rfl⟩ dL_isLike_57
  have hj_34 : (∀ (τ_34 : LawS), Ok (fL_isLike_j34 a1 τ_34) Qf → J X K 4 False QQ 0 0 2064 (jl K τ_34) 34 [] []) := by
    intro τ_34 h
    unfold fL_isLike_j34 at h
    refine J_iconst (v := 0) C (by decide) dL_isLike_34 rfl ?_
    rw [← hQQ]
    exact J_zret C hret rfl (Nat.le_of_ble_eq_true rfl) (Nat.le_of_ble_eq_true rfl) ⟨_, h.osome, rfl, rfl, rfl⟩ dL_isLike_35
  unfold fL_isLike at h
  refine J_aload_n (i := 0) (p := 0) C dL_isLike_0 rfl rfl rfl ?_
  refine J_aload_n (i := 2) (p := 2) C dL_isLike_1 rfl rfl rfl ?_
  refine Jl_cS (α := LawS) (rest := []) (st9 := fun p_19 => []) C hR hX cs_RL_151 (kL_sees hl rfl (Ok.ofbnd h)) rfl rfl (Nat.le_of_ble_eq_true rfl) (Nat.le_of_ble_eq_true rfl) (Nat.le_of_ble_eq_true rfl) ⟨(Nat.le_of_ble_eq_true rfl), (Nat.le_of_ble_eq_true rfl)⟩ dL_isLike_2 rfl (fun _ => rfl) (fun p_19 h => ?_)
  have h : Ok _ _ := h
  change J X K 4 False QQ 0 0 2064 (jl K p_19) 5 [(0, .ref (K.2.2 + 47)), (1, .ref (K.2.2 + a1)), (2, .ref (K.2.2 + 42))] []
  refine J_aload_n (i := 2) (p := 2) C dL_isLike_5 rfl rfl rfl ?_
  refine J_iconst (v := 0) C (by decide) dL_isLike_6 rfl ?_
  obtain ⟨g_20, h⟩ := Ok.ofgd h
  refine Jl_iald C rfl rfl g_20 dL_isLike_7 rfl ?_
  refine J_aload_n (i := 1) (p := 1) C dL_isLike_8 rfl rfl rfl ?_
  refine J_iconst (v := 0) C (by decide) dL_isLike_9 rfl ?_
  obtain ⟨g_21, h⟩ := Ok.ofgd h
  refine Jl_iald C h_a1 rfl g_21 dL_isLike_10 rfl ?_
  refine J_icmp_ne (t := 34) C dL_isLike_11 (by decide) rfl (fun c_22 => ?_) (fun c_22 => ?_)
  · have h := h.neg c_22
    refine J.sub [] rfl ?_
    exact hj_34 p_19 h
  · have h := h.pos (Decidable.not_not.mp c_22)
    refine J_aload_n (i := 2) (p := 2) C dL_isLike_14 rfl rfl rfl ?_
    refine J_iconst (v := 1) C (by decide) dL_isLike_15 rfl ?_
    obtain ⟨g_23, h⟩ := Ok.ofgd h
    refine Jl_iald C rfl rfl g_23 dL_isLike_16 rfl ?_
    refine J_aload_n (i := 1) (p := 1) C dL_isLike_17 rfl rfl rfl ?_
    refine J_iconst (v := 1) C (by decide) dL_isLike_18 rfl ?_
    obtain ⟨g_24, h⟩ := Ok.ofgd h
    refine Jl_iald C h_a1 rfl g_24 dL_isLike_19 rfl ?_
    refine J_icmp_ne (t := 34) C dL_isLike_20 (by decide) rfl (fun c_25 => ?_) (fun c_25 => ?_)
    · have h := h.neg c_25
      refine J.sub [] rfl ?_
      exact hj_34 p_19 h
    · have h := h.pos (Decidable.not_not.mp c_25)
      refine J_aload_n (i := 2) (p := 2) C dL_isLike_23 rfl rfl rfl ?_
      refine J_bipush (v := 26) C (by decide) dL_isLike_24 rfl ?_
      obtain ⟨g_26, h⟩ := Ok.ofgd h
      refine Jl_iald C rfl rfl g_26 dL_isLike_26 rfl ?_
      refine J_aload_n (i := 1) (p := 1) C dL_isLike_27 rfl rfl rfl ?_
      refine J_bipush (v := 26) C (by decide) dL_isLike_28 rfl ?_
      obtain ⟨g_27, h⟩ := Ok.ofgd h
      refine Jl_iald C h_a1 rfl g_27 dL_isLike_30 rfl ?_
      refine J_icmp_eq (t := 36) C dL_isLike_31 (by decide) rfl (fun c_28 => ?_) (fun c_28 => ?_)
      · have h := h.pos c_28
        refine J_iconst (v := 0) C (by decide) dL_isLike_36 rfl ?_
        obtain ⟨x3_8, e_x3_8, h⟩ := Ok.nm h
        refine J_istoreE_n (i := 3) (lv' := [(3, .int x3_8), (0, .ref (K.2.2 + 47)), (1, .ref (K.2.2 + a1)), (2, .ref (K.2.2 + 42))]) C e_x3_8 dL_isLike_37 rfl (Nat.le_of_ble_eq_true rfl) rfl rfl ?_
        refine J.sub [2, 3, 0] rfl ?_
        exact hj_38 p_19 x3_8 h
      · have h := h.neg c_28
        refine J.sub [] rfl ?_
        exact hj_34 p_19 h
