set_option maxHeartbeats 4000000 in
set_option maxRecDepth 100000 in
theorem kL_replacesAll {l : Launch} {K : JK} (hl : l.stackTraces = false) {τ : LawS}   {Qf : Int32 × LawS → Prop} (h : Ok (fL_replacesAll τ) Qf) : Con l K yL_replacesAll (.code yL_replacesAll cL_replacesAll 22 (some .boolean) :: TB) 10 16 96 False [.ref (K.2.2 + 47), .ref (K.2.2 + 0), .ref (K.2.2 + 41), .ref (K.2.2 + 42), .ref (K.2.2 + 43), .ref (K.2.2 + 44), .ref (K.2.2 + 46)] 2064 (jl K τ) (PL Qf (fun p => some (.int p.1)) (fun p => jl K p.2)) PN := by
  refine Con.enter (own := RL) hl (by decide) rfl (Nat.le_of_ble_eq_true rfl) ?_
  intro X hX hR C hret hnt
  generalize hQQ : jQ X K 16 96 (PL Qf (fun p => some (.int p.1)) (fun p => jl K p.2)) PN False = QQ
  change J X K 22 False QQ 0 0 2064 (jl K τ) 0 [(0, .ref (K.2.2 + 47)), (1, .ref (K.2.2 + 0)), (2, .ref (K.2.2 + 41)), (3, .ref (K.2.2 + 42)), (4, .ref (K.2.2 + 43)), (5, .ref (K.2.2 + 44)), (6, .ref (K.2.2 + 46))] []
  have hj_597 : (∀ (τ_597 : LawS) (l7_597 : Int32) (l8_597 : Int32) (l16_597 : Int32) (l19_597 : Int32), Ok (fL_replacesAll_j597 τ_597 l7_597 l8_597 l16_597 l19_597) Qf → J X K 22 False QQ 16 96 2064 (jl K τ_597) 597 [(3, .ref (K.2.2 + 42)), (5, .ref (K.2.2 + 44)), (6, .ref (K.2.2 + 46)), (7, .int l7_597), (8, .int l8_597), (16, .int l16_597), (19, .int l19_597)] []) := by
    intro τ_597 l7_597 l8_597 l16_597 l19_597 h
    unfold fL_replacesAll_j597 at h
    refine loop_gen (S := Int32) (P := fun s_597 => J X K 22 False QQ 16 96 2064 (jl K τ_597) 597 [(3, .ref (K.2.2 + 42)), (5, .ref (K.2.2 + 44)), (6, .ref (K.2.2 + 46)), (7, .int l7_597), (8, .int l8_597), (16, .int l16_597), (19, .int s_597)] []) ?_ FU l19_597 (Ok.ofbnd h)
    intro B_597 hB_597 hE_597 s_597 h
    generalize s_597 = l19_597 at h ⊢
    have h : Ok (fL_replacesAll_b597 τ_597 l7_597 l8_597 l16_597 l19_597) B_597 := h
    change J X K 22 False QQ 16 96 2064 (jl K τ_597) 597 [(3, .ref (K.2.2 + 42)), (5, .ref (K.2.2 + 44)), (6, .ref (K.2.2 + 46)), (7, .int l7_597), (8, .int l8_597), (16, .int l16_597), (19, .int l19_597)] []
    have hj_662 : (∀ (l19_662 : Int32), Ok (fL_replacesAll_j662 τ_597 l7_597 l8_597 l16_597 l19_662) B_597 → J X K 22 False QQ 16 96 2064 (jl K τ_597) 662 [(3, .ref (K.2.2 + 42)), (5, .ref (K.2.2 + 44)), (6, .ref (K.2.2 + 46)), (7, .int l7_597), (8, .int l8_597), (16, .int l16_597), (19, .int l19_662)] []) := by
      intro l19_662 h
      unfold fL_replacesAll_j662 at h
      obtain ⟨x19_1, e_x19_1, h⟩ := Ok.nm h
      refine J_iincE (i := 19) (p := 6) (lv' := [(19, .int x19_1), (3, .ref (K.2.2 + 42)), (5, .ref (K.2.2 + 44)), (6, .ref (K.2.2 + 46)), (7, .int l7_597), (8, .int l8_597), (16, .int l16_597)]) C e_x19_1 dL_replacesAll_662 rfl (by decide) (Nat.le_of_ble_eq_true rfl) rfl rfl ?_
      refine J_goto (t := 597) C dL_replacesAll_665 (by decide) ?_
      refine J.sub [1, 2, 3, 4, 5, 6, 0] rfl ?_
      exact hB_597 x19_1 h.osome
    have hj_629 : (∀ (l19_629 : Int32) (l20_629 : Int32) (l21_629 : Int32), Ok (fL_replacesAll_j629 τ_597 l7_597 l8_597 l16_597 l19_629 l20_629 l21_629) B_597 → J X K 22 False QQ 16 96 2064 (jl K τ_597) 629 [(3, .ref (K.2.2 + 42)), (5, .ref (K.2.2 + 44)), (6, .ref (K.2.2 + 46)), (7, .int l7_597), (8, .int l8_597), (16, .int l16_597), (19, .int l19_629), (20, .int l20_629), (21, .int l21_629)] []) := by
      intro l19_629 l20_629 l21_629 h
      unfold fL_replacesAll_j629 at h
      refine loop_gen (S := Int32 × Int32) (P := fun s_629 => J X K 22 False QQ 16 96 2064 (jl K τ_597) 629 [(3, .ref (K.2.2 + 42)), (5, .ref (K.2.2 + 44)), (6, .ref (K.2.2 + 46)), (7, .int l7_597), (8, .int l8_597), (16, .int l16_597), (19, .int l19_629), (20, .int s_629.1), (21, .int s_629.2)] []) ?_ FU (l20_629, l21_629) (Ok.ofbnd h)
      intro B_629 hB_629 hE_629 s_629 h
      obtain ⟨l20_629, l21_629⟩ := s_629
      have h : Ok (fL_replacesAll_b629 τ_597 l7_597 l8_597 l16_597 l19_629 l20_629 l21_629) B_629 := h
      change J X K 22 False QQ 16 96 2064 (jl K τ_597) 629 [(3, .ref (K.2.2 + 42)), (5, .ref (K.2.2 + 44)), (6, .ref (K.2.2 + 46)), (7, .int l7_597), (8, .int l8_597), (16, .int l16_597), (19, .int l19_629), (20, .int l20_629), (21, .int l21_629)] []
      unfold fL_replacesAll_b629 at h
      refine J_iload (i := 21) (p := 8) C dL_replacesAll_629 rfl rfl ?_
      refine J_iload (i := 19) (p := 6) C dL_replacesAll_631 rfl rfl ?_
      refine J_iload (i := 7) (p := 3) C dL_replacesAll_633 rfl rfl ?_
      refine J_iadd C dL_replacesAll_635 rfl ?_
      refine J_icmp_gt (t := 655) C dL_replacesAll_636 (by decide) rfl (fun c_1 => ?_) (fun c_1 => ?_)
      · have h := h.pos c_1
        have h := hE_629 l20_629 h.osome
        try dsimp only at h
        refine J_iload (i := 20) (p := 7) C dL_replacesAll_655 rfl rfl ?_
        refine J_if_ne (t := 662) C dL_replacesAll_657 (by decide) rfl (fun c_2 => ?_) (fun c_2 => ?_)
        · have h := h.neg c_2
          refine J.sub [0, 1, 2, 3, 4, 5, 6] rfl ?_
          exact hj_662 l19_629 h
        · have h := h.pos (Decidable.not_not.mp c_2)
          have h := hE_597 (Sum.inr ()) h.osome
          try dsimp only at h
          refine J_iconst (v := 0) C (by decide) dL_replacesAll_660 rfl ?_
          rw [← hQQ]
          exact J_zret C hret rfl (Nat.le_of_ble_eq_true rfl) (Nat.le_of_ble_eq_true rfl) ⟨_, h.osome, rfl, rfl, rfl⟩ dL_replacesAll_661
      · have h := h.neg c_1
        refine J_iload (i := 20) (p := 7) C dL_replacesAll_639 rfl rfl ?_
        refine J_aload (i := 6) (p := 2) C dL_replacesAll_641 rfl rfl ?_
        refine J_iload (i := 21) (p := 8) C dL_replacesAll_643 rfl rfl ?_
        obtain ⟨g_3, h⟩ := Ok.ofgd h
        refine Jl_zald C rfl rfl g_3 dL_replacesAll_645 rfl ?_
        refine J_ior C dL_replacesAll_646 rfl ?_
        obtain ⟨x20_2, e_x20_2, h⟩ := Ok.nm h
        refine J_istoreE (i := 20) (lv' := [(20, .int x20_2), (3, .ref (K.2.2 + 42)), (5, .ref (K.2.2 + 44)), (6, .ref (K.2.2 + 46)), (7, .int l7_597), (8, .int l8_597), (16, .int l16_597), (19, .int l19_629), (21, .int l21_629)]) C e_x20_2 dL_replacesAll_647 (Nat.le_of_ble_eq_true rfl) rfl rfl ?_
        obtain ⟨x21_3, e_x21_3, h⟩ := Ok.nm h
        refine J_iincE (i := 21) (p := 8) (lv' := [(21, .int x21_3), (20, .int x20_2), (3, .ref (K.2.2 + 42)), (5, .ref (K.2.2 + 44)), (6, .ref (K.2.2 + 46)), (7, .int l7_597), (8, .int l8_597), (16, .int l16_597), (19, .int l19_629)]) C e_x21_3 dL_replacesAll_649 rfl (by decide) (Nat.le_of_ble_eq_true rfl) rfl rfl ?_
        refine J_goto (t := 629) C dL_replacesAll_652 (by decide) ?_
        refine J.sub [2, 3, 4, 5, 6, 7, 8, 1, 0] rfl ?_
        exact hB_629 (x20_2, x21_3) h.osome
    unfold fL_replacesAll_b597 at h
    refine J_iload (i := 19) (p := 6) C dL_replacesAll_597 rfl rfl ?_
    refine J_iload (i := 16) (p := 5) C dL_replacesAll_599 rfl rfl ?_
    refine J_icmp_ge (t := 668) C dL_replacesAll_601 (by decide) rfl (fun c_5 => ?_) (fun c_5 => ?_)
    · have h := h.pos c_5
      have h := hE_597 (Sum.inl ()) h.osome
      try dsimp only at h
      refine J_iconst (v := 1) C (by decide) dL_replacesAll_668 rfl ?_
      rw [← hQQ]
      exact J_zret C hret rfl (Nat.le_of_ble_eq_true rfl) (Nat.le_of_ble_eq_true rfl) ⟨_, h.osome, rfl, rfl, rfl⟩ dL_replacesAll_669
    · have h := h.neg c_5
      refine J_aload_n (i := 3) (p := 0) C dL_replacesAll_604 rfl rfl rfl ?_
      refine J_iload (i := 19) (p := 6) C dL_replacesAll_605 rfl rfl ?_
      refine J_aload (i := 5) (p := 1) C dL_replacesAll_607 rfl rfl ?_
      refine J_iload (i := 7) (p := 3) C dL_replacesAll_609 rfl rfl ?_
      refine J_iload (i := 8) (p := 4) C dL_replacesAll_611 rfl rfl ?_
      refine Jl_cS (α := Int32) (rest := []) (st9 := fun p_6 => [.int p_6]) C hR hX cs_RL_185 (kL_isFind hl rfl (Ok.ofbnd h)) rfl rfl (Nat.le_of_ble_eq_true rfl) (Nat.le_of_ble_eq_true rfl) (Nat.le_of_ble_eq_true rfl) ⟨(Nat.le_of_ble_eq_true rfl), (Nat.le_of_ble_eq_true rfl)⟩ dL_replacesAll_613 rfl (fun _ => rfl) (fun p_6 h => ?_)
      have h : Ok _ _ := h
      change J X K 22 False QQ 16 96 2064 (jl K τ_597) 616 [(3, .ref (K.2.2 + 42)), (5, .ref (K.2.2 + 44)), (6, .ref (K.2.2 + 46)), (7, .int l7_597), (8, .int l8_597), (16, .int l16_597), (19, .int l19_597)] [.int p_6]
      refine J_if_ne (t := 622) C dL_replacesAll_616 (by decide) rfl (fun c_7 => ?_) (fun c_7 => ?_)
      · have h := h.neg c_7
        refine J_iconst (v := 0) C (by decide) dL_replacesAll_622 rfl ?_
        obtain ⟨x20_4, e_x20_4, h⟩ := Ok.nm h
        refine J_istoreE (i := 20) (lv' := [(20, .int x20_4), (3, .ref (K.2.2 + 42)), (5, .ref (K.2.2 + 44)), (6, .ref (K.2.2 + 46)), (7, .int l7_597), (8, .int l8_597), (16, .int l16_597), (19, .int l19_597)]) C e_x20_4 dL_replacesAll_623 (Nat.le_of_ble_eq_true rfl) rfl rfl ?_
        refine J_iload (i := 19) (p := 7) C dL_replacesAll_625 rfl rfl ?_
        obtain ⟨x21_5, e_x21_5, h⟩ := Ok.nm h
        refine J_istoreE (i := 21) (lv' := [(21, .int x21_5), (20, .int x20_4), (3, .ref (K.2.2 + 42)), (5, .ref (K.2.2 + 44)), (6, .ref (K.2.2 + 46)), (7, .int l7_597), (8, .int l8_597), (16, .int l16_597), (19, .int l19_597)]) C e_x21_5 dL_replacesAll_627 (Nat.le_of_ble_eq_true rfl) rfl rfl ?_
        refine J.sub [2, 3, 4, 5, 6, 7, 8, 1, 0] rfl ?_
        exact hj_629 l19_597 x20_4 x21_5 h
      · have h := h.pos (Decidable.not_not.mp c_7)
        refine J_goto (t := 662) C dL_replacesAll_619 (by decide) ?_
        exact hj_662 l19_597 h
  have hj_557 : (∀ (τ_557 : LawS) (l7_557 : Int32) (l8_557 : Int32) (l16_557 : Int32) (l19_557 : Int32), Ok (fL_replacesAll_j557 τ_557 l7_557 l8_557 l16_557 l19_557) Qf → J X K 22 False QQ 16 96 2064 (jl K τ_557) 557 [(0, .ref (K.2.2 + 47)), (3, .ref (K.2.2 + 42)), (5, .ref (K.2.2 + 44)), (6, .ref (K.2.2 + 46)), (7, .int l7_557), (8, .int l8_557), (16, .int l16_557), (19, .int l19_557)] []) := by
    intro τ_557 l7_557 l8_557 l16_557 l19_557 h
    unfold fL_replacesAll_j557 at h
    refine loop_gen (S := LawS × Int32) (P := fun s_557 => J X K 22 False QQ 16 96 2064 (jl K s_557.1) 557 [(0, .ref (K.2.2 + 47)), (3, .ref (K.2.2 + 42)), (5, .ref (K.2.2 + 44)), (6, .ref (K.2.2 + 46)), (7, .int l7_557), (8, .int l8_557), (16, .int l16_557), (19, .int s_557.2)] []) ?_ FU (τ_557, l19_557) (Ok.ofbnd h)
    intro B_557 hB_557 hE_557 s_557 h
    obtain ⟨τ_557, l19_557⟩ := s_557
    have h : Ok (fL_replacesAll_b557 τ_557 l7_557 l8_557 l16_557 l19_557) B_557 := h
    change J X K 22 False QQ 16 96 2064 (jl K τ_557) 557 [(0, .ref (K.2.2 + 47)), (3, .ref (K.2.2 + 42)), (5, .ref (K.2.2 + 44)), (6, .ref (K.2.2 + 46)), (7, .int l7_557), (8, .int l8_557), (16, .int l16_557), (19, .int l19_557)] []
    unfold fL_replacesAll_b557 at h
    refine J_iload (i := 19) (p := 7) C dL_replacesAll_557 rfl rfl ?_
    refine J_iload (i := 16) (p := 6) C dL_replacesAll_559 rfl rfl ?_
    refine J_icmp_ge (t := 589) C dL_replacesAll_561 (by decide) rfl (fun c_8 => ?_) (fun c_8 => ?_)
    · have h := h.pos c_8
      have h := hE_557 (Sum.inl τ_557) h.osome
      try dsimp only at h
      refine J_aload_n (i := 3) (p := 1) C dL_replacesAll_589 rfl rfl rfl ?_
      refine J_iconst (v := 0) C (by decide) dL_replacesAll_590 rfl ?_
      refine J_iload (i := 16) (p := 6) C dL_replacesAll_591 rfl rfl ?_
      obtain ⟨g_9, h⟩ := Ok.ofgd h
      obtain ⟨τx_6, e_τx_6, h⟩ := Ok.nm h
      refine Jl_iast C id rfl rfl g_9 e_τx_6 dL_replacesAll_593 rfl ?_
      refine J_iconst (v := 0) C (by decide) dL_replacesAll_594 rfl ?_
      obtain ⟨x19_7, e_x19_7, h⟩ := Ok.nm h
      refine J_istoreE (i := 19) (lv' := [(19, .int x19_7), (0, .ref (K.2.2 + 47)), (3, .ref (K.2.2 + 42)), (5, .ref (K.2.2 + 44)), (6, .ref (K.2.2 + 46)), (7, .int l7_557), (8, .int l8_557), (16, .int l16_557)]) C e_x19_7 dL_replacesAll_595 (Nat.le_of_ble_eq_true rfl) rfl rfl ?_
      refine J.sub [2, 3, 4, 5, 6, 7, 0] rfl ?_
      exact hj_597 τx_6 l7_557 l8_557 l16_557 x19_7 h
    · have h := h.neg c_8
      refine J_aload_n (i := 0) (p := 0) C dL_replacesAll_564 rfl rfl rfl ?_
      refine J_iload (i := 19) (p := 7) C dL_replacesAll_565 rfl rfl ?_
      refine Jl_cV (α := Int32 × Sto) (rest := []) (st9 := fun p_10 => [.int p_10.1]) (wd := fun p_10 => p_10.2) C hR hX cv_RL_106 (k11_letterAt_n hl (Ok.ofnox h) (fun c hc => hc)) rfl rfl (Nat.le_of_ble_eq_true rfl) (Nat.le_of_ble_eq_true rfl) (Nat.le_of_ble_eq_true rfl) ⟨(Nat.le_of_ble_eq_true rfl), (Nat.le_of_ble_eq_true rfl)⟩ dL_replacesAll_567 rfl (fun E n9 w9 hx => hx.elim) (fun _ => rfl) (fun p_10 h => ?_)
      have h : Ok _ _ := h
      change J X K 22 False QQ 16 96 2064 (jl K (τ_557.1, p_10.2)) 570 [(0, .ref (K.2.2 + 47)), (3, .ref (K.2.2 + 42)), (5, .ref (K.2.2 + 44)), (6, .ref (K.2.2 + 46)), (7, .int l7_557), (8, .int l8_557), (16, .int l16_557), (19, .int l19_557)] [.int p_10.1]
      refine J_aload_n (i := 3) (p := 1) C dL_replacesAll_570 rfl rfl rfl ?_
      refine J_sipush (v := 400) C (by decide) dL_replacesAll_571 rfl ?_
      refine J_iload (i := 19) (p := 7) C dL_replacesAll_574 rfl rfl ?_
      refine J_iadd C dL_replacesAll_576 rfl ?_
      obtain ⟨g_11, h⟩ := Ok.ofgd h
      refine Jl_iald C rfl rfl g_11 dL_replacesAll_577 rfl ?_
      refine J_icmp_eq (t := 583) C dL_replacesAll_578 (by decide) rfl (fun c_12 => ?_) (fun c_12 => ?_)
      · have h := h.pos c_12
        obtain ⟨x19_8, e_x19_8, h⟩ := Ok.nm h
        refine J_iincE (i := 19) (p := 7) (lv' := [(19, .int x19_8), (0, .ref (K.2.2 + 47)), (3, .ref (K.2.2 + 42)), (5, .ref (K.2.2 + 44)), (6, .ref (K.2.2 + 46)), (7, .int l7_557), (8, .int l8_557), (16, .int l16_557)]) C e_x19_8 dL_replacesAll_583 rfl (by decide) (Nat.le_of_ble_eq_true rfl) rfl rfl ?_
        refine J_goto (t := 557) C dL_replacesAll_586 (by decide) ?_
        refine J.sub [1, 2, 3, 4, 5, 6, 7, 0] rfl ?_
        exact hB_557 ((τ_557.1, p_10.2), x19_8) h.osome
      · have h := h.neg c_12
        have h := hE_557 (Sum.inr (τ_557.1, p_10.2)) h.osome
        try dsimp only at h
        refine J_iconst (v := 0) C (by decide) dL_replacesAll_581 rfl ?_
        rw [← hQQ]
        exact J_zret C hret rfl (Nat.le_of_ble_eq_true rfl) (Nat.le_of_ble_eq_true rfl) ⟨_, h.osome, rfl, rfl, rfl⟩ dL_replacesAll_582
  have hj_552 : (∀ (τ_552 : LawS), Ok (fL_replacesAll_j552 τ_552) Qf → J X K 22 False QQ 16 96 2064 (jl K τ_552) 552 [] []) := by
    intro τ_552 h
    unfold fL_replacesAll_j552 at h
    refine J_iconst (v := 0) C (by decide) dL_replacesAll_552 rfl ?_
    rw [← hQQ]
    exact J_zret C hret rfl (Nat.le_of_ble_eq_true rfl) (Nat.le_of_ble_eq_true rfl) ⟨_, h.osome, rfl, rfl, rfl⟩ dL_replacesAll_553
  have hj_545 : (∀ (τ_545 : LawS) (l7_545 : Int32) (l8_545 : Int32) (l16_545 : Int32) (s0_545 : Int32) (s1_545 : Int32) (s2_545 : Int32), Ok (fL_replacesAll_j545 τ_545 l7_545 l8_545 l16_545 s0_545 s1_545 s2_545) Qf → J X K 22 False QQ 16 96 2064 (jl K τ_545) 545 [(0, .ref (K.2.2 + 47)), (3, .ref (K.2.2 + 42)), (5, .ref (K.2.2 + 44)), (6, .ref (K.2.2 + 46)), (7, .int l7_545), (8, .int l8_545), (16, .int l16_545)] [.int s2_545, .int s1_545, .int s0_545]) := by
    intro τ_545 l7_545 l8_545 l16_545 s0_545 s1_545 s2_545 h
    unfold fL_replacesAll_j545 at h
    refine Jl_cS (α := Int32) (rest := [.int s1_545, .int s0_545]) (st9 := fun p_14 => [.int p_14, .int s1_545, .int s0_545]) C hR hX cs_RL_63 (kL_one hl  (Ok.ofbnd h)) rfl rfl (Nat.le_of_ble_eq_true rfl) (Nat.le_of_ble_eq_true rfl) (Nat.le_of_ble_eq_true rfl) ⟨(Nat.le_of_ble_eq_true rfl), (Nat.le_of_ble_eq_true rfl)⟩ dL_replacesAll_545 rfl (fun _ => rfl) (fun p_14 h => ?_)
    have h : Ok _ _ := h
    change J X K 22 False QQ 16 96 2064 (jl K τ_545) 548 [(0, .ref (K.2.2 + 47)), (3, .ref (K.2.2 + 42)), (5, .ref (K.2.2 + 44)), (6, .ref (K.2.2 + 46)), (7, .int l7_545), (8, .int l8_545), (16, .int l16_545)] [.int p_14, .int s1_545, .int s0_545]
    refine J_iadd C dL_replacesAll_548 rfl ?_
    refine J_icmp_eq (t := 554) C dL_replacesAll_549 (by decide) rfl (fun c_15 => ?_) (fun c_15 => ?_)
    · have h := h.pos c_15
      refine J_iconst (v := 0) C (by decide) dL_replacesAll_554 rfl ?_
      obtain ⟨x19_11, e_x19_11, h⟩ := Ok.nm h
      refine J_istoreE (i := 19) (lv' := [(19, .int x19_11), (0, .ref (K.2.2 + 47)), (3, .ref (K.2.2 + 42)), (5, .ref (K.2.2 + 44)), (6, .ref (K.2.2 + 46)), (7, .int l7_545), (8, .int l8_545), (16, .int l16_545)]) C e_x19_11 dL_replacesAll_555 (Nat.le_of_ble_eq_true rfl) rfl rfl ?_
      refine J.sub [1, 2, 3, 4, 5, 6, 7, 0] rfl ?_
      exact hj_557 τ_545 l7_545 l8_545 l16_545 x19_11 h
    · have h := h.neg c_15
      refine J.sub [] rfl ?_
      exact hj_552 τ_545 h
  have hj_352 : (∀ (τ_352 : LawS) (l7_352 : Int32) (l8_352 : Int32) (l13_352 : Int32) (l14_352 : Int32) (l15_352 : Int32) (l16_352 : Int32) (l17_352 : Int32) (l18_352 : Int32), Ok (fL_replacesAll_j352 τ_352 l7_352 l8_352 l13_352 l14_352 l15_352 l16_352 l17_352 l18_352) Qf → J X K 22 False QQ 16 96 2064 (jl K τ_352) 352 [(0, .ref (K.2.2 + 47)), (2, .ref (K.2.2 + 41)), (3, .ref (K.2.2 + 42)), (4, .ref (K.2.2 + 43)), (5, .ref (K.2.2 + 44)), (6, .ref (K.2.2 + 46)), (7, .int l7_352), (8, .int l8_352), (13, .int l13_352), (14, .int l14_352), (15, .int l15_352), (16, .int l16_352), (17, .int l17_352), (18, .int l18_352)] []) := by
    intro τ_352 l7_352 l8_352 l13_352 l14_352 l15_352 l16_352 l17_352 l18_352 h
    unfold fL_replacesAll_j352 at h
    refine loop_gen (S := LawS × Int32 × Int32 × Int32) (P := fun s_352 => J X K 22 False QQ 16 96 2064 (jl K s_352.1) 352 [(0, .ref (K.2.2 + 47)), (2, .ref (K.2.2 + 41)), (3, .ref (K.2.2 + 42)), (4, .ref (K.2.2 + 43)), (5, .ref (K.2.2 + 44)), (6, .ref (K.2.2 + 46)), (7, .int l7_352), (8, .int l8_352), (13, .int l13_352), (14, .int l14_352), (15, .int l15_352), (16, .int s_352.2.1), (17, .int s_352.2.2.1), (18, .int s_352.2.2.2)] []) ?_ FU (τ_352, l16_352, l17_352, l18_352) (Ok.ofbnd h)
    intro B_352 hB_352 hE_352 s_352 h
    obtain ⟨τ_352, l16_352, l17_352, l18_352⟩ := s_352
    have h : Ok (fL_replacesAll_b352 τ_352 l7_352 l8_352 l13_352 l14_352 l15_352 l16_352 l17_352 l18_352) B_352 := h
    change J X K 22 False QQ 16 96 2064 (jl K τ_352) 352 [(0, .ref (K.2.2 + 47)), (2, .ref (K.2.2 + 41)), (3, .ref (K.2.2 + 42)), (4, .ref (K.2.2 + 43)), (5, .ref (K.2.2 + 44)), (6, .ref (K.2.2 + 46)), (7, .int l7_352), (8, .int l8_352), (13, .int l13_352), (14, .int l14_352), (15, .int l15_352), (16, .int l16_352), (17, .int l17_352), (18, .int l18_352)] []
    have hj_499 : (∀ (τ_499 : LawS) (l17_499 : Int32) (l18_499 : Int32) (s0_499 : Int32) (s1_499 : Int32), Ok (fL_replacesAll_j499 l7_352 l8_352 l13_352 l14_352 l15_352 τ_499 l17_499 l18_499 s0_499 s1_499) B_352 → J X K 22 False QQ 16 96 2064 (jl K τ_499) 499 [(0, .ref (K.2.2 + 47)), (2, .ref (K.2.2 + 41)), (3, .ref (K.2.2 + 42)), (4, .ref (K.2.2 + 43)), (5, .ref (K.2.2 + 44)), (6, .ref (K.2.2 + 46)), (7, .int l7_352), (8, .int l8_352), (13, .int l13_352), (14, .int l14_352), (15, .int l15_352), (17, .int l17_499), (18, .int l18_499)] [.int s1_499, .int s0_499]) := by
      intro τ_499 l17_499 l18_499 s0_499 s1_499 h
      unfold fL_replacesAll_j499 at h
      refine Jl_cS (α := Int32) (rest := [.int s0_499]) (st9 := fun p_16 => [.int p_16, .int s0_499]) C hR hX cs_RL_63 (kL_one hl  (Ok.ofbnd h)) rfl rfl (Nat.le_of_ble_eq_true rfl) (Nat.le_of_ble_eq_true rfl) (Nat.le_of_ble_eq_true rfl) ⟨(Nat.le_of_ble_eq_true rfl), (Nat.le_of_ble_eq_true rfl)⟩ dL_replacesAll_499 rfl (fun _ => rfl) (fun p_16 h => ?_)
      have h : Ok _ _ := h
      change J X K 22 False QQ 16 96 2064 (jl K τ_499) 502 [(0, .ref (K.2.2 + 47)), (2, .ref (K.2.2 + 41)), (3, .ref (K.2.2 + 42)), (4, .ref (K.2.2 + 43)), (5, .ref (K.2.2 + 44)), (6, .ref (K.2.2 + 46)), (7, .int l7_352), (8, .int l8_352), (13, .int l13_352), (14, .int l14_352), (15, .int l15_352), (17, .int l17_499), (18, .int l18_499)] [.int p_16, .int s0_499]
      refine J_iadd C dL_replacesAll_502 rfl ?_
      obtain ⟨x16_12, e_x16_12, h⟩ := Ok.nm h
      refine J_istoreE (i := 16) (lv' := [(16, .int x16_12), (0, .ref (K.2.2 + 47)), (2, .ref (K.2.2 + 41)), (3, .ref (K.2.2 + 42)), (4, .ref (K.2.2 + 43)), (5, .ref (K.2.2 + 44)), (6, .ref (K.2.2 + 46)), (7, .int l7_352), (8, .int l8_352), (13, .int l13_352), (14, .int l14_352), (15, .int l15_352), (17, .int l17_499), (18, .int l18_499)]) C e_x16_12 dL_replacesAll_503 (Nat.le_of_ble_eq_true rfl) rfl rfl ?_
      obtain ⟨x17_13, e_x17_13, h⟩ := Ok.nm h
      refine J_iincE (i := 17) (p := 12) (lv' := [(17, .int x17_13), (16, .int x16_12), (0, .ref (K.2.2 + 47)), (2, .ref (K.2.2 + 41)), (3, .ref (K.2.2 + 42)), (4, .ref (K.2.2 + 43)), (5, .ref (K.2.2 + 44)), (6, .ref (K.2.2 + 46)), (7, .int l7_352), (8, .int l8_352), (13, .int l13_352), (14, .int l14_352), (15, .int l15_352), (18, .int l18_499)]) C e_x17_13 dL_replacesAll_505 rfl (by decide) (Nat.le_of_ble_eq_true rfl) rfl rfl ?_
      refine J_goto (t := 352) C dL_replacesAll_508 (by decide) ?_
      refine J.sub [2, 3, 4, 5, 6, 7, 8, 9, 10, 11, 12, 1, 0, 13] rfl ?_
      exact hB_352 (τ_499, x16_12, x17_13, l18_499) h.osome
    have hj_484 : (∀ (τ_484 : LawS) (l16_484 : Int32) (l17_484 : Int32) (l18_484 : Int32), Ok (fL_replacesAll_j484 l7_352 l8_352 l13_352 l14_352 l15_352 τ_484 l16_484 l17_484 l18_484) B_352 → J X K 22 False QQ 16 96 2064 (jl K τ_484) 484 [(0, .ref (K.2.2 + 47)), (2, .ref (K.2.2 + 41)), (3, .ref (K.2.2 + 42)), (4, .ref (K.2.2 + 43)), (5, .ref (K.2.2 + 44)), (6, .ref (K.2.2 + 46)), (7, .int l7_352), (8, .int l8_352), (13, .int l13_352), (14, .int l14_352), (15, .int l15_352), (16, .int l16_484), (17, .int l17_484), (18, .int l18_484)] []) := by
      intro τ_484 l16_484 l17_484 l18_484 h
      unfold fL_replacesAll_j484 at h
      refine J_iload (i := 16) (p := 11) C dL_replacesAll_484 rfl rfl ?_
      refine J_iload (i := 17) (p := 12) C dL_replacesAll_486 rfl rfl ?_
      refine J_aload_n (i := 2) (p := 1) C dL_replacesAll_488 rfl rfl rfl ?_
      refine J_iconst (v := 0) C (by decide) dL_replacesAll_489 rfl ?_
      obtain ⟨g_17, h⟩ := Ok.ofgd h
      refine Jl_iald C rfl rfl g_17 dL_replacesAll_490 rfl ?_
      refine J_icmp_ge (t := 498) C dL_replacesAll_491 (by decide) rfl (fun c_18 => ?_) (fun c_18 => ?_)
      · have h := h.pos c_18
        refine J_iconst (v := 0) C (by decide) dL_replacesAll_498 rfl ?_
        refine J.sub [0, 1, 2, 3, 4, 5, 6, 7, 8, 9, 10, 12, 13] rfl ?_
        exact hj_499 τ_484 l17_484 l18_484 l16_484 (0 : Int32) h
      · have h := h.neg c_18
        refine J_iconst (v := 1) C (by decide) dL_replacesAll_494 rfl ?_
        refine J_goto (t := 499) C dL_replacesAll_495 (by decide) ?_
        refine J.sub [0, 1, 2, 3, 4, 5, 6, 7, 8, 9, 10, 12, 13] rfl ?_
        exact hj_499 τ_484 l17_484 l18_484 l16_484 (1 : Int32) h
    have hj_460 : (∀ (τ_460 : LawS) (l16_460 : Int32) (l17_460 : Int32) (l18_460 : Int32), Ok (fL_replacesAll_j460 l7_352 l8_352 l13_352 l14_352 l15_352 τ_460 l16_460 l17_460 l18_460) B_352 → J X K 22 False QQ 16 96 2064 (jl K τ_460) 460 [(0, .ref (K.2.2 + 47)), (2, .ref (K.2.2 + 41)), (3, .ref (K.2.2 + 42)), (4, .ref (K.2.2 + 43)), (5, .ref (K.2.2 + 44)), (6, .ref (K.2.2 + 46)), (7, .int l7_352), (8, .int l8_352), (13, .int l13_352), (14, .int l14_352), (15, .int l15_352), (16, .int l16_460), (17, .int l17_460), (18, .int l18_460)] []) := by
      intro τ_460 l16_460 l17_460 l18_460 h
      unfold fL_replacesAll_j460 at h
      refine J_iload (i := 17) (p := 12) C dL_replacesAll_460 rfl rfl ?_
      refine J_aload_n (i := 2) (p := 1) C dL_replacesAll_462 rfl rfl rfl ?_
      refine J_iconst (v := 0) C (by decide) dL_replacesAll_463 rfl ?_
      obtain ⟨g_19, h⟩ := Ok.ofgd h
      refine Jl_iald C rfl rfl g_19 dL_replacesAll_464 rfl ?_
      refine J_icmp_ge (t := 484) C dL_replacesAll_465 (by decide) rfl (fun c_20 => ?_) (fun c_20 => ?_)
      · have h := h.pos c_20
        exact hj_484 τ_460 l16_460 l17_460 l18_460 h
      · have h := h.neg c_20
        refine J_aload_n (i := 3) (p := 2) C dL_replacesAll_468 rfl rfl rfl ?_
        refine J_sipush (v := 400) C (by decide) dL_replacesAll_469 rfl ?_
        refine J_iload (i := 16) (p := 11) C dL_replacesAll_472 rfl rfl ?_
        refine J_iadd C dL_replacesAll_474 rfl ?_
        refine J_aload_n (i := 2) (p := 1) C dL_replacesAll_475 rfl rfl rfl ?_
        refine J_sipush (v := 400) C (by decide) dL_replacesAll_476 rfl ?_
        refine J_iload (i := 17) (p := 12) C dL_replacesAll_479 rfl rfl ?_
        refine J_iadd C dL_replacesAll_481 rfl ?_
        obtain ⟨g_21, h⟩ := Ok.ofgd h
        refine Jl_iald C rfl rfl g_21 dL_replacesAll_482 rfl ?_
        obtain ⟨g_22, h⟩ := Ok.ofgd h
        obtain ⟨τx_14, e_τx_14, h⟩ := Ok.nm h
        refine Jl_iast C id rfl rfl g_22 e_τx_14 dL_replacesAll_483 rfl ?_
        exact hj_484 τx_14 l16_460 l17_460 l18_460 h
    have hj_418 : (∀ (τ_418 : LawS) (l16_418 : Int32) (l17_418 : Int32) (l18_418 : Int32) (l19_418 : Int32), Ok (fL_replacesAll_j418 l7_352 l8_352 l13_352 l14_352 l15_352 τ_418 l16_418 l17_418 l18_418 l19_418) B_352 → J X K 22 False QQ 16 96 2064 (jl K τ_418) 418 [(0, .ref (K.2.2 + 47)), (2, .ref (K.2.2 + 41)), (3, .ref (K.2.2 + 42)), (4, .ref (K.2.2 + 43)), (5, .ref (K.2.2 + 44)), (6, .ref (K.2.2 + 46)), (7, .int l7_352), (8, .int l8_352), (13, .int l13_352), (14, .int l14_352), (15, .int l15_352), (16, .int l16_418), (17, .int l17_418), (18, .int l18_418), (19, .int l19_418)] []) := by
      intro τ_418 l16_418 l17_418 l18_418 l19_418 h
      unfold fL_replacesAll_j418 at h
      refine loop_gen (S := LawS × Int32) (P := fun s_418 => J X K 22 False QQ 16 96 2064 (jl K s_418.1) 418 [(0, .ref (K.2.2 + 47)), (2, .ref (K.2.2 + 41)), (3, .ref (K.2.2 + 42)), (4, .ref (K.2.2 + 43)), (5, .ref (K.2.2 + 44)), (6, .ref (K.2.2 + 46)), (7, .int l7_352), (8, .int l8_352), (13, .int l13_352), (14, .int l14_352), (15, .int l15_352), (16, .int l16_418), (17, .int l17_418), (18, .int l18_418), (19, .int s_418.2)] []) ?_ FU (τ_418, l19_418) (Ok.ofbnd h)
      intro B_418 hB_418 hE_418 s_418 h
      obtain ⟨τ_418, l19_418⟩ := s_418
      have h : Ok (fL_replacesAll_b418 l7_352 l8_352 l13_352 l14_352 l15_352 τ_418 l16_418 l17_418 l18_418 l19_418) B_418 := h
      change J X K 22 False QQ 16 96 2064 (jl K τ_418) 418 [(0, .ref (K.2.2 + 47)), (2, .ref (K.2.2 + 41)), (3, .ref (K.2.2 + 42)), (4, .ref (K.2.2 + 43)), (5, .ref (K.2.2 + 44)), (6, .ref (K.2.2 + 46)), (7, .int l7_352), (8, .int l8_352), (13, .int l13_352), (14, .int l14_352), (15, .int l15_352), (16, .int l16_418), (17, .int l17_418), (18, .int l18_418), (19, .int l19_418)] []
      unfold fL_replacesAll_b418 at h
      refine J_iload (i := 19) (p := 14) C dL_replacesAll_418 rfl rfl ?_
      refine J_iload (i := 13) (p := 8) C dL_replacesAll_420 rfl rfl ?_
      refine J_icmp_gt (t := 440) C dL_replacesAll_422 (by decide) rfl (fun c_23 => ?_) (fun c_23 => ?_)
      · have h := h.pos c_23
        have h := hE_418 τ_418 h.osome
        try dsimp only at h
        refine J_iload (i := 16) (p := 11) C dL_replacesAll_440 rfl rfl ?_
        refine J_iload (i := 13) (p := 8) C dL_replacesAll_442 rfl rfl ?_
        refine J_iadd C dL_replacesAll_444 rfl ?_
        obtain ⟨x16_15, e_x16_15, h⟩ := Ok.nm h
        refine J_istoreE (i := 16) (lv' := [(16, .int x16_15), (0, .ref (K.2.2 + 47)), (2, .ref (K.2.2 + 41)), (3, .ref (K.2.2 + 42)), (4, .ref (K.2.2 + 43)), (5, .ref (K.2.2 + 44)), (6, .ref (K.2.2 + 46)), (7, .int l7_352), (8, .int l8_352), (13, .int l13_352), (14, .int l14_352), (15, .int l15_352), (17, .int l17_418), (18, .int l18_418), (19, .int l19_418)]) C e_x16_15 dL_replacesAll_445 (Nat.le_of_ble_eq_true rfl) rfl rfl ?_
        refine J_iload (i := 17) (p := 12) C dL_replacesAll_447 rfl rfl ?_
        refine J_iload (i := 7) (p := 7) C dL_replacesAll_449 rfl rfl ?_
        refine J_iadd C dL_replacesAll_451 rfl ?_
        obtain ⟨x17_16, e_x17_16, h⟩ := Ok.nm h
        refine J_istoreE (i := 17) (lv' := [(17, .int x17_16), (16, .int x16_15), (0, .ref (K.2.2 + 47)), (2, .ref (K.2.2 + 41)), (3, .ref (K.2.2 + 42)), (4, .ref (K.2.2 + 43)), (5, .ref (K.2.2 + 44)), (6, .ref (K.2.2 + 46)), (7, .int l7_352), (8, .int l8_352), (13, .int l13_352), (14, .int l14_352), (15, .int l15_352), (18, .int l18_418), (19, .int l19_418)]) C e_x17_16 dL_replacesAll_452 (Nat.le_of_ble_eq_true rfl) rfl rfl ?_
        obtain ⟨x18_17, e_x18_17, h⟩ := Ok.nm h
        refine J_iincE (i := 18) (p := 13) (lv' := [(18, .int x18_17), (17, .int x17_16), (16, .int x16_15), (0, .ref (K.2.2 + 47)), (2, .ref (K.2.2 + 41)), (3, .ref (K.2.2 + 42)), (4, .ref (K.2.2 + 43)), (5, .ref (K.2.2 + 44)), (6, .ref (K.2.2 + 46)), (7, .int l7_352), (8, .int l8_352), (13, .int l13_352), (14, .int l14_352), (15, .int l15_352), (19, .int l19_418)]) C e_x18_17 dL_replacesAll_454 rfl (by decide) (Nat.le_of_ble_eq_true rfl) rfl rfl ?_
        refine J_goto (t := 352) C dL_replacesAll_457 (by decide) ?_
        refine J.sub [3, 4, 5, 6, 7, 8, 9, 10, 11, 12, 13, 2, 1, 0] rfl ?_
        exact hB_352 (τ_418, x16_15, x17_16, x18_17) h.osome
      · have h := h.neg c_23
        refine J_aload (i := 6) (p := 5) C dL_replacesAll_425 rfl rfl ?_
        refine J_iload (i := 16) (p := 11) C dL_replacesAll_427 rfl rfl ?_
        refine J_iload (i := 19) (p := 14) C dL_replacesAll_429 rfl rfl ?_
        refine J_iadd C dL_replacesAll_431 rfl ?_
        refine J_iconst (v := 1) C (by decide) dL_replacesAll_432 rfl ?_
        obtain ⟨g_24, h⟩ := Ok.ofgd h
        obtain ⟨τx_18, e_τx_18, h⟩ := Ok.nm h
        refine Jl_zast C id rfl rfl g_24 e_τx_18 dL_replacesAll_433 rfl ?_
        obtain ⟨x19_19, e_x19_19, h⟩ := Ok.nm h
        refine J_iincE (i := 19) (p := 14) (lv' := [(19, .int x19_19), (0, .ref (K.2.2 + 47)), (2, .ref (K.2.2 + 41)), (3, .ref (K.2.2 + 42)), (4, .ref (K.2.2 + 43)), (5, .ref (K.2.2 + 44)), (6, .ref (K.2.2 + 46)), (7, .int l7_352), (8, .int l8_352), (13, .int l13_352), (14, .int l14_352), (15, .int l15_352), (16, .int l16_418), (17, .int l17_418), (18, .int l18_418)]) C e_x19_19 dL_replacesAll_434 rfl (by decide) (Nat.le_of_ble_eq_true rfl) rfl rfl ?_
        refine J_goto (t := 418) C dL_replacesAll_437 (by decide) ?_
        refine J.sub [1, 2, 3, 4, 5, 6, 7, 8, 9, 10, 11, 12, 13, 14, 0] rfl ?_
        exact hB_418 (τx_18, x19_19) h.osome
    have hj_386 : (∀ (τ_386 : LawS) (l16_386 : Int32) (l17_386 : Int32) (l18_386 : Int32) (l19_386 : Int32), Ok (fL_replacesAll_j386 l7_352 l8_352 l13_352 l14_352 l15_352 τ_386 l16_386 l17_386 l18_386 l19_386) B_352 → J X K 22 False QQ 16 96 2064 (jl K τ_386) 386 [(0, .ref (K.2.2 + 47)), (2, .ref (K.2.2 + 41)), (3, .ref (K.2.2 + 42)), (4, .ref (K.2.2 + 43)), (5, .ref (K.2.2 + 44)), (6, .ref (K.2.2 + 46)), (7, .int l7_352), (8, .int l8_352), (13, .int l13_352), (14, .int l14_352), (15, .int l15_352), (16, .int l16_386), (17, .int l17_386), (18, .int l18_386), (19, .int l19_386)] []) := by
      intro τ_386 l16_386 l17_386 l18_386 l19_386 h
      unfold fL_replacesAll_j386 at h
      refine loop_gen (S := LawS × Int32) (P := fun s_386 => J X K 22 False QQ 16 96 2064 (jl K s_386.1) 386 [(0, .ref (K.2.2 + 47)), (2, .ref (K.2.2 + 41)), (3, .ref (K.2.2 + 42)), (4, .ref (K.2.2 + 43)), (5, .ref (K.2.2 + 44)), (6, .ref (K.2.2 + 46)), (7, .int l7_352), (8, .int l8_352), (13, .int l13_352), (14, .int l14_352), (15, .int l15_352), (16, .int l16_386), (17, .int l17_386), (18, .int l18_386), (19, .int s_386.2)] []) ?_ FU (τ_386, l19_386) (Ok.ofbnd h)
      intro B_386 hB_386 hE_386 s_386 h
      obtain ⟨τ_386, l19_386⟩ := s_386
      have h : Ok (fL_replacesAll_b386 l7_352 l8_352 l13_352 l14_352 l15_352 τ_386 l16_386 l17_386 l18_386 l19_386) B_386 := h
      change J X K 22 False QQ 16 96 2064 (jl K τ_386) 386 [(0, .ref (K.2.2 + 47)), (2, .ref (K.2.2 + 41)), (3, .ref (K.2.2 + 42)), (4, .ref (K.2.2 + 43)), (5, .ref (K.2.2 + 44)), (6, .ref (K.2.2 + 46)), (7, .int l7_352), (8, .int l8_352), (13, .int l13_352), (14, .int l14_352), (15, .int l15_352), (16, .int l16_386), (17, .int l17_386), (18, .int l18_386), (19, .int l19_386)] []
      unfold fL_replacesAll_b386 at h
      refine J_iload (i := 19) (p := 14) C dL_replacesAll_386 rfl rfl ?_
      refine J_iload (i := 13) (p := 8) C dL_replacesAll_388 rfl rfl ?_
      refine J_icmp_ge (t := 415) C dL_replacesAll_390 (by decide) rfl (fun c_25 => ?_) (fun c_25 => ?_)
      · have h := h.pos c_25
        have h := hE_386 τ_386 h.osome
        try dsimp only at h
        refine J_iconst (v := 0) C (by decide) dL_replacesAll_415 rfl ?_
        obtain ⟨x19_23, e_x19_23, h⟩ := Ok.nm h
        refine J_istoreE (i := 19) (lv' := [(19, .int x19_23), (0, .ref (K.2.2 + 47)), (2, .ref (K.2.2 + 41)), (3, .ref (K.2.2 + 42)), (4, .ref (K.2.2 + 43)), (5, .ref (K.2.2 + 44)), (6, .ref (K.2.2 + 46)), (7, .int l7_352), (8, .int l8_352), (13, .int l13_352), (14, .int l14_352), (15, .int l15_352), (16, .int l16_386), (17, .int l17_386), (18, .int l18_386)]) C e_x19_23 dL_replacesAll_416 (Nat.le_of_ble_eq_true rfl) rfl rfl ?_
        refine J.sub [1, 2, 3, 4, 5, 6, 7, 8, 9, 10, 11, 12, 13, 14, 0] rfl ?_
        exact hj_418 τ_386 l16_386 l17_386 l18_386 x19_23 h
      · have h := h.neg c_25
        refine J_aload_n (i := 3) (p := 2) C dL_replacesAll_393 rfl rfl rfl ?_
        refine J_sipush (v := 400) C (by decide) dL_replacesAll_394 rfl ?_
        refine J_iload (i := 16) (p := 11) C dL_replacesAll_397 rfl rfl ?_
        refine J_iadd C dL_replacesAll_399 rfl ?_
        refine J_iload (i := 19) (p := 14) C dL_replacesAll_400 rfl rfl ?_
        refine J_iadd C dL_replacesAll_402 rfl ?_
        refine J_aload (i := 4) (p := 3) C dL_replacesAll_403 rfl rfl ?_
        refine J_iload (i := 19) (p := 14) C dL_replacesAll_405 rfl rfl ?_
        obtain ⟨g_26, h⟩ := Ok.ofgd h
        refine Jl_iald C rfl rfl g_26 dL_replacesAll_407 rfl ?_
        obtain ⟨g_27, h⟩ := Ok.ofgd h
        obtain ⟨τx_24, e_τx_24, h⟩ := Ok.nm h
        refine Jl_iast C id rfl rfl g_27 e_τx_24 dL_replacesAll_408 rfl ?_
        obtain ⟨x19_25, e_x19_25, h⟩ := Ok.nm h
        refine J_iincE (i := 19) (p := 14) (lv' := [(19, .int x19_25), (0, .ref (K.2.2 + 47)), (2, .ref (K.2.2 + 41)), (3, .ref (K.2.2 + 42)), (4, .ref (K.2.2 + 43)), (5, .ref (K.2.2 + 44)), (6, .ref (K.2.2 + 46)), (7, .int l7_352), (8, .int l8_352), (13, .int l13_352), (14, .int l14_352), (15, .int l15_352), (16, .int l16_386), (17, .int l17_386), (18, .int l18_386)]) C e_x19_25 dL_replacesAll_409 rfl (by decide) (Nat.le_of_ble_eq_true rfl) rfl rfl ?_
        refine J_goto (t := 386) C dL_replacesAll_412 (by decide) ?_
        refine J.sub [1, 2, 3, 4, 5, 6, 7, 8, 9, 10, 11, 12, 13, 14, 0] rfl ?_
        exact hB_386 (τx_24, x19_25) h.osome
    unfold fL_replacesAll_b352 at h
    refine J_iload (i := 17) (p := 12) C dL_replacesAll_352 rfl rfl ?_
    refine J_aload_n (i := 2) (p := 1) C dL_replacesAll_354 rfl rfl rfl ?_
    refine J_iconst (v := 0) C (by decide) dL_replacesAll_355 rfl ?_
    obtain ⟨g_28, h⟩ := Ok.ofgd h
    refine Jl_iald C rfl rfl g_28 dL_replacesAll_356 rfl ?_
    refine J_icmp_gt (t := 511) C dL_replacesAll_357 (by decide) rfl (fun c_29 => ?_) (fun c_29 => ?_)
    · have h := h.pos c_29
      have h := hE_352 (τ_352, l16_352, l18_352) h.osome
      try dsimp only at h
      refine J_iload (i := 15) (p := 10) C dL_replacesAll_511 rfl rfl ?_
      refine J_iload (i := 18) (p := 13) C dL_replacesAll_513 rfl rfl ?_
      refine J_icmp_ne (t := 552) C dL_replacesAll_515 (by decide) rfl (fun c_30 => ?_) (fun c_30 => ?_)
      · have h := h.neg c_30
        refine J.sub [] rfl ?_
        exact hj_552 τ_352 h
      · have h := h.pos (Decidable.not_not.mp c_30)
        refine J_aload_n (i := 0) (p := 0) C dL_replacesAll_518 rfl rfl rfl ?_
        refine J_iconst (v := 0) C (by decide) dL_replacesAll_519 rfl ?_
        refine Jl_cV (α := Int32 × Sto) (rest := []) (st9 := fun p_31 => [.int p_31.1]) (wd := fun p_31 => p_31.2) C hR hX cv_RL_134 (k11_count_n hl (Ok.ofnox h) (fun c hc => hc)) rfl rfl (Nat.le_of_ble_eq_true rfl) (Nat.le_of_ble_eq_true rfl) (Nat.le_of_ble_eq_true rfl) ⟨(Nat.le_of_ble_eq_true rfl), (Nat.le_of_ble_eq_true rfl)⟩ dL_replacesAll_520 rfl (fun E n9 w9 hx => hx.elim) (fun _ => rfl) (fun p_31 h => ?_)
        have h : Ok _ _ := h
        change J X K 22 False QQ 16 96 2064 (jl K (τ_352.1, p_31.2)) 523 [(0, .ref (K.2.2 + 47)), (2, .ref (K.2.2 + 41)), (3, .ref (K.2.2 + 42)), (4, .ref (K.2.2 + 43)), (5, .ref (K.2.2 + 44)), (6, .ref (K.2.2 + 46)), (7, .int l7_352), (8, .int l8_352), (13, .int l13_352), (14, .int l14_352), (15, .int l15_352), (16, .int l16_352), (17, .int l17_352), (18, .int l18_352)] [.int p_31.1]
        refine J_iload (i := 16) (p := 11) C dL_replacesAll_523 rfl rfl ?_
        refine J_icmp_ne (t := 552) C dL_replacesAll_525 (by decide) rfl (fun c_32 => ?_) (fun c_32 => ?_)
        · have h := h.neg c_32
          refine J.sub [] rfl ?_
          exact hj_552 (τ_352.1, p_31.2) h
        · have h := h.pos (Decidable.not_not.mp c_32)
          refine J_aload_n (i := 0) (p := 0) C dL_replacesAll_528 rfl rfl rfl ?_
          refine J_iconst (v := 1) C (by decide) dL_replacesAll_529 rfl ?_
          refine Jl_cV (α := Int32 × Sto) (rest := []) (st9 := fun p_33 => [.int p_33.1]) (wd := fun p_33 => p_33.2) C hR hX cv_RL_189 (k11_acts_n hl (Ok.ofnox h) (fun c hc => hc)) rfl rfl (Nat.le_of_ble_eq_true rfl) (Nat.le_of_ble_eq_true rfl) (Nat.le_of_ble_eq_true rfl) ⟨(Nat.le_of_ble_eq_true rfl), (Nat.le_of_ble_eq_true rfl)⟩ dL_replacesAll_530 rfl (fun E n9 w9 hx => hx.elim) (fun _ => rfl) (fun p_33 h => ?_)
          have h : Ok _ _ := h
          change J X K 22 False QQ 16 96 2064 (jl K (τ_352.1, p_33.2)) 533 [(0, .ref (K.2.2 + 47)), (2, .ref (K.2.2 + 41)), (3, .ref (K.2.2 + 42)), (4, .ref (K.2.2 + 43)), (5, .ref (K.2.2 + 44)), (6, .ref (K.2.2 + 46)), (7, .int l7_352), (8, .int l8_352), (13, .int l13_352), (14, .int l14_352), (15, .int l15_352), (16, .int l16_352), (17, .int l17_352), (18, .int l18_352)] [.int p_33.1]
          refine J_iload (i := 14) (p := 9) C dL_replacesAll_533 rfl rfl ?_
          refine J_iload (i := 18) (p := 13) C dL_replacesAll_535 rfl rfl ?_
          refine J_if_le (t := 544) C dL_replacesAll_537 (by decide) rfl (fun c_34 => ?_) (fun c_34 => ?_)
          · have h := h.pos c_34
            refine J_iconst (v := 0) C (by decide) dL_replacesAll_544 rfl ?_
            refine J.sub [0, 2, 4, 5, 6, 7, 11] rfl ?_
            exact hj_545 (τ_352.1, p_33.2) l7_352 l8_352 l16_352 p_33.1 l14_352 (0 : Int32) h
          · have h := h.neg c_34
            refine J_iconst (v := 1) C (by decide) dL_replacesAll_540 rfl ?_
            refine J_goto (t := 545) C dL_replacesAll_541 (by decide) ?_
            refine J.sub [0, 2, 4, 5, 6, 7, 11] rfl ?_
            exact hj_545 (τ_352.1, p_33.2) l7_352 l8_352 l16_352 p_33.1 l14_352 (1 : Int32) h
    · have h := h.neg c_29
      refine J_iload (i := 17) (p := 12) C dL_replacesAll_360 rfl rfl ?_
      refine J_aload_n (i := 2) (p := 1) C dL_replacesAll_362 rfl rfl rfl ?_
      refine J_iconst (v := 0) C (by decide) dL_replacesAll_363 rfl ?_
      obtain ⟨g_35, h⟩ := Ok.ofgd h
      refine Jl_iald C rfl rfl g_35 dL_replacesAll_364 rfl ?_
      refine J_icmp_ge (t := 460) C dL_replacesAll_365 (by decide) rfl (fun c_36 => ?_) (fun c_36 => ?_)
      · have h := h.pos c_36
        exact hj_460 τ_352 l16_352 l17_352 l18_352 h
      · have h := h.neg c_36
        refine J_aload_n (i := 2) (p := 1) C dL_replacesAll_368 rfl rfl rfl ?_
        refine J_iload (i := 17) (p := 12) C dL_replacesAll_369 rfl rfl ?_
        refine J_aload (i := 5) (p := 4) C dL_replacesAll_371 rfl rfl ?_
        refine J_iload (i := 7) (p := 6) C dL_replacesAll_373 rfl rfl ?_
        refine J_iload (i := 8) (p := 7) C dL_replacesAll_375 rfl rfl ?_
        refine Jl_cS (α := Int32) (rest := []) (st9 := fun p_37 => [.int p_37]) C hR hX cs_RL_185 (kL_isFind hl rfl (Ok.ofbnd h)) rfl rfl (Nat.le_of_ble_eq_true rfl) (Nat.le_of_ble_eq_true rfl) (Nat.le_of_ble_eq_true rfl) ⟨(Nat.le_of_ble_eq_true rfl), (Nat.le_of_ble_eq_true rfl)⟩ dL_replacesAll_377 rfl (fun _ => rfl) (fun p_37 h => ?_)
        have h : Ok _ _ := h
        change J X K 22 False QQ 16 96 2064 (jl K τ_352) 380 [(0, .ref (K.2.2 + 47)), (2, .ref (K.2.2 + 41)), (3, .ref (K.2.2 + 42)), (4, .ref (K.2.2 + 43)), (5, .ref (K.2.2 + 44)), (6, .ref (K.2.2 + 46)), (7, .int l7_352), (8, .int l8_352), (13, .int l13_352), (14, .int l14_352), (15, .int l15_352), (16, .int l16_352), (17, .int l17_352), (18, .int l18_352)] [.int p_37]
        refine J_if_eq (t := 460) C dL_replacesAll_380 (by decide) rfl (fun c_38 => ?_) (fun c_38 => ?_)
        · have h := h.pos c_38
          exact hj_460 τ_352 l16_352 l17_352 l18_352 h
        · have h := h.neg c_38
          refine J_iconst (v := 0) C (by decide) dL_replacesAll_383 rfl ?_
          obtain ⟨x19_27, e_x19_27, h⟩ := Ok.nm h
          refine J_istoreE (i := 19) (lv' := [(19, .int x19_27), (0, .ref (K.2.2 + 47)), (2, .ref (K.2.2 + 41)), (3, .ref (K.2.2 + 42)), (4, .ref (K.2.2 + 43)), (5, .ref (K.2.2 + 44)), (6, .ref (K.2.2 + 46)), (7, .int l7_352), (8, .int l8_352), (13, .int l13_352), (14, .int l14_352), (15, .int l15_352), (16, .int l16_352), (17, .int l17_352), (18, .int l18_352)]) C e_x19_27 dL_replacesAll_384 (Nat.le_of_ble_eq_true rfl) rfl rfl ?_
          refine J.sub [1, 2, 3, 4, 5, 6, 7, 8, 9, 10, 11, 12, 13, 14, 0] rfl ?_
          exact hj_386 τ_352 l16_352 l17_352 l18_352 x19_27 h
  have hj_332 : (∀ (τ_332 : LawS) (l7_332 : Int32) (l8_332 : Int32) (l13_332 : Int32) (l14_332 : Int32) (l15_332 : Int32) (l16_332 : Int32) (l17_332 : Int32) (l18_332 : Int32) (l19_332 : Int32), Ok (fL_replacesAll_j332 τ_332 l7_332 l8_332 l13_332 l14_332 l15_332 l16_332 l17_332 l18_332 l19_332) Qf → J X K 22 False QQ 16 96 2064 (jl K τ_332) 332 [(0, .ref (K.2.2 + 47)), (2, .ref (K.2.2 + 41)), (3, .ref (K.2.2 + 42)), (4, .ref (K.2.2 + 43)), (5, .ref (K.2.2 + 44)), (6, .ref (K.2.2 + 46)), (7, .int l7_332), (8, .int l8_332), (13, .int l13_332), (14, .int l14_332), (15, .int l15_332), (16, .int l16_332), (17, .int l17_332), (18, .int l18_332), (19, .int l19_332)] []) := by
    intro τ_332 l7_332 l8_332 l13_332 l14_332 l15_332 l16_332 l17_332 l18_332 l19_332 h
    unfold fL_replacesAll_j332 at h
    refine loop_gen (S := LawS × Int32) (P := fun s_332 => J X K 22 False QQ 16 96 2064 (jl K s_332.1) 332 [(0, .ref (K.2.2 + 47)), (2, .ref (K.2.2 + 41)), (3, .ref (K.2.2 + 42)), (4, .ref (K.2.2 + 43)), (5, .ref (K.2.2 + 44)), (6, .ref (K.2.2 + 46)), (7, .int l7_332), (8, .int l8_332), (13, .int l13_332), (14, .int l14_332), (15, .int l15_332), (16, .int l16_332), (17, .int l17_332), (18, .int l18_332), (19, .int s_332.2)] []) ?_ FU (τ_332, l19_332) (Ok.ofbnd h)
    intro B_332 hB_332 hE_332 s_332 h
    obtain ⟨τ_332, l19_332⟩ := s_332
    have h : Ok (fL_replacesAll_b332 τ_332 l7_332 l8_332 l13_332 l14_332 l15_332 l16_332 l17_332 l18_332 l19_332) B_332 := h
    change J X K 22 False QQ 16 96 2064 (jl K τ_332) 332 [(0, .ref (K.2.2 + 47)), (2, .ref (K.2.2 + 41)), (3, .ref (K.2.2 + 42)), (4, .ref (K.2.2 + 43)), (5, .ref (K.2.2 + 44)), (6, .ref (K.2.2 + 46)), (7, .int l7_332), (8, .int l8_332), (13, .int l13_332), (14, .int l14_332), (15, .int l15_332), (16, .int l16_332), (17, .int l17_332), (18, .int l18_332), (19, .int l19_332)] []
    unfold fL_replacesAll_b332 at h
    refine J_iload (i := 19) (p := 14) C dL_replacesAll_332 rfl rfl ?_
    refine J_sipush (v := 3500) C (by decide) dL_replacesAll_334 rfl ?_
    refine J_icmp_ge (t := 352) C dL_replacesAll_337 (by decide) rfl (fun c_44 => ?_) (fun c_44 => ?_)
    · have h := h.pos c_44
      have h := hE_332 τ_332 h.osome
      try dsimp only at h
      refine J.sub [0, 1, 2, 3, 4, 5, 6, 7, 8, 9, 10, 11, 12, 13] rfl ?_
      exact hj_352 τ_332 l7_332 l8_332 l13_332 l14_332 l15_332 l16_332 l17_332 l18_332 h
    · have h := h.neg c_44
      refine J_aload (i := 6) (p := 5) C dL_replacesAll_340 rfl rfl ?_
      refine J_iload (i := 19) (p := 14) C dL_replacesAll_342 rfl rfl ?_
      refine J_iconst (v := 0) C (by decide) dL_replacesAll_344 rfl ?_
      obtain ⟨g_45, h⟩ := Ok.ofgd h
      obtain ⟨τx_28, e_τx_28, h⟩ := Ok.nm h
      refine Jl_zast C id rfl rfl g_45 e_τx_28 dL_replacesAll_345 rfl ?_
      obtain ⟨x19_29, e_x19_29, h⟩ := Ok.nm h
      refine J_iincE (i := 19) (p := 14) (lv' := [(19, .int x19_29), (0, .ref (K.2.2 + 47)), (2, .ref (K.2.2 + 41)), (3, .ref (K.2.2 + 42)), (4, .ref (K.2.2 + 43)), (5, .ref (K.2.2 + 44)), (6, .ref (K.2.2 + 46)), (7, .int l7_332), (8, .int l8_332), (13, .int l13_332), (14, .int l14_332), (15, .int l15_332), (16, .int l16_332), (17, .int l17_332), (18, .int l18_332)]) C e_x19_29 dL_replacesAll_346 rfl (by decide) (Nat.le_of_ble_eq_true rfl) rfl rfl ?_
      refine J_goto (t := 332) C dL_replacesAll_349 (by decide) ?_
      refine J.sub [1, 2, 3, 4, 5, 6, 7, 8, 9, 10, 11, 12, 13, 14, 0] rfl ?_
      exact hB_332 (τx_28, x19_29) h.osome
  have hj_265 : (∀ (τ_265 : LawS), Ok (fL_replacesAll_j265 τ_265) Qf → J X K 22 False QQ 12 72 2064 (jl K τ_265) 265 [] []) := by
    intro τ_265 h
    unfold fL_replacesAll_j265 at h
    refine J_iconst (v := 0) C (by decide) dL_replacesAll_265 rfl ?_
    rw [← hQQ]
    exact J_zret C hret rfl (Nat.le_of_ble_eq_true rfl) (Nat.le_of_ble_eq_true rfl) ⟨_, h.osome, rfl, rfl, rfl⟩ dL_replacesAll_266
  have hj_247 : (∀ (τ_247 : LawS) (l7_247 : Int32) (l8_247 : Int32) (l10_247 : Int32) (l12_247 : Int32) (s0_247 : Int32) (s1_247 : Int32), Ok (fL_replacesAll_j247 τ_247 l7_247 l8_247 l10_247 l12_247 s0_247 s1_247) Qf → J X K 22 False QQ 8 48 2064 (jl K τ_247) 247 [(0, .ref (K.2.2 + 47)), (1, .ref (K.2.2 + 0)), (2, .ref (K.2.2 + 41)), (3, .ref (K.2.2 + 42)), (4, .ref (K.2.2 + 43)), (5, .ref (K.2.2 + 44)), (6, .ref (K.2.2 + 46)), (7, .int l7_247), (8, .int l8_247), (10, .int l10_247), (12, .int l12_247)] [.int s1_247, .int s0_247]) := by
    intro τ_247 l7_247 l8_247 l10_247 l12_247 s0_247 s1_247 h
    unfold fL_replacesAll_j247 at h
    refine J_icmp_ne (t := 265) C dL_replacesAll_247 (by decide) rfl (fun c_46 => ?_) (fun c_46 => ?_)
    · have h := h.neg c_46
      refine J.widen (k' := 12) (sl' := 72) (Nat.le_of_ble_eq_true rfl) (Nat.le_of_ble_eq_true rfl) ?_
      refine J.sub [] rfl ?_
      exact hj_265 τ_247 h
    · have h := h.pos (Decidable.not_not.mp c_46)
      refine J_aload_n (i := 0) (p := 0) C dL_replacesAll_250 rfl rfl rfl ?_
      refine J_bipush (v := 23) C (by decide) dL_replacesAll_251 rfl ?_
      refine J_iload (i := 10) (p := 9) C dL_replacesAll_253 rfl rfl ?_
      refine J_iconst (v := 0) C (by decide) dL_replacesAll_255 rfl ?_
      refine J_iconst (v := 0) C (by decide) dL_replacesAll_256 rfl ?_
      refine Jl_cH (α := Int32 × LawS) (rest := []) (st9 := fun p_47 => [.int p_47.1]) C hR hX ch_RL_174 (kL_done hl  (Ok.ofbnd h)) rfl rfl (Nat.le_of_ble_eq_true rfl) (Nat.le_of_ble_eq_true rfl) (Nat.le_of_ble_eq_true rfl) ⟨(Nat.le_of_ble_eq_true rfl), (Nat.le_of_ble_eq_true rfl)⟩ dL_replacesAll_257 rfl (fun _ => rfl) (fun p_47 h => ?_)
      have h : Ok _ _ := h
      change J X K 22 False QQ 12 72 2064 (jl K p_47.2) 260 [(0, .ref (K.2.2 + 47)), (1, .ref (K.2.2 + 0)), (2, .ref (K.2.2 + 41)), (3, .ref (K.2.2 + 42)), (4, .ref (K.2.2 + 43)), (5, .ref (K.2.2 + 44)), (6, .ref (K.2.2 + 46)), (7, .int l7_247), (8, .int l8_247), (10, .int l10_247), (12, .int l12_247)] [.int p_47.1]
      refine J_iload (i := 12) (p := 10) C dL_replacesAll_260 rfl rfl ?_
      refine J_icmp_eq (t := 267) C dL_replacesAll_262 (by decide) rfl (fun c_48 => ?_) (fun c_48 => ?_)
      · have h := h.pos c_48
        refine J_aload_n (i := 1) (p := 1) C dL_replacesAll_267 rfl rfl rfl ?_
        refine J_aload (i := 4) (p := 4) C dL_replacesAll_268 rfl rfl ?_
        refine Jl_cS (α := Int32 × LawS) (rest := []) (st9 := fun p_49 => [.int p_49.1]) C hR hX cs_RL_161 (kL_draws hl  (Ok.ofbnd h)) rfl rfl (Nat.le_of_ble_eq_true rfl) (Nat.le_of_ble_eq_true rfl) (Nat.le_of_ble_eq_true rfl) ⟨(Nat.le_of_ble_eq_true rfl), (Nat.le_of_ble_eq_true rfl)⟩ dL_replacesAll_270 rfl (fun _ => rfl) (fun p_49 h => ?_)
        have h : Ok _ _ := h
        change J X K 22 False QQ 12 72 2064 (jl K p_49.2) 273 [(0, .ref (K.2.2 + 47)), (1, .ref (K.2.2 + 0)), (2, .ref (K.2.2 + 41)), (3, .ref (K.2.2 + 42)), (4, .ref (K.2.2 + 43)), (5, .ref (K.2.2 + 44)), (6, .ref (K.2.2 + 46)), (7, .int l7_247), (8, .int l8_247), (10, .int l10_247), (12, .int l12_247)] [.int p_49.1]
        obtain ⟨x13_30, e_x13_30, h⟩ := Ok.nm h
        refine J_istoreE (i := 13) (lv' := [(13, .int x13_30), (0, .ref (K.2.2 + 47)), (1, .ref (K.2.2 + 0)), (2, .ref (K.2.2 + 41)), (3, .ref (K.2.2 + 42)), (4, .ref (K.2.2 + 43)), (5, .ref (K.2.2 + 44)), (6, .ref (K.2.2 + 46)), (7, .int l7_247), (8, .int l8_247), (10, .int l10_247), (12, .int l12_247)]) C e_x13_30 dL_replacesAll_273 (Nat.le_of_ble_eq_true rfl) rfl rfl ?_
        refine J_aload_n (i := 0) (p := 1) C dL_replacesAll_275 rfl rfl rfl ?_
        refine J_aload (i := 4) (p := 5) C dL_replacesAll_276 rfl rfl ?_
        refine J_iload (i := 13) (p := 0) C dL_replacesAll_278 rfl rfl ?_
        refine Jl_cS (α := Int32 × LawS) (rest := []) (st9 := fun p_50 => [.int p_50.1]) C hR hX cs_RL_165 (kL_feeds hl rfl (Ok.ofbnd h)) rfl rfl (Nat.le_of_ble_eq_true rfl) (Nat.le_of_ble_eq_true rfl) (Nat.le_of_ble_eq_true rfl) ⟨(Nat.le_of_ble_eq_true rfl), (Nat.le_of_ble_eq_true rfl)⟩ dL_replacesAll_280 rfl (fun _ => rfl) (fun p_50 h => ?_)
        have h : Ok _ _ := h
        change J X K 22 False QQ 12 72 2064 (jl K p_50.2) 283 [(13, .int x13_30), (0, .ref (K.2.2 + 47)), (1, .ref (K.2.2 + 0)), (2, .ref (K.2.2 + 41)), (3, .ref (K.2.2 + 42)), (4, .ref (K.2.2 + 43)), (5, .ref (K.2.2 + 44)), (6, .ref (K.2.2 + 46)), (7, .int l7_247), (8, .int l8_247), (10, .int l10_247), (12, .int l12_247)] [.int p_50.1]
        refine J_if_ne (t := 288) C dL_replacesAll_283 (by decide) rfl (fun c_51 => ?_) (fun c_51 => ?_)
        · have h := h.neg c_51
          refine J_aload_n (i := 0) (p := 1) C dL_replacesAll_288 rfl rfl rfl ?_
          refine J_iconst (v := 1) C (by decide) dL_replacesAll_289 rfl ?_
          refine Jl_cV (α := Int32 × Sto) (rest := []) (st9 := fun p_52 => [.int p_52.1]) (wd := fun p_52 => p_52.2) C hR hX cv_RL_189 (k11_acts_n hl (Ok.ofnox h) (fun c hc => hc)) rfl rfl (Nat.le_of_ble_eq_true rfl) (Nat.le_of_ble_eq_true rfl) (Nat.le_of_ble_eq_true rfl) ⟨(Nat.le_of_ble_eq_true rfl), (Nat.le_of_ble_eq_true rfl)⟩ dL_replacesAll_290 rfl (fun E n9 w9 hx => hx.elim) (fun _ => rfl) (fun p_52 h => ?_)
          have h : Ok _ _ := h
          change J X K 22 False QQ 12 72 2064 (jl K (p_50.2.1, p_52.2)) 293 [(13, .int x13_30), (0, .ref (K.2.2 + 47)), (1, .ref (K.2.2 + 0)), (2, .ref (K.2.2 + 41)), (3, .ref (K.2.2 + 42)), (4, .ref (K.2.2 + 43)), (5, .ref (K.2.2 + 44)), (6, .ref (K.2.2 + 46)), (7, .int l7_247), (8, .int l8_247), (10, .int l10_247), (12, .int l12_247)] [.int p_52.1]
          obtain ⟨x14_31, e_x14_31, h⟩ := Ok.nm h
          refine J_istoreE (i := 14) (lv' := [(14, .int x14_31), (13, .int x13_30), (0, .ref (K.2.2 + 47)), (1, .ref (K.2.2 + 0)), (2, .ref (K.2.2 + 41)), (3, .ref (K.2.2 + 42)), (4, .ref (K.2.2 + 43)), (5, .ref (K.2.2 + 44)), (6, .ref (K.2.2 + 46)), (7, .int l7_247), (8, .int l8_247), (10, .int l10_247), (12, .int l12_247)]) C e_x14_31 dL_replacesAll_293 (Nat.le_of_ble_eq_true rfl) rfl rfl ?_
          refine J_aload_n (i := 0) (p := 2) C dL_replacesAll_295 rfl rfl rfl ?_
          refine J_bipush (v := 9) C (by decide) dL_replacesAll_296 rfl ?_
          refine J_iconst (v := 0) C (by decide) dL_replacesAll_298 rfl ?_
          refine J_iconst (v := 0) C (by decide) dL_replacesAll_299 rfl ?_
          refine J_iconst (v := 0) C (by decide) dL_replacesAll_300 rfl ?_
          refine Jl_cH (α := Int32 × LawS) (rest := []) (st9 := fun p_53 => [.int p_53.1]) C hR hX ch_RL_174 (kL_done hl  (Ok.ofbnd h)) rfl rfl (Nat.le_of_ble_eq_true rfl) (Nat.le_of_ble_eq_true rfl) (Nat.le_of_ble_eq_true rfl) ⟨(Nat.le_of_ble_eq_true rfl), (Nat.le_of_ble_eq_true rfl)⟩ dL_replacesAll_301 rfl (fun _ => rfl) (fun p_53 h => ?_)
          have h : Ok _ _ := h
          change J X K 22 False QQ 16 96 2064 (jl K p_53.2) 304 [(14, .int x14_31), (13, .int x13_30), (0, .ref (K.2.2 + 47)), (1, .ref (K.2.2 + 0)), (2, .ref (K.2.2 + 41)), (3, .ref (K.2.2 + 42)), (4, .ref (K.2.2 + 43)), (5, .ref (K.2.2 + 44)), (6, .ref (K.2.2 + 46)), (7, .int l7_247), (8, .int l8_247), (10, .int l10_247), (12, .int l12_247)] [.int p_53.1]
          obtain ⟨x15_32, e_x15_32, h⟩ := Ok.nm h
          refine J_istoreE (i := 15) (lv' := [(15, .int x15_32), (14, .int x14_31), (13, .int x13_30), (0, .ref (K.2.2 + 47)), (1, .ref (K.2.2 + 0)), (2, .ref (K.2.2 + 41)), (3, .ref (K.2.2 + 42)), (4, .ref (K.2.2 + 43)), (5, .ref (K.2.2 + 44)), (6, .ref (K.2.2 + 46)), (7, .int l7_247), (8, .int l8_247), (10, .int l10_247), (12, .int l12_247)]) C e_x15_32 dL_replacesAll_304 (Nat.le_of_ble_eq_true rfl) rfl rfl ?_
          refine J_iload (i := 15) (p := 0) C dL_replacesAll_306 rfl rfl ?_
          refine J_ldc (v := -1000003) C ci_RL_123 dL_replacesAll_308 rfl ?_
          refine J_icmp_ne (t := 320) C dL_replacesAll_310 (by decide) rfl (fun c_54 => ?_) (fun c_54 => ?_)
          · have h := h.neg c_54
            refine J_iconst (v := 0) C (by decide) dL_replacesAll_320 rfl ?_
            obtain ⟨x16_33, e_x16_33, h⟩ := Ok.nm h
            refine J_istoreE (i := 16) (lv' := [(16, .int x16_33), (15, .int x15_32), (14, .int x14_31), (13, .int x13_30), (0, .ref (K.2.2 + 47)), (1, .ref (K.2.2 + 0)), (2, .ref (K.2.2 + 41)), (3, .ref (K.2.2 + 42)), (4, .ref (K.2.2 + 43)), (5, .ref (K.2.2 + 44)), (6, .ref (K.2.2 + 46)), (7, .int l7_247), (8, .int l8_247), (10, .int l10_247), (12, .int l12_247)]) C e_x16_33 dL_replacesAll_321 (Nat.le_of_ble_eq_true rfl) rfl rfl ?_
            refine J_iconst (v := 0) C (by decide) dL_replacesAll_323 rfl ?_
            obtain ⟨x17_34, e_x17_34, h⟩ := Ok.nm h
            refine J_istoreE (i := 17) (lv' := [(17, .int x17_34), (16, .int x16_33), (15, .int x15_32), (14, .int x14_31), (13, .int x13_30), (0, .ref (K.2.2 + 47)), (1, .ref (K.2.2 + 0)), (2, .ref (K.2.2 + 41)), (3, .ref (K.2.2 + 42)), (4, .ref (K.2.2 + 43)), (5, .ref (K.2.2 + 44)), (6, .ref (K.2.2 + 46)), (7, .int l7_247), (8, .int l8_247), (10, .int l10_247), (12, .int l12_247)]) C e_x17_34 dL_replacesAll_324 (Nat.le_of_ble_eq_true rfl) rfl rfl ?_
            refine J_iconst (v := 0) C (by decide) dL_replacesAll_326 rfl ?_
            obtain ⟨x18_35, e_x18_35, h⟩ := Ok.nm h
            refine J_istoreE (i := 18) (lv' := [(18, .int x18_35), (17, .int x17_34), (16, .int x16_33), (15, .int x15_32), (14, .int x14_31), (13, .int x13_30), (0, .ref (K.2.2 + 47)), (1, .ref (K.2.2 + 0)), (2, .ref (K.2.2 + 41)), (3, .ref (K.2.2 + 42)), (4, .ref (K.2.2 + 43)), (5, .ref (K.2.2 + 44)), (6, .ref (K.2.2 + 46)), (7, .int l7_247), (8, .int l8_247), (10, .int l10_247), (12, .int l12_247)]) C e_x18_35 dL_replacesAll_327 (Nat.le_of_ble_eq_true rfl) rfl rfl ?_
            refine J_iconst (v := 0) C (by decide) dL_replacesAll_329 rfl ?_
            obtain ⟨x19_36, e_x19_36, h⟩ := Ok.nm h
            refine J_istoreE (i := 19) (lv' := [(19, .int x19_36), (18, .int x18_35), (17, .int x17_34), (16, .int x16_33), (15, .int x15_32), (14, .int x14_31), (13, .int x13_30), (0, .ref (K.2.2 + 47)), (1, .ref (K.2.2 + 0)), (2, .ref (K.2.2 + 41)), (3, .ref (K.2.2 + 42)), (4, .ref (K.2.2 + 43)), (5, .ref (K.2.2 + 44)), (6, .ref (K.2.2 + 46)), (7, .int l7_247), (8, .int l8_247), (10, .int l10_247), (12, .int l12_247)]) C e_x19_36 dL_replacesAll_330 (Nat.le_of_ble_eq_true rfl) rfl rfl ?_
            refine J.sub [7, 9, 10, 11, 12, 13, 14, 15, 6, 5, 4, 3, 2, 1, 0] rfl ?_
            exact hj_332 p_53.2 l7_247 l8_247 x13_30 x14_31 x15_32 x16_33 x17_34 x18_35 x19_36 h
          · have h := h.pos (Decidable.not_not.mp c_54)
            refine J_aload_n (i := 0) (p := 3) C dL_replacesAll_313 rfl rfl rfl ?_
            refine J_aload_n (i := 2) (p := 5) C dL_replacesAll_314 rfl rfl rfl ?_
            refine J_aload_n (i := 3) (p := 6) C dL_replacesAll_315 rfl rfl rfl ?_
            refine Jl_cS (α := Int32 × LawS) (rest := []) (st9 := fun p_55 => [.int p_55.1]) C hR hX cs_RL_178 (kL_isLike hl rfl (Ok.ofbnd h)) rfl rfl (Nat.le_of_ble_eq_true rfl) (Nat.le_of_ble_eq_true rfl) (Nat.le_of_ble_eq_true rfl) ⟨(Nat.le_of_ble_eq_true rfl), (Nat.le_of_ble_eq_true rfl)⟩ dL_replacesAll_316 rfl (fun _ => rfl) (fun p_55 h => ?_)
            have h : Ok _ _ := h
            change J X K 22 False QQ 16 96 2064 (jl K p_55.2) 319 [(15, .int x15_32), (14, .int x14_31), (13, .int x13_30), (0, .ref (K.2.2 + 47)), (1, .ref (K.2.2 + 0)), (2, .ref (K.2.2 + 41)), (3, .ref (K.2.2 + 42)), (4, .ref (K.2.2 + 43)), (5, .ref (K.2.2 + 44)), (6, .ref (K.2.2 + 46)), (7, .int l7_247), (8, .int l8_247), (10, .int l10_247), (12, .int l12_247)] [.int p_55.1]
            obtain ⟨g_56, h⟩ := Ok.ofgd h
            rw [← hQQ]
            exact J_zret C hret (narB g_56).1 (Nat.le_of_ble_eq_true rfl) (Nat.le_of_ble_eq_true rfl) ⟨_, h.osome, rfl, rfl, rfl⟩ dL_replacesAll_319
        · have h := h.pos (Decidable.not_not.mp c_51)
          refine J_iconst (v := 0) C (by decide) dL_replacesAll_286 rfl ?_
          rw [← hQQ]
          exact J_zret C hret rfl (Nat.le_of_ble_eq_true rfl) (Nat.le_of_ble_eq_true rfl) ⟨_, h.osome, rfl, rfl, rfl⟩ dL_replacesAll_287
      · have h := h.neg c_48
        refine J.sub [] rfl ?_
        exact hj_265 p_47.2 h
  have hj_223 : (∀ (τ_223 : LawS) (l7_223 : Int32) (l8_223 : Int32) (l10_223 : Int32) (l11_223 : Int32) (l12_223 : Int32), Ok (fL_replacesAll_j223 τ_223 l7_223 l8_223 l10_223 l11_223 l12_223) Qf → J X K 22 False QQ 4 24 2064 (jl K τ_223) 223 [(0, .ref (K.2.2 + 47)), (1, .ref (K.2.2 + 0)), (2, .ref (K.2.2 + 41)), (3, .ref (K.2.2 + 42)), (4, .ref (K.2.2 + 43)), (5, .ref (K.2.2 + 44)), (6, .ref (K.2.2 + 46)), (7, .int l7_223), (8, .int l8_223), (10, .int l10_223), (11, .int l11_223), (12, .int l12_223)] []) := by
    intro τ_223 l7_223 l8_223 l10_223 l11_223 l12_223 h
    unfold fL_replacesAll_j223 at h
    refine J_aload_n (i := 0) (p := 0) C dL_replacesAll_223 rfl rfl rfl ?_
    refine J_bipush (v := 23) C (by decide) dL_replacesAll_224 rfl ?_
    refine J_iload (i := 10) (p := 9) C dL_replacesAll_226 rfl rfl ?_
    refine J_iconst (v := 1) C (by decide) dL_replacesAll_228 rfl ?_
    refine J_iconst (v := 0) C (by decide) dL_replacesAll_229 rfl ?_
    refine Jl_cH (α := Int32 × LawS) (rest := []) (st9 := fun p_57 => [.int p_57.1]) C hR hX ch_RL_174 (kL_done hl  (Ok.ofbnd h)) rfl rfl (Nat.le_of_ble_eq_true rfl) (Nat.le_of_ble_eq_true rfl) (Nat.le_of_ble_eq_true rfl) ⟨(Nat.le_of_ble_eq_true rfl), (Nat.le_of_ble_eq_true rfl)⟩ dL_replacesAll_230 rfl (fun _ => rfl) (fun p_57 h => ?_)
    have h : Ok _ _ := h
    change J X K 22 False QQ 8 48 2064 (jl K p_57.2) 233 [(0, .ref (K.2.2 + 47)), (1, .ref (K.2.2 + 0)), (2, .ref (K.2.2 + 41)), (3, .ref (K.2.2 + 42)), (4, .ref (K.2.2 + 43)), (5, .ref (K.2.2 + 44)), (6, .ref (K.2.2 + 46)), (7, .int l7_223), (8, .int l8_223), (10, .int l10_223), (11, .int l11_223), (12, .int l12_223)] [.int p_57.1]
    refine J_iload (i := 11) (p := 10) C dL_replacesAll_233 rfl rfl ?_
    refine J_aload_n (i := 2) (p := 2) C dL_replacesAll_235 rfl rfl rfl ?_
    refine J_iconst (v := 0) C (by decide) dL_replacesAll_236 rfl ?_
    obtain ⟨g_58, h⟩ := Ok.ofgd h
    refine Jl_iald C rfl rfl g_58 dL_replacesAll_237 rfl ?_
    refine J_icmp_ge (t := 246) C dL_replacesAll_238 (by decide) rfl (fun c_59 => ?_) (fun c_59 => ?_)
    · have h := h.pos c_59
      refine J_iconst (v := -1) C (by decide) dL_replacesAll_246 rfl ?_
      refine J.sub [0, 1, 2, 3, 4, 5, 6, 7, 8, 9, 11] rfl ?_
      exact hj_247 p_57.2 l7_223 l8_223 l10_223 l12_223 p_57.1 (-1 : Int32) h
    · have h := h.neg c_59
      refine J_iload (i := 11) (p := 10) C dL_replacesAll_241 rfl rfl ?_
      refine J_goto (t := 247) C dL_replacesAll_243 (by decide) ?_
      refine J.sub [0, 1, 2, 3, 4, 5, 6, 7, 8, 9, 11] rfl ?_
      exact hj_247 p_57.2 l7_223 l8_223 l10_223 l12_223 p_57.1 l11_223 h
  have hj_197 : (∀ (τ_197 : LawS) (l7_197 : Int32) (l8_197 : Int32) (l10_197 : Int32) (l11_197 : Int32) (l12_197 : Int32), Ok (fL_replacesAll_j197 τ_197 l7_197 l8_197 l10_197 l11_197 l12_197) Qf → J X K 22 False QQ 4 24 2064 (jl K τ_197) 197 [(0, .ref (K.2.2 + 47)), (1, .ref (K.2.2 + 0)), (2, .ref (K.2.2 + 41)), (3, .ref (K.2.2 + 42)), (4, .ref (K.2.2 + 43)), (5, .ref (K.2.2 + 44)), (6, .ref (K.2.2 + 46)), (7, .int l7_197), (8, .int l8_197), (10, .int l10_197), (11, .int l11_197), (12, .int l12_197)] []) := by
    intro τ_197 l7_197 l8_197 l10_197 l11_197 l12_197 h
    unfold fL_replacesAll_j197 at h
    refine loop_gen (S := Int32) (P := fun s_197 => J X K 22 False QQ 4 24 2064 (jl K τ_197) 197 [(0, .ref (K.2.2 + 47)), (1, .ref (K.2.2 + 0)), (2, .ref (K.2.2 + 41)), (3, .ref (K.2.2 + 42)), (4, .ref (K.2.2 + 43)), (5, .ref (K.2.2 + 44)), (6, .ref (K.2.2 + 46)), (7, .int l7_197), (8, .int l8_197), (10, .int l10_197), (11, .int l11_197), (12, .int s_197)] []) ?_ FU l12_197 (Ok.ofbnd h)
    intro B_197 hB_197 hE_197 s_197 h
    generalize s_197 = l12_197 at h ⊢
    have h : Ok (fL_replacesAll_b197 τ_197 l7_197 l8_197 l10_197 l11_197 l12_197) B_197 := h
    change J X K 22 False QQ 4 24 2064 (jl K τ_197) 197 [(0, .ref (K.2.2 + 47)), (1, .ref (K.2.2 + 0)), (2, .ref (K.2.2 + 41)), (3, .ref (K.2.2 + 42)), (4, .ref (K.2.2 + 43)), (5, .ref (K.2.2 + 44)), (6, .ref (K.2.2 + 46)), (7, .int l7_197), (8, .int l8_197), (10, .int l10_197), (11, .int l11_197), (12, .int l12_197)] []
    unfold fL_replacesAll_b197 at h
    refine J_iload (i := 12) (p := 11) C dL_replacesAll_197 rfl rfl ?_
    refine J_if_lt (t := 223) C dL_replacesAll_199 (by decide) rfl (fun c_60 => ?_) (fun c_60 => ?_)
    · have h := h.pos c_60
      have h := hE_197 l12_197 h.osome
      try dsimp only at h
      exact hj_223 τ_197 l7_197 l8_197 l10_197 l11_197 l12_197 h
    · have h := h.neg c_60
      refine J_aload_n (i := 2) (p := 2) C dL_replacesAll_202 rfl rfl rfl ?_
      refine J_iload (i := 12) (p := 11) C dL_replacesAll_203 rfl rfl ?_
      refine J_aload (i := 5) (p := 5) C dL_replacesAll_205 rfl rfl ?_
      refine J_iload (i := 7) (p := 7) C dL_replacesAll_207 rfl rfl ?_
      refine J_iload (i := 8) (p := 8) C dL_replacesAll_209 rfl rfl ?_
      refine Jl_cS (α := Int32) (rest := []) (st9 := fun p_61 => [.int p_61]) C hR hX cs_RL_185 (kL_isFind hl rfl (Ok.ofbnd h)) rfl rfl (Nat.le_of_ble_eq_true rfl) (Nat.le_of_ble_eq_true rfl) (Nat.le_of_ble_eq_true rfl) ⟨(Nat.le_of_ble_eq_true rfl), (Nat.le_of_ble_eq_true rfl)⟩ dL_replacesAll_211 rfl (fun _ => rfl) (fun p_61 h => ?_)
      have h : Ok _ _ := h
      change J X K 22 False QQ 4 24 2064 (jl K τ_197) 214 [(0, .ref (K.2.2 + 47)), (1, .ref (K.2.2 + 0)), (2, .ref (K.2.2 + 41)), (3, .ref (K.2.2 + 42)), (4, .ref (K.2.2 + 43)), (5, .ref (K.2.2 + 44)), (6, .ref (K.2.2 + 46)), (7, .int l7_197), (8, .int l8_197), (10, .int l10_197), (11, .int l11_197), (12, .int l12_197)] [.int p_61]
      refine J_if_ne (t := 223) C dL_replacesAll_214 (by decide) rfl (fun c_62 => ?_) (fun c_62 => ?_)
      · have h := h.neg c_62
        have h := hE_197 l12_197 h.osome
        try dsimp only at h
        exact hj_223 τ_197 l7_197 l8_197 l10_197 l11_197 l12_197 h
      · have h := h.pos (Decidable.not_not.mp c_62)
        obtain ⟨x12_37, e_x12_37, h⟩ := Ok.nm h
        refine J_iincE (i := 12) (p := 11) (lv' := [(12, .int x12_37), (0, .ref (K.2.2 + 47)), (1, .ref (K.2.2 + 0)), (2, .ref (K.2.2 + 41)), (3, .ref (K.2.2 + 42)), (4, .ref (K.2.2 + 43)), (5, .ref (K.2.2 + 44)), (6, .ref (K.2.2 + 46)), (7, .int l7_197), (8, .int l8_197), (10, .int l10_197), (11, .int l11_197)]) C e_x12_37 dL_replacesAll_217 rfl (by decide) (Nat.le_of_ble_eq_true rfl) rfl rfl ?_
        refine J_goto (t := 197) C dL_replacesAll_220 (by decide) ?_
        refine J.sub [1, 2, 3, 4, 5, 6, 7, 8, 9, 10, 11, 0] rfl ?_
        exact hB_197 x12_37 h.osome
  have hj_191 : (∀ (τ_191 : LawS) (l7_191 : Int32) (l8_191 : Int32) (l10_191 : Int32) (l11_191 : Int32), Ok (fL_replacesAll_j191 τ_191 l7_191 l8_191 l10_191 l11_191) Qf → J X K 22 False QQ 4 24 2064 (jl K τ_191) 191 [(0, .ref (K.2.2 + 47)), (1, .ref (K.2.2 + 0)), (2, .ref (K.2.2 + 41)), (3, .ref (K.2.2 + 42)), (4, .ref (K.2.2 + 43)), (5, .ref (K.2.2 + 44)), (6, .ref (K.2.2 + 46)), (7, .int l7_191), (8, .int l8_191), (10, .int l10_191), (11, .int l11_191)] []) := by
    intro τ_191 l7_191 l8_191 l10_191 l11_191 h
    unfold fL_replacesAll_j191 at h
    refine J_iload (i := 10) (p := 9) C dL_replacesAll_191 rfl rfl ?_
    refine J_iconst (v := 1) C (by decide) dL_replacesAll_193 rfl ?_
    refine J_isub C dL_replacesAll_194 rfl ?_
    obtain ⟨x12_38, e_x12_38, h⟩ := Ok.nm h
    refine J_istoreE (i := 12) (lv' := [(12, .int x12_38), (0, .ref (K.2.2 + 47)), (1, .ref (K.2.2 + 0)), (2, .ref (K.2.2 + 41)), (3, .ref (K.2.2 + 42)), (4, .ref (K.2.2 + 43)), (5, .ref (K.2.2 + 44)), (6, .ref (K.2.2 + 46)), (7, .int l7_191), (8, .int l8_191), (10, .int l10_191), (11, .int l11_191)]) C e_x12_38 dL_replacesAll_195 (Nat.le_of_ble_eq_true rfl) rfl rfl ?_
    refine J.sub [1, 2, 3, 4, 5, 6, 7, 8, 9, 10, 11, 0] rfl ?_
    exact hj_197 τ_191 l7_191 l8_191 l10_191 l11_191 x12_38 h
  have hj_162 : (∀ (τ_162 : LawS) (l7_162 : Int32) (l8_162 : Int32) (l10_162 : Int32) (l11_162 : Int32), Ok (fL_replacesAll_j162 τ_162 l7_162 l8_162 l10_162 l11_162) Qf → J X K 22 False QQ 4 24 2064 (jl K τ_162) 162 [(0, .ref (K.2.2 + 47)), (1, .ref (K.2.2 + 0)), (2, .ref (K.2.2 + 41)), (3, .ref (K.2.2 + 42)), (4, .ref (K.2.2 + 43)), (5, .ref (K.2.2 + 44)), (6, .ref (K.2.2 + 46)), (7, .int l7_162), (8, .int l8_162), (10, .int l10_162), (11, .int l11_162)] []) := by
    intro τ_162 l7_162 l8_162 l10_162 l11_162 h
    unfold fL_replacesAll_j162 at h
    refine loop_gen (S := Int32) (P := fun s_162 => J X K 22 False QQ 4 24 2064 (jl K τ_162) 162 [(0, .ref (K.2.2 + 47)), (1, .ref (K.2.2 + 0)), (2, .ref (K.2.2 + 41)), (3, .ref (K.2.2 + 42)), (4, .ref (K.2.2 + 43)), (5, .ref (K.2.2 + 44)), (6, .ref (K.2.2 + 46)), (7, .int l7_162), (8, .int l8_162), (10, .int l10_162), (11, .int s_162)] []) ?_ FU l11_162 (Ok.ofbnd h)
    intro B_162 hB_162 hE_162 s_162 h
    generalize s_162 = l11_162 at h ⊢
    have h : Ok (fL_replacesAll_b162 τ_162 l7_162 l8_162 l10_162 l11_162) B_162 := h
    change J X K 22 False QQ 4 24 2064 (jl K τ_162) 162 [(0, .ref (K.2.2 + 47)), (1, .ref (K.2.2 + 0)), (2, .ref (K.2.2 + 41)), (3, .ref (K.2.2 + 42)), (4, .ref (K.2.2 + 43)), (5, .ref (K.2.2 + 44)), (6, .ref (K.2.2 + 46)), (7, .int l7_162), (8, .int l8_162), (10, .int l10_162), (11, .int l11_162)] []
    unfold fL_replacesAll_b162 at h
    refine J_iload (i := 11) (p := 10) C dL_replacesAll_162 rfl rfl ?_
    refine J_aload_n (i := 2) (p := 2) C dL_replacesAll_164 rfl rfl rfl ?_
    refine J_iconst (v := 0) C (by decide) dL_replacesAll_165 rfl ?_
    obtain ⟨g_63, h⟩ := Ok.ofgd h
    refine Jl_iald C rfl rfl g_63 dL_replacesAll_166 rfl ?_
    refine J_icmp_ge (t := 191) C dL_replacesAll_167 (by decide) rfl (fun c_64 => ?_) (fun c_64 => ?_)
    · have h := h.pos c_64
      have h := hE_162 l11_162 h.osome
      try dsimp only at h
      exact hj_191 τ_162 l7_162 l8_162 l10_162 l11_162 h
    · have h := h.neg c_64
      refine J_aload_n (i := 2) (p := 2) C dL_replacesAll_170 rfl rfl rfl ?_
      refine J_iload (i := 11) (p := 10) C dL_replacesAll_171 rfl rfl ?_
      refine J_aload (i := 5) (p := 5) C dL_replacesAll_173 rfl rfl ?_
      refine J_iload (i := 7) (p := 7) C dL_replacesAll_175 rfl rfl ?_
      refine J_iload (i := 8) (p := 8) C dL_replacesAll_177 rfl rfl ?_
      refine Jl_cS (α := Int32) (rest := []) (st9 := fun p_65 => [.int p_65]) C hR hX cs_RL_185 (kL_isFind hl rfl (Ok.ofbnd h)) rfl rfl (Nat.le_of_ble_eq_true rfl) (Nat.le_of_ble_eq_true rfl) (Nat.le_of_ble_eq_true rfl) ⟨(Nat.le_of_ble_eq_true rfl), (Nat.le_of_ble_eq_true rfl)⟩ dL_replacesAll_179 rfl (fun _ => rfl) (fun p_65 h => ?_)
      have h : Ok _ _ := h
      change J X K 22 False QQ 4 24 2064 (jl K τ_162) 182 [(0, .ref (K.2.2 + 47)), (1, .ref (K.2.2 + 0)), (2, .ref (K.2.2 + 41)), (3, .ref (K.2.2 + 42)), (4, .ref (K.2.2 + 43)), (5, .ref (K.2.2 + 44)), (6, .ref (K.2.2 + 46)), (7, .int l7_162), (8, .int l8_162), (10, .int l10_162), (11, .int l11_162)] [.int p_65]
      refine J_if_ne (t := 191) C dL_replacesAll_182 (by decide) rfl (fun c_66 => ?_) (fun c_66 => ?_)
      · have h := h.neg c_66
        have h := hE_162 l11_162 h.osome
        try dsimp only at h
        exact hj_191 τ_162 l7_162 l8_162 l10_162 l11_162 h
      · have h := h.pos (Decidable.not_not.mp c_66)
        obtain ⟨x11_39, e_x11_39, h⟩ := Ok.nm h
        refine J_iincE (i := 11) (p := 10) (lv' := [(11, .int x11_39), (0, .ref (K.2.2 + 47)), (1, .ref (K.2.2 + 0)), (2, .ref (K.2.2 + 41)), (3, .ref (K.2.2 + 42)), (4, .ref (K.2.2 + 43)), (5, .ref (K.2.2 + 44)), (6, .ref (K.2.2 + 46)), (7, .int l7_162), (8, .int l8_162), (10, .int l10_162)]) C e_x11_39 dL_replacesAll_185 rfl (by decide) (Nat.le_of_ble_eq_true rfl) rfl rfl ?_
        refine J_goto (t := 162) C dL_replacesAll_188 (by decide) ?_
        refine J.sub [1, 2, 3, 4, 5, 6, 7, 8, 9, 10, 0] rfl ?_
        exact hB_162 x11_39 h.osome
  have hj_92 : (∀ (τ_92 : LawS) (l7_92 : Int32) (l8_92 : Int32) (l9_92 : Int32) (l10_92 : Int32), Ok (fL_replacesAll_j92 τ_92 l7_92 l8_92 l9_92 l10_92) Qf → J X K 22 False QQ 0 0 2064 (jl K τ_92) 92 [(0, .ref (K.2.2 + 47)), (1, .ref (K.2.2 + 0)), (2, .ref (K.2.2 + 41)), (3, .ref (K.2.2 + 42)), (4, .ref (K.2.2 + 43)), (5, .ref (K.2.2 + 44)), (6, .ref (K.2.2 + 46)), (7, .int l7_92), (8, .int l8_92), (9, .int l9_92), (10, .int l10_92)] []) := by
    intro τ_92 l7_92 l8_92 l9_92 l10_92 h
    unfold fL_replacesAll_j92 at h
    refine loop_gen (S := Int32 × Int32) (P := fun s_92 => J X K 22 False QQ 0 0 2064 (jl K τ_92) 92 [(0, .ref (K.2.2 + 47)), (1, .ref (K.2.2 + 0)), (2, .ref (K.2.2 + 41)), (3, .ref (K.2.2 + 42)), (4, .ref (K.2.2 + 43)), (5, .ref (K.2.2 + 44)), (6, .ref (K.2.2 + 46)), (7, .int l7_92), (8, .int l8_92), (9, .int s_92.1), (10, .int s_92.2)] []) ?_ FU (l9_92, l10_92) (Ok.ofbnd h)
    intro B_92 hB_92 hE_92 s_92 h
    obtain ⟨l9_92, l10_92⟩ := s_92
    have h : Ok (fL_replacesAll_b92 τ_92 l7_92 l8_92 l9_92 l10_92) B_92 := h
    change J X K 22 False QQ 0 0 2064 (jl K τ_92) 92 [(0, .ref (K.2.2 + 47)), (1, .ref (K.2.2 + 0)), (2, .ref (K.2.2 + 41)), (3, .ref (K.2.2 + 42)), (4, .ref (K.2.2 + 43)), (5, .ref (K.2.2 + 44)), (6, .ref (K.2.2 + 46)), (7, .int l7_92), (8, .int l8_92), (9, .int l9_92), (10, .int l10_92)] []
    unfold fL_replacesAll_b92 at h
    refine J_iload (i := 10) (p := 10) C dL_replacesAll_92 rfl rfl ?_
    refine J_aload_n (i := 2) (p := 2) C dL_replacesAll_94 rfl rfl rfl ?_
    refine J_iconst (v := 0) C (by decide) dL_replacesAll_95 rfl ?_
    obtain ⟨g_67, h⟩ := Ok.ofgd h
    refine Jl_iald C rfl rfl g_67 dL_replacesAll_96 rfl ?_
    refine J_icmp_ge (t := 126) C dL_replacesAll_97 (by decide) rfl (fun c_68 => ?_) (fun c_68 => ?_)
    · have h := h.pos c_68
      have h := hE_92 l9_92 h.osome
      try dsimp only at h
      refine J_aload_n (i := 0) (p := 0) C dL_replacesAll_126 rfl rfl rfl ?_
      refine J_bipush (v := 22) C (by decide) dL_replacesAll_127 rfl ?_
      refine J_iload (i := 8) (p := 8) C dL_replacesAll_129 rfl rfl ?_
      refine Jl_cS (α := Int32) (rest := [.int (22 : Int32), .ref (K.2.2 + 47)]) (st9 := fun p_69 => [.int p_69, .int (22 : Int32), .ref (K.2.2 + 47)]) C hR hX cs_RL_63 (kL_one hl  (Ok.ofbnd h)) rfl rfl (Nat.le_of_ble_eq_true rfl) (Nat.le_of_ble_eq_true rfl) (Nat.le_of_ble_eq_true rfl) ⟨(Nat.le_of_ble_eq_true rfl), (Nat.le_of_ble_eq_true rfl)⟩ dL_replacesAll_131 rfl (fun _ => rfl) (fun p_69 h => ?_)
      have h : Ok _ _ := h
      change J X K 22 False QQ 0 0 2064 (jl K τ_92) 134 [(0, .ref (K.2.2 + 47)), (1, .ref (K.2.2 + 0)), (2, .ref (K.2.2 + 41)), (3, .ref (K.2.2 + 42)), (4, .ref (K.2.2 + 43)), (5, .ref (K.2.2 + 44)), (6, .ref (K.2.2 + 46)), (7, .int l7_92), (8, .int l8_92), (9, .int l9_92), (10, .int l10_92)] [.int p_69, .int (22 : Int32), .ref (K.2.2 + 47)]
      refine J_iconst (v := 0) C (by decide) dL_replacesAll_134 rfl ?_
      refine J_iconst (v := 0) C (by decide) dL_replacesAll_135 rfl ?_
      refine Jl_cH (α := Int32 × LawS) (rest := []) (st9 := fun p_70 => [.int p_70.1]) C hR hX ch_RL_174 (kL_done hl  (Ok.ofbnd h)) rfl rfl (Nat.le_of_ble_eq_true rfl) (Nat.le_of_ble_eq_true rfl) (Nat.le_of_ble_eq_true rfl) ⟨(Nat.le_of_ble_eq_true rfl), (Nat.le_of_ble_eq_true rfl)⟩ dL_replacesAll_136 rfl (fun _ => rfl) (fun p_70 h => ?_)
      have h : Ok _ _ := h
      change J X K 22 False QQ 4 24 2064 (jl K p_70.2) 139 [(0, .ref (K.2.2 + 47)), (1, .ref (K.2.2 + 0)), (2, .ref (K.2.2 + 41)), (3, .ref (K.2.2 + 42)), (4, .ref (K.2.2 + 43)), (5, .ref (K.2.2 + 44)), (6, .ref (K.2.2 + 46)), (7, .int l7_92), (8, .int l8_92), (9, .int l9_92), (10, .int l10_92)] [.int p_70.1]
      refine J_iload (i := 9) (p := 9) C dL_replacesAll_139 rfl rfl ?_
      refine J_icmp_eq (t := 146) C dL_replacesAll_141 (by decide) rfl (fun c_71 => ?_) (fun c_71 => ?_)
      · have h := h.pos c_71
        refine J_aload_n (i := 1) (p := 1) C dL_replacesAll_146 rfl rfl rfl ?_
        refine Jl_cS (α := Int32 × LawS) (rest := []) (st9 := fun p_72 => [.int p_72.1]) C hR hX cs_RL_8 (kL_next hl  (Ok.ofbnd h)) rfl rfl (Nat.le_of_ble_eq_true rfl) (Nat.le_of_ble_eq_true rfl) (Nat.le_of_ble_eq_true rfl) ⟨(Nat.le_of_ble_eq_true rfl), (Nat.le_of_ble_eq_true rfl)⟩ dL_replacesAll_147 rfl (fun _ => rfl) (fun p_72 h => ?_)
        have h : Ok _ _ := h
        change J X K 22 False QQ 4 24 2064 (jl K p_72.2) 150 [(0, .ref (K.2.2 + 47)), (1, .ref (K.2.2 + 0)), (2, .ref (K.2.2 + 41)), (3, .ref (K.2.2 + 42)), (4, .ref (K.2.2 + 43)), (5, .ref (K.2.2 + 44)), (6, .ref (K.2.2 + 46)), (7, .int l7_92), (8, .int l8_92), (9, .int l9_92), (10, .int l10_92)] [.int p_72.1]
        refine J_aload_n (i := 2) (p := 2) C dL_replacesAll_150 rfl rfl rfl ?_
        refine J_iconst (v := 0) C (by decide) dL_replacesAll_151 rfl ?_
        obtain ⟨g_73, h⟩ := Ok.ofgd h
        refine Jl_iald C rfl rfl g_73 dL_replacesAll_152 rfl ?_
        refine J_iconst (v := 1) C (by decide) dL_replacesAll_153 rfl ?_
        refine J_iadd C dL_replacesAll_154 rfl ?_
        obtain ⟨g_74, h⟩ := Ok.ofgd h
        refine J_irem C (nz_spec g_74) dL_replacesAll_155 rfl ?_
        obtain ⟨x10_40, e_x10_40, h⟩ := Ok.nm h
        refine J_istoreE (i := 10) (lv' := [(10, .int x10_40), (0, .ref (K.2.2 + 47)), (1, .ref (K.2.2 + 0)), (2, .ref (K.2.2 + 41)), (3, .ref (K.2.2 + 42)), (4, .ref (K.2.2 + 43)), (5, .ref (K.2.2 + 44)), (6, .ref (K.2.2 + 46)), (7, .int l7_92), (8, .int l8_92), (9, .int l9_92)]) C e_x10_40 dL_replacesAll_156 (Nat.le_of_ble_eq_true rfl) rfl rfl ?_
        refine J_iload (i := 10) (p := 0) C dL_replacesAll_158 rfl rfl ?_
        obtain ⟨x11_41, e_x11_41, h⟩ := Ok.nm h
        refine J_istoreE (i := 11) (lv' := [(11, .int x11_41), (10, .int x10_40), (0, .ref (K.2.2 + 47)), (1, .ref (K.2.2 + 0)), (2, .ref (K.2.2 + 41)), (3, .ref (K.2.2 + 42)), (4, .ref (K.2.2 + 43)), (5, .ref (K.2.2 + 44)), (6, .ref (K.2.2 + 46)), (7, .int l7_92), (8, .int l8_92), (9, .int l9_92)]) C e_x11_41 dL_replacesAll_160 (Nat.le_of_ble_eq_true rfl) rfl rfl ?_
        refine J.sub [2, 3, 4, 5, 6, 7, 8, 9, 10, 1, 0] rfl ?_
        exact hj_162 p_72.2 l7_92 l8_92 x10_40 x11_41 h
      · have h := h.neg c_71
        refine J_iconst (v := 0) C (by decide) dL_replacesAll_144 rfl ?_
        rw [← hQQ]
        exact J_zret C hret rfl (Nat.le_of_ble_eq_true rfl) (Nat.le_of_ble_eq_true rfl) ⟨_, h.osome, rfl, rfl, rfl⟩ dL_replacesAll_145
    · have h := h.neg c_68
      refine J_iload (i := 9) (p := 9) C dL_replacesAll_100 rfl rfl ?_
      refine J_aload_n (i := 2) (p := 2) C dL_replacesAll_102 rfl rfl rfl ?_
      refine J_iload (i := 10) (p := 10) C dL_replacesAll_103 rfl rfl ?_
      refine J_aload (i := 5) (p := 5) C dL_replacesAll_105 rfl rfl ?_
      refine J_iload (i := 7) (p := 7) C dL_replacesAll_107 rfl rfl ?_
      refine J_iload (i := 8) (p := 8) C dL_replacesAll_109 rfl rfl ?_
      refine Jl_cS (α := Int32) (rest := [.int l9_92]) (st9 := fun p_75 => [.int p_75, .int l9_92]) C hR hX cs_RL_185 (kL_isFind hl rfl (Ok.ofbnd h)) rfl rfl (Nat.le_of_ble_eq_true rfl) (Nat.le_of_ble_eq_true rfl) (Nat.le_of_ble_eq_true rfl) ⟨(Nat.le_of_ble_eq_true rfl), (Nat.le_of_ble_eq_true rfl)⟩ dL_replacesAll_111 rfl (fun _ => rfl) (fun p_75 h => ?_)
      have h : Ok _ _ := h
      change J X K 22 False QQ 0 0 2064 (jl K τ_92) 114 [(0, .ref (K.2.2 + 47)), (1, .ref (K.2.2 + 0)), (2, .ref (K.2.2 + 41)), (3, .ref (K.2.2 + 42)), (4, .ref (K.2.2 + 43)), (5, .ref (K.2.2 + 44)), (6, .ref (K.2.2 + 46)), (7, .int l7_92), (8, .int l8_92), (9, .int l9_92), (10, .int l10_92)] [.int p_75, .int l9_92]
      refine Jl_cS (α := Int32) (rest := [.int l9_92]) (st9 := fun p_76 => [.int p_76, .int l9_92]) C hR hX cs_RL_63 (kL_one hl  (Ok.ofbnd h)) rfl rfl (Nat.le_of_ble_eq_true rfl) (Nat.le_of_ble_eq_true rfl) (Nat.le_of_ble_eq_true rfl) ⟨(Nat.le_of_ble_eq_true rfl), (Nat.le_of_ble_eq_true rfl)⟩ dL_replacesAll_114 rfl (fun _ => rfl) (fun p_76 h => ?_)
      have h : Ok _ _ := h
      change J X K 22 False QQ 0 0 2064 (jl K τ_92) 117 [(0, .ref (K.2.2 + 47)), (1, .ref (K.2.2 + 0)), (2, .ref (K.2.2 + 41)), (3, .ref (K.2.2 + 42)), (4, .ref (K.2.2 + 43)), (5, .ref (K.2.2 + 44)), (6, .ref (K.2.2 + 46)), (7, .int l7_92), (8, .int l8_92), (9, .int l9_92), (10, .int l10_92)] [.int p_76, .int l9_92]
      refine J_iadd C dL_replacesAll_117 rfl ?_
      obtain ⟨x9_42, e_x9_42, h⟩ := Ok.nm h
      refine J_istoreE (i := 9) (lv' := [(9, .int x9_42), (0, .ref (K.2.2 + 47)), (1, .ref (K.2.2 + 0)), (2, .ref (K.2.2 + 41)), (3, .ref (K.2.2 + 42)), (4, .ref (K.2.2 + 43)), (5, .ref (K.2.2 + 44)), (6, .ref (K.2.2 + 46)), (7, .int l7_92), (8, .int l8_92), (10, .int l10_92)]) C e_x9_42 dL_replacesAll_118 (Nat.le_of_ble_eq_true rfl) rfl rfl ?_
      obtain ⟨x10_43, e_x10_43, h⟩ := Ok.nm h
      refine J_iincE (i := 10) (p := 10) (lv' := [(10, .int x10_43), (9, .int x9_42), (0, .ref (K.2.2 + 47)), (1, .ref (K.2.2 + 0)), (2, .ref (K.2.2 + 41)), (3, .ref (K.2.2 + 42)), (4, .ref (K.2.2 + 43)), (5, .ref (K.2.2 + 44)), (6, .ref (K.2.2 + 46)), (7, .int l7_92), (8, .int l8_92)]) C e_x10_43 dL_replacesAll_120 rfl (by decide) (Nat.le_of_ble_eq_true rfl) rfl rfl ?_
      refine J_goto (t := 92) C dL_replacesAll_123 (by decide) ?_
      refine J.sub [2, 3, 4, 5, 6, 7, 8, 9, 10, 1, 0] rfl ?_
      exact hB_92 (x9_42, x10_43) h.osome
  have hj_71 : (∀ (τ_71 : LawS) (l7_71 : Int32) (s0_71 : Int32), Ok (fL_replacesAll_j71 τ_71 l7_71 s0_71) Qf → J X K 22 False QQ 0 0 2064 (jl K τ_71) 71 [(0, .ref (K.2.2 + 47)), (1, .ref (K.2.2 + 0)), (2, .ref (K.2.2 + 41)), (3, .ref (K.2.2 + 42)), (4, .ref (K.2.2 + 43)), (5, .ref (K.2.2 + 44)), (6, .ref (K.2.2 + 46)), (7, .int l7_71)] [.int s0_71]) := by
    intro τ_71 l7_71 s0_71 h
    unfold fL_replacesAll_j71 at h
    obtain ⟨x8_46, e_x8_46, h⟩ := Ok.nm h
    refine J_istoreE (i := 8) (lv' := [(8, .int x8_46), (0, .ref (K.2.2 + 47)), (1, .ref (K.2.2 + 0)), (2, .ref (K.2.2 + 41)), (3, .ref (K.2.2 + 42)), (4, .ref (K.2.2 + 43)), (5, .ref (K.2.2 + 44)), (6, .ref (K.2.2 + 46)), (7, .int l7_71)]) C e_x8_46 dL_replacesAll_71 (Nat.le_of_ble_eq_true rfl) rfl rfl ?_
    refine J_aload_n (i := 0) (p := 1) C dL_replacesAll_73 rfl rfl rfl ?_
    refine J_aload (i := 5) (p := 6) C dL_replacesAll_74 rfl rfl ?_
    refine J_iload (i := 7) (p := 8) C dL_replacesAll_76 rfl rfl ?_
    refine Jl_cS (α := Int32 × LawS) (rest := []) (st9 := fun p_83 => [.int p_83.1]) C hR hX cs_RL_165 (kL_feeds hl rfl (Ok.ofbnd h)) rfl rfl (Nat.le_of_ble_eq_true rfl) (Nat.le_of_ble_eq_true rfl) (Nat.le_of_ble_eq_true rfl) ⟨(Nat.le_of_ble_eq_true rfl), (Nat.le_of_ble_eq_true rfl)⟩ dL_replacesAll_78 rfl (fun _ => rfl) (fun p_83 h => ?_)
    have h : Ok _ _ := h
    change J X K 22 False QQ 0 0 2064 (jl K p_83.2) 81 [(8, .int x8_46), (0, .ref (K.2.2 + 47)), (1, .ref (K.2.2 + 0)), (2, .ref (K.2.2 + 41)), (3, .ref (K.2.2 + 42)), (4, .ref (K.2.2 + 43)), (5, .ref (K.2.2 + 44)), (6, .ref (K.2.2 + 46)), (7, .int l7_71)] [.int p_83.1]
    refine J_if_ne (t := 86) C dL_replacesAll_81 (by decide) rfl (fun c_84 => ?_) (fun c_84 => ?_)
    · have h := h.neg c_84
      refine J_iconst (v := 0) C (by decide) dL_replacesAll_86 rfl ?_
      obtain ⟨x9_47, e_x9_47, h⟩ := Ok.nm h
      refine J_istoreE (i := 9) (lv' := [(9, .int x9_47), (8, .int x8_46), (0, .ref (K.2.2 + 47)), (1, .ref (K.2.2 + 0)), (2, .ref (K.2.2 + 41)), (3, .ref (K.2.2 + 42)), (4, .ref (K.2.2 + 43)), (5, .ref (K.2.2 + 44)), (6, .ref (K.2.2 + 46)), (7, .int l7_71)]) C e_x9_47 dL_replacesAll_87 (Nat.le_of_ble_eq_true rfl) rfl rfl ?_
      refine J_iconst (v := 0) C (by decide) dL_replacesAll_89 rfl ?_
      obtain ⟨x10_48, e_x10_48, h⟩ := Ok.nm h
      refine J_istoreE (i := 10) (lv' := [(10, .int x10_48), (9, .int x9_47), (8, .int x8_46), (0, .ref (K.2.2 + 47)), (1, .ref (K.2.2 + 0)), (2, .ref (K.2.2 + 41)), (3, .ref (K.2.2 + 42)), (4, .ref (K.2.2 + 43)), (5, .ref (K.2.2 + 44)), (6, .ref (K.2.2 + 46)), (7, .int l7_71)]) C e_x10_48 dL_replacesAll_90 (Nat.le_of_ble_eq_true rfl) rfl rfl ?_
      refine J.sub [3, 4, 5, 6, 7, 8, 9, 10, 2, 1, 0] rfl ?_
      exact hj_92 p_83.2 l7_71 x8_46 x9_47 x10_48 h
    · have h := h.pos (Decidable.not_not.mp c_84)
      refine J_iconst (v := 0) C (by decide) dL_replacesAll_84 rfl ?_
      rw [← hQQ]
      exact J_zret C hret rfl (Nat.le_of_ble_eq_true rfl) (Nat.le_of_ble_eq_true rfl) ⟨_, h.osome, rfl, rfl, rfl⟩ dL_replacesAll_85
  have hj_16 : (∀ (τ_16 : LawS) (l7_16 : Int32) (l8_16 : Int32), Ok (fL_replacesAll_j16 τ_16 l7_16 l8_16) Qf → J X K 22 False QQ 0 0 2064 (jl K τ_16) 16 [(0, .ref (K.2.2 + 47)), (1, .ref (K.2.2 + 0)), (2, .ref (K.2.2 + 41)), (3, .ref (K.2.2 + 42)), (4, .ref (K.2.2 + 43)), (5, .ref (K.2.2 + 44)), (6, .ref (K.2.2 + 46)), (7, .int l7_16), (8, .int l8_16)] []) := by
    intro τ_16 l7_16 l8_16 h
    unfold fL_replacesAll_j16 at h
    refine loop_gen (S := LawS × Int32) (P := fun s_16 => J X K 22 False QQ 0 0 2064 (jl K s_16.1) 16 [(0, .ref (K.2.2 + 47)), (1, .ref (K.2.2 + 0)), (2, .ref (K.2.2 + 41)), (3, .ref (K.2.2 + 42)), (4, .ref (K.2.2 + 43)), (5, .ref (K.2.2 + 44)), (6, .ref (K.2.2 + 46)), (7, .int l7_16), (8, .int s_16.2)] []) ?_ FU (τ_16, l8_16) (Ok.ofbnd h)
    intro B_16 hB_16 hE_16 s_16 h
    obtain ⟨τ_16, l8_16⟩ := s_16
    have h : Ok (fL_replacesAll_b16 τ_16 l7_16 l8_16) B_16 := h
    change J X K 22 False QQ 0 0 2064 (jl K τ_16) 16 [(0, .ref (K.2.2 + 47)), (1, .ref (K.2.2 + 0)), (2, .ref (K.2.2 + 41)), (3, .ref (K.2.2 + 42)), (4, .ref (K.2.2 + 43)), (5, .ref (K.2.2 + 44)), (6, .ref (K.2.2 + 46)), (7, .int l7_16), (8, .int l8_16)] []
    have hj_50 : (∀ (τ_50 : LawS) (l8_50 : Int32) (s1_50 : Int32) (s2_50 : Int32), Ok (fL_replacesAll_j50 l7_16 τ_50 l8_50 s1_50 s2_50) B_16 → J X K 22 False QQ 0 0 2064 (jl K τ_50) 50 [(0, .ref (K.2.2 + 47)), (1, .ref (K.2.2 + 0)), (2, .ref (K.2.2 + 41)), (3, .ref (K.2.2 + 42)), (4, .ref (K.2.2 + 43)), (5, .ref (K.2.2 + 44)), (6, .ref (K.2.2 + 46)), (7, .int l7_16), (8, .int l8_50)] [.int s2_50, .int s1_50, .ref (K.2.2 + 44)]) := by
      intro τ_50 l8_50 s1_50 s2_50 h
      unfold fL_replacesAll_j50 at h
      obtain ⟨g_85, h⟩ := Ok.ofgd h
      obtain ⟨τx_49, e_τx_49, h⟩ := Ok.nm h
      refine Jl_iast C id rfl rfl g_85 e_τx_49 dL_replacesAll_50 rfl ?_
      obtain ⟨x8_50, e_x8_50, h⟩ := Ok.nm h
      refine J_iincE (i := 8) (p := 8) (lv' := [(8, .int x8_50), (0, .ref (K.2.2 + 47)), (1, .ref (K.2.2 + 0)), (2, .ref (K.2.2 + 41)), (3, .ref (K.2.2 + 42)), (4, .ref (K.2.2 + 43)), (5, .ref (K.2.2 + 44)), (6, .ref (K.2.2 + 46)), (7, .int l7_16)]) C e_x8_50 dL_replacesAll_51 rfl (by decide) (Nat.le_of_ble_eq_true rfl) rfl rfl ?_
      refine J_goto (t := 16) C dL_replacesAll_54 (by decide) ?_
      refine J.sub [1, 2, 3, 4, 5, 6, 7, 8, 0] rfl ?_
      exact hB_16 (τx_49, x8_50) h.osome
    unfold fL_replacesAll_b16 at h
    refine J_iload (i := 8) (p := 8) C dL_replacesAll_16 rfl rfl ?_
    refine J_iload (i := 7) (p := 7) C dL_replacesAll_18 rfl rfl ?_
    refine J_icmp_ge (t := 57) C dL_replacesAll_20 (by decide) rfl (fun c_86 => ?_) (fun c_86 => ?_)
    · have h := h.pos c_86
      have h := hE_16 τ_16 h.osome
      try dsimp only at h
      refine J_aload_n (i := 1) (p := 1) C dL_replacesAll_57 rfl rfl rfl ?_
      refine Jl_cS (α := Int32 × LawS) (rest := []) (st9 := fun p_87 => [.int p_87.1]) C hR hX cs_RL_8 (kL_next hl  (Ok.ofbnd h)) rfl rfl (Nat.le_of_ble_eq_true rfl) (Nat.le_of_ble_eq_true rfl) (Nat.le_of_ble_eq_true rfl) ⟨(Nat.le_of_ble_eq_true rfl), (Nat.le_of_ble_eq_true rfl)⟩ dL_replacesAll_58 rfl (fun _ => rfl) (fun p_87 h => ?_)
      have h : Ok _ _ := h
      change J X K 22 False QQ 0 0 2064 (jl K p_87.2) 61 [(0, .ref (K.2.2 + 47)), (1, .ref (K.2.2 + 0)), (2, .ref (K.2.2 + 41)), (3, .ref (K.2.2 + 42)), (4, .ref (K.2.2 + 43)), (5, .ref (K.2.2 + 44)), (6, .ref (K.2.2 + 46)), (7, .int l7_16), (8, .int l8_16)] [.int p_87.1]
      refine J_iconst (v := 4) C (by decide) dL_replacesAll_61 rfl ?_
      refine J_irem C (by decide) dL_replacesAll_62 rfl ?_
      refine J_if_ne (t := 70) C dL_replacesAll_63 (by decide) rfl (fun c_88 => ?_) (fun c_88 => ?_)
      · have h := h.neg c_88
        refine J_iconst (v := 0) C (by decide) dL_replacesAll_70 rfl ?_
        refine J.sub [0, 1, 2, 3, 4, 5, 6, 7] rfl ?_
        exact hj_71 p_87.2 l7_16 (0 : Int32) h
      · have h := h.pos (Decidable.not_not.mp c_88)
        refine J_iconst (v := 1) C (by decide) dL_replacesAll_66 rfl ?_
        refine J_goto (t := 71) C dL_replacesAll_67 (by decide) ?_
        refine J.sub [0, 1, 2, 3, 4, 5, 6, 7] rfl ?_
        exact hj_71 p_87.2 l7_16 (1 : Int32) h
    · have h := h.neg c_86
      refine J_aload (i := 5) (p := 5) C dL_replacesAll_23 rfl rfl ?_
      refine J_iload (i := 8) (p := 8) C dL_replacesAll_25 rfl rfl ?_
      refine J_aload_n (i := 1) (p := 1) C dL_replacesAll_27 rfl rfl rfl ?_
      refine Jl_cS (α := Int32 × LawS) (rest := [.int l8_16, .ref (K.2.2 + 44)]) (st9 := fun p_89 => [.int p_89.1, .int l8_16, .ref (K.2.2 + 44)]) C hR hX cs_RL_8 (kL_next hl  (Ok.ofbnd h)) rfl rfl (Nat.le_of_ble_eq_true rfl) (Nat.le_of_ble_eq_true rfl) (Nat.le_of_ble_eq_true rfl) ⟨(Nat.le_of_ble_eq_true rfl), (Nat.le_of_ble_eq_true rfl)⟩ dL_replacesAll_28 rfl (fun _ => rfl) (fun p_89 h => ?_)
      have h : Ok _ _ := h
      change J X K 22 False QQ 0 0 2064 (jl K p_89.2) 31 [(0, .ref (K.2.2 + 47)), (1, .ref (K.2.2 + 0)), (2, .ref (K.2.2 + 41)), (3, .ref (K.2.2 + 42)), (4, .ref (K.2.2 + 43)), (5, .ref (K.2.2 + 44)), (6, .ref (K.2.2 + 46)), (7, .int l7_16), (8, .int l8_16)] [.int p_89.1, .int l8_16, .ref (K.2.2 + 44)]
      refine J_iconst (v := 5) C (by decide) dL_replacesAll_31 rfl ?_
      refine J_irem C (by decide) dL_replacesAll_32 rfl ?_
      refine J_if_ne (t := 41) C dL_replacesAll_33 (by decide) rfl (fun c_90 => ?_) (fun c_90 => ?_)
      · have h := h.neg c_90
        refine J_bipush (v := 97) C (by decide) dL_replacesAll_41 rfl ?_
        refine J_aload_n (i := 1) (p := 1) C dL_replacesAll_43 rfl rfl rfl ?_
        refine Jl_cS (α := Int32 × LawS) (rest := [.int (97 : Int32), .int l8_16, .ref (K.2.2 + 44)]) (st9 := fun p_91 => [.int p_91.1, .int (97 : Int32), .int l8_16, .ref (K.2.2 + 44)]) C hR hX cs_RL_8 (kL_next hl  (Ok.ofbnd h)) rfl rfl (Nat.le_of_ble_eq_true rfl) (Nat.le_of_ble_eq_true rfl) (Nat.le_of_ble_eq_true rfl) ⟨(Nat.le_of_ble_eq_true rfl), (Nat.le_of_ble_eq_true rfl)⟩ dL_replacesAll_44 rfl (fun _ => rfl) (fun p_91 h => ?_)
        have h : Ok _ _ := h
        change J X K 22 False QQ 0 0 2064 (jl K p_91.2) 47 [(0, .ref (K.2.2 + 47)), (1, .ref (K.2.2 + 0)), (2, .ref (K.2.2 + 41)), (3, .ref (K.2.2 + 42)), (4, .ref (K.2.2 + 43)), (5, .ref (K.2.2 + 44)), (6, .ref (K.2.2 + 46)), (7, .int l7_16), (8, .int l8_16)] [.int p_91.1, .int (97 : Int32), .int l8_16, .ref (K.2.2 + 44)]
        refine J_iconst (v := 2) C (by decide) dL_replacesAll_47 rfl ?_
        refine J_irem C (by decide) dL_replacesAll_48 rfl ?_
        refine J_iadd C dL_replacesAll_49 rfl ?_
        exact hj_50 p_91.2 l8_16 l8_16 ((97 : Int32) + (p_91.1 - p_91.1 / (2 : Int32) * (2 : Int32))) h
      · have h := h.pos (Decidable.not_not.mp c_90)
        refine J_bipush (v := 32) C (by decide) dL_replacesAll_36 rfl ?_
        refine J_goto (t := 50) C dL_replacesAll_38 (by decide) ?_
        exact hj_50 p_89.2 l8_16 l8_16 (32 : Int32) h
  unfold fL_replacesAll at h
  refine J_aload_n (i := 0) (p := 0) C dL_replacesAll_0 rfl rfl rfl ?_
  refine J_aload_n (i := 2) (p := 2) C dL_replacesAll_1 rfl rfl rfl ?_
  refine Jl_cS (α := LawS) (rest := []) (st9 := fun p_94 => []) C hR hX cs_RL_151 (kL_sees hl rfl (Ok.ofbnd h)) rfl rfl (Nat.le_of_ble_eq_true rfl) (Nat.le_of_ble_eq_true rfl) (Nat.le_of_ble_eq_true rfl) ⟨(Nat.le_of_ble_eq_true rfl), (Nat.le_of_ble_eq_true rfl)⟩ dL_replacesAll_2 rfl (fun _ => rfl) (fun p_94 h => ?_)
  have h : Ok _ _ := h
  change J X K 22 False QQ 0 0 2064 (jl K p_94) 5 [(0, .ref (K.2.2 + 47)), (1, .ref (K.2.2 + 0)), (2, .ref (K.2.2 + 41)), (3, .ref (K.2.2 + 42)), (4, .ref (K.2.2 + 43)), (5, .ref (K.2.2 + 44)), (6, .ref (K.2.2 + 46))] []
  refine J_aload_n (i := 1) (p := 1) C dL_replacesAll_5 rfl rfl rfl ?_
  refine J_iconst (v := 1) C (by decide) dL_replacesAll_6 rfl ?_
  refine J_iconst (v := 3) C (by decide) dL_replacesAll_7 rfl ?_
  refine Jl_cS (α := Int32 × LawS) (rest := []) (st9 := fun p_95 => [.int p_95.1]) C hR hX cs_RL_137 (kL_from hl  (Ok.ofbnd h)) rfl rfl (Nat.le_of_ble_eq_true rfl) (Nat.le_of_ble_eq_true rfl) (Nat.le_of_ble_eq_true rfl) ⟨(Nat.le_of_ble_eq_true rfl), (Nat.le_of_ble_eq_true rfl)⟩ dL_replacesAll_8 rfl (fun _ => rfl) (fun p_95 h => ?_)
  have h : Ok _ _ := h
  change J X K 22 False QQ 0 0 2064 (jl K p_95.2) 11 [(0, .ref (K.2.2 + 47)), (1, .ref (K.2.2 + 0)), (2, .ref (K.2.2 + 41)), (3, .ref (K.2.2 + 42)), (4, .ref (K.2.2 + 43)), (5, .ref (K.2.2 + 44)), (6, .ref (K.2.2 + 46))] [.int p_95.1]
  obtain ⟨x7_51, e_x7_51, h⟩ := Ok.nm h
  refine J_istoreE (i := 7) (lv' := [(7, .int x7_51), (0, .ref (K.2.2 + 47)), (1, .ref (K.2.2 + 0)), (2, .ref (K.2.2 + 41)), (3, .ref (K.2.2 + 42)), (4, .ref (K.2.2 + 43)), (5, .ref (K.2.2 + 44)), (6, .ref (K.2.2 + 46))]) C e_x7_51 dL_replacesAll_11 (Nat.le_of_ble_eq_true rfl) rfl rfl ?_
  refine J_iconst (v := 0) C (by decide) dL_replacesAll_13 rfl ?_
  obtain ⟨x8_52, e_x8_52, h⟩ := Ok.nm h
  refine J_istoreE (i := 8) (lv' := [(8, .int x8_52), (7, .int x7_51), (0, .ref (K.2.2 + 47)), (1, .ref (K.2.2 + 0)), (2, .ref (K.2.2 + 41)), (3, .ref (K.2.2 + 42)), (4, .ref (K.2.2 + 43)), (5, .ref (K.2.2 + 44)), (6, .ref (K.2.2 + 46))]) C e_x8_52 dL_replacesAll_14 (Nat.le_of_ble_eq_true rfl) rfl rfl ?_
  refine J.sub [2, 3, 4, 5, 6, 7, 8, 1, 0] rfl ?_
  exact hj_16 p_95.2 x7_51 x8_52 h
set_option maxHeartbeats 4000000 in
set_option maxRecDepth 100000 in
theorem kL_acts {l : Launch} {K : JK} (hl : l.stackTraces = false) {τ : LawS}   {Qf : Int32 × LawS → Prop} (h : Ok (fL_acts τ) Qf) : Con l K yL_acts (.code yL_acts cL_acts 10 (some .int) :: TB) 10 8 48 False [.ref (K.2.2 + 47), .ref (K.2.2 + 0), .ref (K.2.2 + 43)] 2064 (jl K τ) (PL Qf (fun p => some (.int p.1)) (fun p => jl K p.2)) PN := by
  refine Con.enter (own := RL) hl (by decide) rfl (Nat.le_of_ble_eq_true rfl) ?_
  intro X hX hR C hret hnt
  generalize hQQ : jQ X K 8 48 (PL Qf (fun p => some (.int p.1)) (fun p => jl K p.2)) PN False = QQ
  change J X K 10 False QQ 0 0 2064 (jl K τ) 0 [(0, .ref (K.2.2 + 47)), (1, .ref (K.2.2 + 0)), (2, .ref (K.2.2 + 43))] []
  have hj_351 : (∀ (τ_351 : LawS) (s0_351 : Int32), Ok (fL_acts_j351 τ_351 s0_351) Qf → J X K 10 False QQ 8 48 2064 (jl K τ_351) 351 [] [.int s0_351]) := by
    intro τ_351 s0_351 h
    unfold fL_acts_j351 at h
    rw [← hQQ]
    exact J_iret C hret (Nat.le_of_ble_eq_true rfl) (Nat.le_of_ble_eq_true rfl) ⟨_, h.osome, rfl, rfl, rfl⟩ dL_acts_351
  have hj_338 : (∀ (τ_338 : LawS), Ok (fL_acts_j338 τ_338) Qf → J X K 10 False QQ 4 24 2064 (jl K τ_338) 338 [] []) := by
    intro τ_338 h
    unfold fL_acts_j338 at h
    refine J_iconst (v := 0) C (by decide) dL_acts_338 rfl ?_
    refine J_goto (t := 351) C dL_acts_339 (by decide) ?_
    refine J.widen (k' := 8) (sl' := 48) (Nat.le_of_ble_eq_true rfl) (Nat.le_of_ble_eq_true rfl) ?_
    exact hj_351 τ_338 (0 : Int32) h
  have hj_258 : (∀ (τ_258 : LawS) (s1_258 : Int32) (s2_258 : Int32) (s3_258 : Int32) (s4_258 : Int32), Ok (fL_acts_j258 τ_258 s1_258 s2_258 s3_258 s4_258) Qf → J X K 10 False QQ 0 0 2064 (jl K τ_258) 258 [] [.int s4_258, .int s3_258, .int s2_258, .int s1_258, .ref (K.2.2 + 47)]) := by
    intro τ_258 s1_258 s2_258 s3_258 s4_258 h
    unfold fL_acts_j258 at h
    refine Jl_cH (α := Int32 × LawS) (rest := []) (st9 := fun p_1 => [.int p_1.1]) C hR hX ch_RL_174 (kL_done hl  (Ok.ofbnd h)) rfl rfl (Nat.le_of_ble_eq_true rfl) (Nat.le_of_ble_eq_true rfl) (Nat.le_of_ble_eq_true rfl) ⟨(Nat.le_of_ble_eq_true rfl), (Nat.le_of_ble_eq_true rfl)⟩ dL_acts_258 rfl (fun _ => rfl) (fun p_1 h => ?_)
    have h : Ok _ _ := h
    change J X K 10 False QQ 4 24 2064 (jl K p_1.2) 261 [] [.int p_1.1]
    rw [← hQQ]
    exact J_iret C hret (Nat.le_of_ble_eq_true rfl) (Nat.le_of_ble_eq_true rfl) ⟨_, h.osome, rfl, rfl, rfl⟩ dL_acts_261
  have hj_220 : (∀ (τ_220 : LawS) (l3_220 : Int32) (l6_220 : Int32) (l7_220 : Int32), Ok (fL_acts_j220 τ_220 l3_220 l6_220 l7_220) Qf → J X K 10 False QQ 0 0 2064 (jl K τ_220) 220 [(0, .ref (K.2.2 + 47)), (1, .ref (K.2.2 + 0)), (3, .int l3_220), (6, .int l6_220), (7, .int l7_220)] []) := by
    intro τ_220 l3_220 l6_220 l7_220 h
    unfold fL_acts_j220 at h
    refine J_iload_n (i := 3) (p := 2) C dL_acts_220 rfl rfl rfl ?_
    refine J_iconst (v := 5) C (by decide) dL_acts_221 rfl ?_
    refine J_icmp_ne (t := 262) C dL_acts_222 (by decide) rfl (fun c_2 => ?_) (fun c_2 => ?_)
    · have h := h.neg c_2
      refine J_iload_n (i := 3) (p := 2) C dL_acts_262 rfl rfl rfl ?_
      refine J_bipush (v := 6) C (by decide) dL_acts_263 rfl ?_
      refine J_icmp_ne (t := 285) C dL_acts_265 (by decide) rfl (fun c_3 => ?_) (fun c_3 => ?_)
      · have h := h.neg c_3
        refine J_iload_n (i := 3) (p := 2) C dL_acts_285 rfl rfl rfl ?_
        refine J_bipush (v := 7) C (by decide) dL_acts_286 rfl ?_
        refine J_icmp_ne (t := 303) C dL_acts_288 (by decide) rfl (fun c_4 => ?_) (fun c_4 => ?_)
        · have h := h.neg c_4
          refine J_iload_n (i := 3) (p := 2) C dL_acts_303 rfl rfl rfl ?_
          refine J_bipush (v := 8) C (by decide) dL_acts_304 rfl ?_
          refine J_icmp_ne (t := 352) C dL_acts_306 (by decide) rfl (fun c_5 => ?_) (fun c_5 => ?_)
          · have h := h.neg c_5
            refine J_aload_n (i := 0) (p := 0) C dL_acts_352 rfl rfl rfl ?_
            refine J_iload_n (i := 3) (p := 2) C dL_acts_353 rfl rfl rfl ?_
            refine J_iconst (v := 0) C (by decide) dL_acts_354 rfl ?_
            refine J_iconst (v := 0) C (by decide) dL_acts_355 rfl ?_
            refine J_iconst (v := 0) C (by decide) dL_acts_356 rfl ?_
            refine Jl_cH (α := Int32 × LawS) (rest := []) (st9 := fun p_6 => [.int p_6.1]) C hR hX ch_RL_174 (kL_done hl  (Ok.ofbnd h)) rfl rfl (Nat.le_of_ble_eq_true rfl) (Nat.le_of_ble_eq_true rfl) (Nat.le_of_ble_eq_true rfl) ⟨(Nat.le_of_ble_eq_true rfl), (Nat.le_of_ble_eq_true rfl)⟩ dL_acts_357 rfl (fun _ => rfl) (fun p_6 h => ?_)
            have h : Ok _ _ := h
            change J X K 10 False QQ 4 24 2064 (jl K p_6.2) 360 [(0, .ref (K.2.2 + 47)), (1, .ref (K.2.2 + 0)), (3, .int l3_220), (6, .int l6_220), (7, .int l7_220)] [.int p_6.1]
            rw [← hQQ]
            exact J_iret C hret (Nat.le_of_ble_eq_true rfl) (Nat.le_of_ble_eq_true rfl) ⟨_, h.osome, rfl, rfl, rfl⟩ dL_acts_360
          · have h := h.pos (Decidable.not_not.mp c_5)
            refine J_aload_n (i := 0) (p := 0) C dL_acts_309 rfl rfl rfl ?_
            refine J_iconst (v := 5) C (by decide) dL_acts_310 rfl ?_
            refine Jl_cV (α := Int32 × Sto) (rest := []) (st9 := fun p_7 => [.int p_7.1]) (wd := fun p_7 => p_7.2) C hR hX cv_RL_134 (k11_count_n hl (Ok.ofnox h) (fun c hc => hc)) rfl rfl (Nat.le_of_ble_eq_true rfl) (Nat.le_of_ble_eq_true rfl) (Nat.le_of_ble_eq_true rfl) ⟨(Nat.le_of_ble_eq_true rfl), (Nat.le_of_ble_eq_true rfl)⟩ dL_acts_311 rfl (fun E n9 w9 hx => hx.elim) (fun _ => rfl) (fun p_7 h => ?_)
            have h : Ok _ _ := h
            change J X K 10 False QQ 0 0 2064 (jl K (τ_220.1, p_7.2)) 314 [(0, .ref (K.2.2 + 47)), (1, .ref (K.2.2 + 0)), (3, .int l3_220), (6, .int l6_220), (7, .int l7_220)] [.int p_7.1]
            refine J_if_eq (t := 338) C dL_acts_314 (by decide) rfl (fun c_8 => ?_) (fun c_8 => ?_)
            · have h := h.pos c_8
              refine J.widen (k' := 4) (sl' := 24) (Nat.le_of_ble_eq_true rfl) (Nat.le_of_ble_eq_true rfl) ?_
              refine J.sub [] rfl ?_
              exact hj_338 (τ_220.1, p_7.2) h
            · have h := h.neg c_8
              refine J_aload_n (i := 0) (p := 0) C dL_acts_317 rfl rfl rfl ?_
              refine J_iconst (v := 5) C (by decide) dL_acts_318 rfl ?_
              refine Jl_cV (α := Int32 × Sto) (rest := []) (st9 := fun p_9 => [.int p_9.1]) (wd := fun p_9 => p_9.2) C hR hX cv_RL_134 (k11_count_n hl (Ok.ofnox h) (fun c hc => hc)) rfl rfl (Nat.le_of_ble_eq_true rfl) (Nat.le_of_ble_eq_true rfl) (Nat.le_of_ble_eq_true rfl) ⟨(Nat.le_of_ble_eq_true rfl), (Nat.le_of_ble_eq_true rfl)⟩ dL_acts_319 rfl (fun E n9 w9 hx => hx.elim) (fun _ => rfl) (fun p_9 h => ?_)
              have h : Ok _ _ := h
              change J X K 10 False QQ 0 0 2064 (jl K (τ_220.1, p_9.2)) 322 [(0, .ref (K.2.2 + 47)), (1, .ref (K.2.2 + 0)), (3, .int l3_220), (6, .int l6_220), (7, .int l7_220)] [.int p_9.1]
              refine J_iconst (v := 3) C (by decide) dL_acts_322 rfl ?_
              refine J_icmp_gt (t := 338) C dL_acts_323 (by decide) rfl (fun c_10 => ?_) (fun c_10 => ?_)
              · have h := h.pos c_10
                refine J.widen (k' := 4) (sl' := 24) (Nat.le_of_ble_eq_true rfl) (Nat.le_of_ble_eq_true rfl) ?_
                refine J.sub [] rfl ?_
                exact hj_338 (τ_220.1, p_9.2) h
              · have h := h.neg c_10
                refine J_aload_n (i := 0) (p := 0) C dL_acts_326 rfl rfl rfl ?_
                refine J_bipush (v := 22) C (by decide) dL_acts_327 rfl ?_
                refine J_iconst (v := 0) C (by decide) dL_acts_329 rfl ?_
                refine J_iconst (v := 0) C (by decide) dL_acts_330 rfl ?_
                refine J_iconst (v := 0) C (by decide) dL_acts_331 rfl ?_
                refine Jl_cH (α := Int32 × LawS) (rest := []) (st9 := fun p_11 => [.int p_11.1]) C hR hX ch_RL_174 (kL_done hl  (Ok.ofbnd h)) rfl rfl (Nat.le_of_ble_eq_true rfl) (Nat.le_of_ble_eq_true rfl) (Nat.le_of_ble_eq_true rfl) ⟨(Nat.le_of_ble_eq_true rfl), (Nat.le_of_ble_eq_true rfl)⟩ dL_acts_332 rfl (fun _ => rfl) (fun p_11 h => ?_)
                have h : Ok _ _ := h
                change J X K 10 False QQ 4 24 2064 (jl K p_11.2) 335 [(0, .ref (K.2.2 + 47)), (1, .ref (K.2.2 + 0)), (3, .int l3_220), (6, .int l6_220), (7, .int l7_220)] [.int p_11.1]
                refine J_if_ge (t := 342) C dL_acts_335 (by decide) rfl (fun c_12 => ?_) (fun c_12 => ?_)
                · have h := h.pos c_12
                  refine J_aload_n (i := 0) (p := 0) C dL_acts_342 rfl rfl rfl ?_
                  refine J_bipush (v := 8) C (by decide) dL_acts_343 rfl ?_
                  refine J_iconst (v := 0) C (by decide) dL_acts_345 rfl ?_
                  refine J_iconst (v := 0) C (by decide) dL_acts_346 rfl ?_
                  refine J_iconst (v := 0) C (by decide) dL_acts_347 rfl ?_
                  refine Jl_cH (α := Int32 × LawS) (rest := []) (st9 := fun p_13 => [.int p_13.1]) C hR hX ch_RL_174 (kL_done hl  (Ok.ofbnd h)) rfl rfl (Nat.le_of_ble_eq_true rfl) (Nat.le_of_ble_eq_true rfl) (Nat.le_of_ble_eq_true rfl) ⟨(Nat.le_of_ble_eq_true rfl), (Nat.le_of_ble_eq_true rfl)⟩ dL_acts_348 rfl (fun _ => rfl) (fun p_13 h => ?_)
                  have h : Ok _ _ := h
                  change J X K 10 False QQ 8 48 2064 (jl K p_13.2) 351 [(0, .ref (K.2.2 + 47)), (1, .ref (K.2.2 + 0)), (3, .int l3_220), (6, .int l6_220), (7, .int l7_220)] [.int p_13.1]
                  refine J.sub [] rfl ?_
                  exact hj_351 p_13.2 p_13.1 h
                · have h := h.neg c_12
                  refine J.sub [] rfl ?_
                  exact hj_338 p_11.2 h
        · have h := h.pos (Decidable.not_not.mp c_4)
          refine J_aload_n (i := 0) (p := 0) C dL_acts_291 rfl rfl rfl ?_
          refine J_bipush (v := 7) C (by decide) dL_acts_292 rfl ?_
          refine J_iload (i := 6) (p := 3) C dL_acts_294 rfl rfl ?_
          refine J_iload (i := 7) (p := 4) C dL_acts_296 rfl rfl ?_
          refine J_iconst (v := 0) C (by decide) dL_acts_298 rfl ?_
          refine Jl_cH (α := Int32 × LawS) (rest := []) (st9 := fun p_14 => [.int p_14.1]) C hR hX ch_RL_174 (kL_done hl  (Ok.ofbnd h)) rfl rfl (Nat.le_of_ble_eq_true rfl) (Nat.le_of_ble_eq_true rfl) (Nat.le_of_ble_eq_true rfl) ⟨(Nat.le_of_ble_eq_true rfl), (Nat.le_of_ble_eq_true rfl)⟩ dL_acts_299 rfl (fun _ => rfl) (fun p_14 h => ?_)
          have h : Ok _ _ := h
          change J X K 10 False QQ 4 24 2064 (jl K p_14.2) 302 [(0, .ref (K.2.2 + 47)), (1, .ref (K.2.2 + 0)), (3, .int l3_220), (6, .int l6_220), (7, .int l7_220)] [.int p_14.1]
          rw [← hQQ]
          exact J_iret C hret (Nat.le_of_ble_eq_true rfl) (Nat.le_of_ble_eq_true rfl) ⟨_, h.osome, rfl, rfl, rfl⟩ dL_acts_302
      · have h := h.pos (Decidable.not_not.mp c_3)
        refine J_aload_n (i := 0) (p := 0) C dL_acts_268 rfl rfl rfl ?_
        refine J_bipush (v := 6) C (by decide) dL_acts_269 rfl ?_
        refine J_iload (i := 6) (p := 3) C dL_acts_271 rfl rfl ?_
        refine J_aload_n (i := 1) (p := 1) C dL_acts_273 rfl rfl rfl ?_
        refine J_iconst (v := 1) C (by decide) dL_acts_274 rfl ?_
        refine J_bipush (v := 9) C (by decide) dL_acts_275 rfl ?_
        refine Jl_cS (α := Int32 × LawS) (rest := [.int l6_220, .int (6 : Int32), .ref (K.2.2 + 47)]) (st9 := fun p_15 => [.int p_15.1, .int l6_220, .int (6 : Int32), .ref (K.2.2 + 47)]) C hR hX cs_RL_137 (kL_from hl  (Ok.ofbnd h)) rfl rfl (Nat.le_of_ble_eq_true rfl) (Nat.le_of_ble_eq_true rfl) (Nat.le_of_ble_eq_true rfl) ⟨(Nat.le_of_ble_eq_true rfl), (Nat.le_of_ble_eq_true rfl)⟩ dL_acts_277 rfl (fun _ => rfl) (fun p_15 h => ?_)
        have h : Ok _ _ := h
        change J X K 10 False QQ 0 0 2064 (jl K p_15.2) 280 [(0, .ref (K.2.2 + 47)), (1, .ref (K.2.2 + 0)), (3, .int l3_220), (6, .int l6_220), (7, .int l7_220)] [.int p_15.1, .int l6_220, .int (6 : Int32), .ref (K.2.2 + 47)]
        refine J_iconst (v := 0) C (by decide) dL_acts_280 rfl ?_
        refine Jl_cH (α := Int32 × LawS) (rest := []) (st9 := fun p_16 => [.int p_16.1]) C hR hX ch_RL_174 (kL_done hl  (Ok.ofbnd h)) rfl rfl (Nat.le_of_ble_eq_true rfl) (Nat.le_of_ble_eq_true rfl) (Nat.le_of_ble_eq_true rfl) ⟨(Nat.le_of_ble_eq_true rfl), (Nat.le_of_ble_eq_true rfl)⟩ dL_acts_281 rfl (fun _ => rfl) (fun p_16 h => ?_)
        have h : Ok _ _ := h
        change J X K 10 False QQ 4 24 2064 (jl K p_16.2) 284 [(0, .ref (K.2.2 + 47)), (1, .ref (K.2.2 + 0)), (3, .int l3_220), (6, .int l6_220), (7, .int l7_220)] [.int p_16.1]
        rw [← hQQ]
        exact J_iret C hret (Nat.le_of_ble_eq_true rfl) (Nat.le_of_ble_eq_true rfl) ⟨_, h.osome, rfl, rfl, rfl⟩ dL_acts_284
    · have h := h.pos (Decidable.not_not.mp c_2)
      refine J_aload_n (i := 0) (p := 0) C dL_acts_225 rfl rfl rfl ?_
      refine J_iconst (v := 5) C (by decide) dL_acts_226 rfl ?_
      refine J_iload (i := 6) (p := 3) C dL_acts_227 rfl rfl ?_
      refine J_iload (i := 7) (p := 4) C dL_acts_229 rfl rfl ?_
      refine J_aload_n (i := 1) (p := 1) C dL_acts_231 rfl rfl rfl ?_
      refine Jl_cS (α := Int32 × LawS) (rest := [.int l7_220, .int l6_220, .int (5 : Int32), .ref (K.2.2 + 47)]) (st9 := fun p_17 => [.int p_17.1, .int l7_220, .int l6_220, .int (5 : Int32), .ref (K.2.2 + 47)]) C hR hX cs_RL_8 (kL_next hl  (Ok.ofbnd h)) rfl rfl (Nat.le_of_ble_eq_true rfl) (Nat.le_of_ble_eq_true rfl) (Nat.le_of_ble_eq_true rfl) ⟨(Nat.le_of_ble_eq_true rfl), (Nat.le_of_ble_eq_true rfl)⟩ dL_acts_232 rfl (fun _ => rfl) (fun p_17 h => ?_)
      have h : Ok _ _ := h
      change J X K 10 False QQ 0 0 2064 (jl K p_17.2) 235 [(0, .ref (K.2.2 + 47)), (1, .ref (K.2.2 + 0)), (3, .int l3_220), (6, .int l6_220), (7, .int l7_220)] [.int p_17.1, .int l7_220, .int l6_220, .int (5 : Int32), .ref (K.2.2 + 47)]
      refine J_iconst (v := 2) C (by decide) dL_acts_235 rfl ?_
      refine J_irem C (by decide) dL_acts_236 rfl ?_
      refine J_if_ne (t := 250) C dL_acts_237 (by decide) rfl (fun c_18 => ?_) (fun c_18 => ?_)
      · have h := h.neg c_18
        refine J_aload_n (i := 1) (p := 1) C dL_acts_250 rfl rfl rfl ?_
        refine J_iconst (v := 1) C (by decide) dL_acts_251 rfl ?_
        refine J_bipush (v := 8) C (by decide) dL_acts_252 rfl ?_
        refine Jl_cS (α := Int32 × LawS) (rest := [.int l7_220, .int l6_220, .int (5 : Int32), .ref (K.2.2 + 47)]) (st9 := fun p_19 => [.int p_19.1, .int l7_220, .int l6_220, .int (5 : Int32), .ref (K.2.2 + 47)]) C hR hX cs_RL_137 (kL_from hl  (Ok.ofbnd h)) rfl rfl (Nat.le_of_ble_eq_true rfl) (Nat.le_of_ble_eq_true rfl) (Nat.le_of_ble_eq_true rfl) ⟨(Nat.le_of_ble_eq_true rfl), (Nat.le_of_ble_eq_true rfl)⟩ dL_acts_254 rfl (fun _ => rfl) (fun p_19 h => ?_)
        have h : Ok _ _ := h
        change J X K 10 False QQ 0 0 2064 (jl K p_19.2) 257 [(0, .ref (K.2.2 + 47)), (1, .ref (K.2.2 + 0)), (3, .int l3_220), (6, .int l6_220), (7, .int l7_220)] [.int p_19.1, .int l7_220, .int l6_220, .int (5 : Int32), .ref (K.2.2 + 47)]
        refine J_ineg C dL_acts_257 rfl ?_
        refine J.sub [] rfl ?_
        exact hj_258 p_19.2 (5 : Int32) l6_220 l7_220 (-p_19.1) h
      · have h := h.pos (Decidable.not_not.mp c_18)
        refine J_aload_n (i := 1) (p := 1) C dL_acts_240 rfl rfl rfl ?_
        refine J_iconst (v := 1) C (by decide) dL_acts_241 rfl ?_
        refine J_bipush (v := 8) C (by decide) dL_acts_242 rfl ?_
        refine Jl_cS (α := Int32 × LawS) (rest := [.int l7_220, .int l6_220, .int (5 : Int32), .ref (K.2.2 + 47)]) (st9 := fun p_20 => [.int p_20.1, .int l7_220, .int l6_220, .int (5 : Int32), .ref (K.2.2 + 47)]) C hR hX cs_RL_137 (kL_from hl  (Ok.ofbnd h)) rfl rfl (Nat.le_of_ble_eq_true rfl) (Nat.le_of_ble_eq_true rfl) (Nat.le_of_ble_eq_true rfl) ⟨(Nat.le_of_ble_eq_true rfl), (Nat.le_of_ble_eq_true rfl)⟩ dL_acts_244 rfl (fun _ => rfl) (fun p_20 h => ?_)
        have h : Ok _ _ := h
        change J X K 10 False QQ 0 0 2064 (jl K p_20.2) 247 [(0, .ref (K.2.2 + 47)), (1, .ref (K.2.2 + 0)), (3, .int l3_220), (6, .int l6_220), (7, .int l7_220)] [.int p_20.1, .int l7_220, .int l6_220, .int (5 : Int32), .ref (K.2.2 + 47)]
        refine J_goto (t := 258) C dL_acts_247 (by decide) ?_
        refine J.sub [] rfl ?_
        exact hj_258 p_20.2 (5 : Int32) l6_220 l7_220 p_20.1 h
  have hj_219 : (∀ (τ_219 : LawS) (s0_219 : Int32), Ok (fL_acts_j219 τ_219 s0_219) Qf → J X K 10 False QQ 8 48 2064 (jl K τ_219) 219 [] [.int s0_219]) := by
    intro τ_219 s0_219 h
    unfold fL_acts_j219 at h
    rw [← hQQ]
    exact J_iret C hret (Nat.le_of_ble_eq_true rfl) (Nat.le_of_ble_eq_true rfl) ⟨_, h.osome, rfl, rfl, rfl⟩ dL_acts_219
  have hj_89 : (∀ (τ_89 : LawS) (l3_89 : Int32) (l4_89 : Int32) (l6_89 : Int32) (l7_89 : Int32) (l8_89 : Int32), Ok (fL_acts_j89 τ_89 l3_89 l4_89 l6_89 l7_89 l8_89) Qf → J X K 10 False QQ 0 0 2064 (jl K τ_89) 89 [(0, .ref (K.2.2 + 47)), (1, .ref (K.2.2 + 0)), (3, .int l3_89), (4, .int l4_89), (6, .int l6_89), (7, .int l7_89), (8, .int l8_89)] []) := by
    intro τ_89 l3_89 l4_89 l6_89 l7_89 l8_89 h
    unfold fL_acts_j89 at h
    refine J_iload_n (i := 3) (p := 2) C dL_acts_89 rfl rfl rfl ?_
    refine J_iconst (v := 1) C (by decide) dL_acts_90 rfl ?_
    refine J_icmp_ne (t := 110) C dL_acts_91 (by decide) rfl (fun c_21 => ?_) (fun c_21 => ?_)
    · have h := h.neg c_21
      refine J_iload_n (i := 3) (p := 2) C dL_acts_110 rfl rfl rfl ?_
      refine J_iconst (v := 2) C (by decide) dL_acts_111 rfl ?_
      refine J_icmp_ne (t := 138) C dL_acts_112 (by decide) rfl (fun c_22 => ?_) (fun c_22 => ?_)
      · have h := h.neg c_22
        refine J_iload_n (i := 3) (p := 2) C dL_acts_138 rfl rfl rfl ?_
        refine J_iconst (v := 3) C (by decide) dL_acts_139 rfl ?_
        refine J_icmp_ne (t := 167) C dL_acts_140 (by decide) rfl (fun c_23 => ?_) (fun c_23 => ?_)
        · have h := h.neg c_23
          refine J_iload_n (i := 3) (p := 2) C dL_acts_167 rfl rfl rfl ?_
          refine J_iconst (v := 4) C (by decide) dL_acts_168 rfl ?_
          refine J_icmp_ne (t := 220) C dL_acts_169 (by decide) rfl (fun c_24 => ?_) (fun c_24 => ?_)
          · have h := h.neg c_24
            refine J.sub [0, 1, 2, 4, 5] rfl ?_
            exact hj_220 τ_89 l3_89 l6_89 l7_89 h
          · have h := h.pos (Decidable.not_not.mp c_24)
            refine J_aload_n (i := 1) (p := 1) C dL_acts_172 rfl rfl rfl ?_
            refine Jl_cS (α := Int32 × LawS) (rest := []) (st9 := fun p_25 => [.int p_25.1]) C hR hX cs_RL_8 (kL_next hl  (Ok.ofbnd h)) rfl rfl (Nat.le_of_ble_eq_true rfl) (Nat.le_of_ble_eq_true rfl) (Nat.le_of_ble_eq_true rfl) ⟨(Nat.le_of_ble_eq_true rfl), (Nat.le_of_ble_eq_true rfl)⟩ dL_acts_173 rfl (fun _ => rfl) (fun p_25 h => ?_)
            have h : Ok _ _ := h
            change J X K 10 False QQ 0 0 2064 (jl K p_25.2) 176 [(0, .ref (K.2.2 + 47)), (1, .ref (K.2.2 + 0)), (3, .int l3_89), (4, .int l4_89), (6, .int l6_89), (7, .int l7_89), (8, .int l8_89)] [.int p_25.1]
            refine J_iconst (v := 2) C (by decide) dL_acts_176 rfl ?_
            refine J_irem C (by decide) dL_acts_177 rfl ?_
            refine J_if_ne (t := 220) C dL_acts_178 (by decide) rfl (fun c_26 => ?_) (fun c_26 => ?_)
            · have h := h.neg c_26
              refine J.sub [0, 1, 2, 4, 5] rfl ?_
              exact hj_220 p_25.2 l3_89 l6_89 l7_89 h
            · have h := h.pos (Decidable.not_not.mp c_26)
              refine J_aload_n (i := 0) (p := 0) C dL_acts_181 rfl rfl rfl ?_
              refine J_bipush (v := 25) C (by decide) dL_acts_182 rfl ?_
              refine J_iload (i := 6) (p := 4) C dL_acts_184 rfl rfl ?_
              refine J_iload (i := 7) (p := 5) C dL_acts_186 rfl rfl ?_
              refine J_iload (i := 6) (p := 4) C dL_acts_188 rfl rfl ?_
              refine J_isub C dL_acts_190 rfl ?_
              refine J_iconst (v := 1) C (by decide) dL_acts_191 rfl ?_
              refine J_iadd C dL_acts_192 rfl ?_
              refine J_aload_n (i := 1) (p := 1) C dL_acts_193 rfl rfl rfl ?_
              refine Jl_cS (α := Int32 × LawS) (rest := [.int ((l7_89 - l6_89) + (1 : Int32)), .int l6_89, .int (25 : Int32), .ref (K.2.2 + 47)]) (st9 := fun p_27 => [.int p_27.1, .int ((l7_89 - l6_89) + (1 : Int32)), .int l6_89, .int (25 : Int32), .ref (K.2.2 + 47)]) C hR hX cs_RL_8 (kL_next hl  (Ok.ofbnd h)) rfl rfl (Nat.le_of_ble_eq_true rfl) (Nat.le_of_ble_eq_true rfl) (Nat.le_of_ble_eq_true rfl) ⟨(Nat.le_of_ble_eq_true rfl), (Nat.le_of_ble_eq_true rfl)⟩ dL_acts_194 rfl (fun _ => rfl) (fun p_27 h => ?_)
              have h : Ok _ _ := h
              change J X K 10 False QQ 0 0 2064 (jl K p_27.2) 197 [(0, .ref (K.2.2 + 47)), (1, .ref (K.2.2 + 0)), (3, .int l3_89), (4, .int l4_89), (6, .int l6_89), (7, .int l7_89), (8, .int l8_89)] [.int p_27.1, .int ((l7_89 - l6_89) + (1 : Int32)), .int l6_89, .int (25 : Int32), .ref (K.2.2 + 47)]
              refine J_bipush (v := 7) C (by decide) dL_acts_197 rfl ?_
              refine J_irem C (by decide) dL_acts_199 rfl ?_
              refine Jl_cH (α := Int32 × LawS) (rest := []) (st9 := fun p_28 => [.int p_28.1]) C hR hX ch_RL_174 (kL_done hl  (Ok.ofbnd h)) rfl rfl (Nat.le_of_ble_eq_true rfl) (Nat.le_of_ble_eq_true rfl) (Nat.le_of_ble_eq_true rfl) ⟨(Nat.le_of_ble_eq_true rfl), (Nat.le_of_ble_eq_true rfl)⟩ dL_acts_200 rfl (fun _ => rfl) (fun p_28 h => ?_)
              have h : Ok _ _ := h
              change J X K 10 False QQ 4 24 2064 (jl K p_28.2) 203 [(0, .ref (K.2.2 + 47)), (1, .ref (K.2.2 + 0)), (3, .int l3_89), (4, .int l4_89), (6, .int l6_89), (7, .int l7_89), (8, .int l8_89)] [.int p_28.1]
              refine J_if_ge (t := 211) C dL_acts_203 (by decide) rfl (fun c_29 => ?_) (fun c_29 => ?_)
              · have h := h.pos c_29
                refine J_aload_n (i := 0) (p := 0) C dL_acts_211 rfl rfl rfl ?_
                refine J_iconst (v := 4) C (by decide) dL_acts_212 rfl ?_
                refine J_iconst (v := 0) C (by decide) dL_acts_213 rfl ?_
                refine J_iconst (v := 0) C (by decide) dL_acts_214 rfl ?_
                refine J_iconst (v := 0) C (by decide) dL_acts_215 rfl ?_
                refine Jl_cH (α := Int32 × LawS) (rest := []) (st9 := fun p_30 => [.int p_30.1]) C hR hX ch_RL_174 (kL_done hl  (Ok.ofbnd h)) rfl rfl (Nat.le_of_ble_eq_true rfl) (Nat.le_of_ble_eq_true rfl) (Nat.le_of_ble_eq_true rfl) ⟨(Nat.le_of_ble_eq_true rfl), (Nat.le_of_ble_eq_true rfl)⟩ dL_acts_216 rfl (fun _ => rfl) (fun p_30 h => ?_)
                have h : Ok _ _ := h
                change J X K 10 False QQ 8 48 2064 (jl K p_30.2) 219 [(0, .ref (K.2.2 + 47)), (1, .ref (K.2.2 + 0)), (3, .int l3_89), (4, .int l4_89), (6, .int l6_89), (7, .int l7_89), (8, .int l8_89)] [.int p_30.1]
                refine J.sub [] rfl ?_
                exact hj_219 p_30.2 p_30.1 h
              · have h := h.neg c_29
                refine J_ldc (v := -1000009) C ci_RL_192 dL_acts_206 rfl ?_
                refine J_goto (t := 219) C dL_acts_208 (by decide) ?_
                refine J.widen (k' := 8) (sl' := 48) (Nat.le_of_ble_eq_true rfl) (Nat.le_of_ble_eq_true rfl) ?_
                refine J.sub [] rfl ?_
                exact hj_219 p_28.2 (-1000009 : Int32) h
        · have h := h.pos (Decidable.not_not.mp c_23)
          refine J_aload_n (i := 0) (p := 0) C dL_acts_143 rfl rfl rfl ?_
          refine J_iconst (v := 3) C (by decide) dL_acts_144 rfl ?_
          refine J_iload (i := 8) (p := 6) C dL_acts_145 rfl rfl ?_
          refine J_iload (i := 4) (p := 3) C dL_acts_147 rfl rfl ?_
          refine J_iload (i := 8) (p := 6) C dL_acts_149 rfl rfl ?_
          refine J_aload_n (i := 1) (p := 1) C dL_acts_151 rfl rfl rfl ?_
          refine Jl_cS (α := Int32 × LawS) (rest := [.int l8_89, .int l4_89, .int l8_89, .int (3 : Int32), .ref (K.2.2 + 47)]) (st9 := fun p_31 => [.int p_31.1, .int l8_89, .int l4_89, .int l8_89, .int (3 : Int32), .ref (K.2.2 + 47)]) C hR hX cs_RL_8 (kL_next hl  (Ok.ofbnd h)) rfl rfl (Nat.le_of_ble_eq_true rfl) (Nat.le_of_ble_eq_true rfl) (Nat.le_of_ble_eq_true rfl) ⟨(Nat.le_of_ble_eq_true rfl), (Nat.le_of_ble_eq_true rfl)⟩ dL_acts_152 rfl (fun _ => rfl) (fun p_31 h => ?_)
          have h : Ok _ _ := h
          change J X K 10 False QQ 0 0 2064 (jl K p_31.2) 155 [(0, .ref (K.2.2 + 47)), (1, .ref (K.2.2 + 0)), (3, .int l3_89), (4, .int l4_89), (6, .int l6_89), (7, .int l7_89), (8, .int l8_89)] [.int p_31.1, .int l8_89, .int l4_89, .int l8_89, .int (3 : Int32), .ref (K.2.2 + 47)]
          refine J_bipush (v := 9) C (by decide) dL_acts_155 rfl ?_
          refine J_irem C (by decide) dL_acts_157 rfl ?_
          refine J_iadd C dL_acts_158 rfl ?_
          refine J_mmin C hR mm_RL_169 (Nat.le_of_ble_eq_true rfl) (Nat.le_of_ble_eq_true rfl) (Nat.le_of_ble_eq_true rfl) (Nat.le_of_ble_eq_true rfl) dL_acts_159 rfl ?_
          refine J_iconst (v := 0) C (by decide) dL_acts_162 rfl ?_
          refine Jl_cH (α := Int32 × LawS) (rest := []) (st9 := fun p_32 => [.int p_32.1]) C hR hX ch_RL_174 (kL_done hl  (Ok.ofbnd h)) rfl rfl (Nat.le_of_ble_eq_true rfl) (Nat.le_of_ble_eq_true rfl) (Nat.le_of_ble_eq_true rfl) ⟨(Nat.le_of_ble_eq_true rfl), (Nat.le_of_ble_eq_true rfl)⟩ dL_acts_163 rfl (fun _ => rfl) (fun p_32 h => ?_)
          have h : Ok _ _ := h
          change J X K 10 False QQ 4 24 2064 (jl K p_32.2) 166 [(0, .ref (K.2.2 + 47)), (1, .ref (K.2.2 + 0)), (3, .int l3_89), (4, .int l4_89), (6, .int l6_89), (7, .int l7_89), (8, .int l8_89)] [.int p_32.1]
          rw [← hQQ]
          exact J_iret C hret (Nat.le_of_ble_eq_true rfl) (Nat.le_of_ble_eq_true rfl) ⟨_, h.osome, rfl, rfl, rfl⟩ dL_acts_166
      · have h := h.pos (Decidable.not_not.mp c_22)
        refine J_aload_n (i := 0) (p := 0) C dL_acts_115 rfl rfl rfl ?_
        refine J_iconst (v := 2) C (by decide) dL_acts_116 rfl ?_
        refine J_iload (i := 8) (p := 6) C dL_acts_117 rfl rfl ?_
        refine J_iload (i := 4) (p := 3) C dL_acts_119 rfl rfl ?_
        refine J_iload (i := 8) (p := 6) C dL_acts_121 rfl rfl ?_
        refine J_aload_n (i := 1) (p := 1) C dL_acts_123 rfl rfl rfl ?_
        refine Jl_cS (α := Int32 × LawS) (rest := [.int l8_89, .int l4_89, .int l8_89, .int (2 : Int32), .ref (K.2.2 + 47)]) (st9 := fun p_33 => [.int p_33.1, .int l8_89, .int l4_89, .int l8_89, .int (2 : Int32), .ref (K.2.2 + 47)]) C hR hX cs_RL_8 (kL_next hl  (Ok.ofbnd h)) rfl rfl (Nat.le_of_ble_eq_true rfl) (Nat.le_of_ble_eq_true rfl) (Nat.le_of_ble_eq_true rfl) ⟨(Nat.le_of_ble_eq_true rfl), (Nat.le_of_ble_eq_true rfl)⟩ dL_acts_124 rfl (fun _ => rfl) (fun p_33 h => ?_)
        have h : Ok _ _ := h
        change J X K 10 False QQ 0 0 2064 (jl K p_33.2) 127 [(0, .ref (K.2.2 + 47)), (1, .ref (K.2.2 + 0)), (3, .int l3_89), (4, .int l4_89), (6, .int l6_89), (7, .int l7_89), (8, .int l8_89)] [.int p_33.1, .int l8_89, .int l4_89, .int l8_89, .int (2 : Int32), .ref (K.2.2 + 47)]
        refine J_iconst (v := 5) C (by decide) dL_acts_127 rfl ?_
        refine J_irem C (by decide) dL_acts_128 rfl ?_
        refine J_iadd C dL_acts_129 rfl ?_
        refine J_mmin C hR mm_RL_169 (Nat.le_of_ble_eq_true rfl) (Nat.le_of_ble_eq_true rfl) (Nat.le_of_ble_eq_true rfl) (Nat.le_of_ble_eq_true rfl) dL_acts_130 rfl ?_
        refine J_iconst (v := 0) C (by decide) dL_acts_133 rfl ?_
        refine Jl_cH (α := Int32 × LawS) (rest := []) (st9 := fun p_34 => [.int p_34.1]) C hR hX ch_RL_174 (kL_done hl  (Ok.ofbnd h)) rfl rfl (Nat.le_of_ble_eq_true rfl) (Nat.le_of_ble_eq_true rfl) (Nat.le_of_ble_eq_true rfl) ⟨(Nat.le_of_ble_eq_true rfl), (Nat.le_of_ble_eq_true rfl)⟩ dL_acts_134 rfl (fun _ => rfl) (fun p_34 h => ?_)
        have h : Ok _ _ := h
        change J X K 10 False QQ 4 24 2064 (jl K p_34.2) 137 [(0, .ref (K.2.2 + 47)), (1, .ref (K.2.2 + 0)), (3, .int l3_89), (4, .int l4_89), (6, .int l6_89), (7, .int l7_89), (8, .int l8_89)] [.int p_34.1]
        rw [← hQQ]
        exact J_iret C hret (Nat.le_of_ble_eq_true rfl) (Nat.le_of_ble_eq_true rfl) ⟨_, h.osome, rfl, rfl, rfl⟩ dL_acts_137
    · have h := h.pos (Decidable.not_not.mp c_21)
      refine J_aload_n (i := 0) (p := 0) C dL_acts_94 rfl rfl rfl ?_
      refine J_iconst (v := 1) C (by decide) dL_acts_95 rfl ?_
      refine J_aload_n (i := 1) (p := 1) C dL_acts_96 rfl rfl rfl ?_
      refine J_bipush (v := -6) C (by decide) dL_acts_97 rfl ?_
      refine J_bipush (v := 6) C (by decide) dL_acts_99 rfl ?_
      refine Jl_cS (α := Int32 × LawS) (rest := [.int (1 : Int32), .ref (K.2.2 + 47)]) (st9 := fun p_35 => [.int p_35.1, .int (1 : Int32), .ref (K.2.2 + 47)]) C hR hX cs_RL_137 (kL_from hl  (Ok.ofbnd h)) rfl rfl (Nat.le_of_ble_eq_true rfl) (Nat.le_of_ble_eq_true rfl) (Nat.le_of_ble_eq_true rfl) ⟨(Nat.le_of_ble_eq_true rfl), (Nat.le_of_ble_eq_true rfl)⟩ dL_acts_101 rfl (fun _ => rfl) (fun p_35 h => ?_)
      have h : Ok _ _ := h
      change J X K 10 False QQ 0 0 2064 (jl K p_35.2) 104 [(0, .ref (K.2.2 + 47)), (1, .ref (K.2.2 + 0)), (3, .int l3_89), (4, .int l4_89), (6, .int l6_89), (7, .int l7_89), (8, .int l8_89)] [.int p_35.1, .int (1 : Int32), .ref (K.2.2 + 47)]
      refine J_iconst (v := 0) C (by decide) dL_acts_104 rfl ?_
      refine J_iconst (v := 0) C (by decide) dL_acts_105 rfl ?_
      refine Jl_cH (α := Int32 × LawS) (rest := []) (st9 := fun p_36 => [.int p_36.1]) C hR hX ch_RL_174 (kL_done hl  (Ok.ofbnd h)) rfl rfl (Nat.le_of_ble_eq_true rfl) (Nat.le_of_ble_eq_true rfl) (Nat.le_of_ble_eq_true rfl) ⟨(Nat.le_of_ble_eq_true rfl), (Nat.le_of_ble_eq_true rfl)⟩ dL_acts_106 rfl (fun _ => rfl) (fun p_36 h => ?_)
      have h : Ok _ _ := h
      change J X K 10 False QQ 4 24 2064 (jl K p_36.2) 109 [(0, .ref (K.2.2 + 47)), (1, .ref (K.2.2 + 0)), (3, .int l3_89), (4, .int l4_89), (6, .int l6_89), (7, .int l7_89), (8, .int l8_89)] [.int p_36.1]
      rw [← hQQ]
      exact J_iret C hret (Nat.le_of_ble_eq_true rfl) (Nat.le_of_ble_eq_true rfl) ⟨_, h.osome, rfl, rfl, rfl⟩ dL_acts_109
  have hj_69 : (∀ (τ_69 : LawS) (l3_69 : Int32) (l4_69 : Int32) (l6_69 : Int32) (l7_69 : Int32) (l8_69 : Int32), Ok (fL_acts_j69 τ_69 l3_69 l4_69 l6_69 l7_69 l8_69) Qf → J X K 10 False QQ 0 0 2064 (jl K τ_69) 69 [(0, .ref (K.2.2 + 47)), (1, .ref (K.2.2 + 0)), (2, .ref (K.2.2 + 43)), (3, .int l3_69), (4, .int l4_69), (6, .int l6_69), (7, .int l7_69), (8, .int l8_69)] []) := by
    intro τ_69 l3_69 l4_69 l6_69 l7_69 l8_69 h
    unfold fL_acts_j69 at h
    refine J_aload_n (i := 1) (p := 1) C dL_acts_69 rfl rfl rfl ?_
    refine J_aload_n (i := 2) (p := 2) C dL_acts_70 rfl rfl rfl ?_
    refine Jl_cS (α := Int32 × LawS) (rest := []) (st9 := fun p_37 => [.int p_37.1]) C hR hX cs_RL_161 (kL_draws hl  (Ok.ofbnd h)) rfl rfl (Nat.le_of_ble_eq_true rfl) (Nat.le_of_ble_eq_true rfl) (Nat.le_of_ble_eq_true rfl) ⟨(Nat.le_of_ble_eq_true rfl), (Nat.le_of_ble_eq_true rfl)⟩ dL_acts_71 rfl (fun _ => rfl) (fun p_37 h => ?_)
    have h : Ok _ _ := h
    change J X K 10 False QQ 0 0 2064 (jl K p_37.2) 74 [(0, .ref (K.2.2 + 47)), (1, .ref (K.2.2 + 0)), (2, .ref (K.2.2 + 43)), (3, .int l3_69), (4, .int l4_69), (6, .int l6_69), (7, .int l7_69), (8, .int l8_69)] [.int p_37.1]
    obtain ⟨x9_1, e_x9_1, h⟩ := Ok.nm h
    refine J_istoreE (i := 9) (lv' := [(9, .int x9_1), (0, .ref (K.2.2 + 47)), (1, .ref (K.2.2 + 0)), (2, .ref (K.2.2 + 43)), (3, .int l3_69), (4, .int l4_69), (6, .int l6_69), (7, .int l7_69), (8, .int l8_69)]) C e_x9_1 dL_acts_74 (Nat.le_of_ble_eq_true rfl) rfl rfl ?_
    refine J_aload_n (i := 0) (p := 1) C dL_acts_76 rfl rfl rfl ?_
    refine J_aload_n (i := 2) (p := 3) C dL_acts_77 rfl rfl rfl ?_
    refine J_iload (i := 9) (p := 0) C dL_acts_78 rfl rfl ?_
    refine Jl_cS (α := Int32 × LawS) (rest := []) (st9 := fun p_38 => [.int p_38.1]) C hR hX cs_RL_165 (kL_feeds hl rfl (Ok.ofbnd h)) rfl rfl (Nat.le_of_ble_eq_true rfl) (Nat.le_of_ble_eq_true rfl) (Nat.le_of_ble_eq_true rfl) ⟨(Nat.le_of_ble_eq_true rfl), (Nat.le_of_ble_eq_true rfl)⟩ dL_acts_80 rfl (fun _ => rfl) (fun p_38 h => ?_)
    have h : Ok _ _ := h
    change J X K 10 False QQ 0 0 2064 (jl K p_38.2) 83 [(9, .int x9_1), (0, .ref (K.2.2 + 47)), (1, .ref (K.2.2 + 0)), (2, .ref (K.2.2 + 43)), (3, .int l3_69), (4, .int l4_69), (6, .int l6_69), (7, .int l7_69), (8, .int l8_69)] [.int p_38.1]
    refine J_if_ne (t := 89) C dL_acts_83 (by decide) rfl (fun c_39 => ?_) (fun c_39 => ?_)
    · have h := h.neg c_39
      refine J.sub [1, 2, 4, 5, 6, 7, 8] rfl ?_
      exact hj_89 p_38.2 l3_69 l4_69 l6_69 l7_69 l8_69 h
    · have h := h.pos (Decidable.not_not.mp c_39)
      refine J_ldc (v := -1000009) C ci_RL_192 dL_acts_86 rfl ?_
      rw [← hQQ]
      exact J_iret C hret (Nat.le_of_ble_eq_true rfl) (Nat.le_of_ble_eq_true rfl) ⟨_, h.osome, rfl, rfl, rfl⟩ dL_acts_88
  unfold fL_acts at h
  refine J_aload_n (i := 1) (p := 1) C dL_acts_0 rfl rfl rfl ?_
  refine Jl_cS (α := Int32 × LawS) (rest := []) (st9 := fun p_40 => [.int p_40.1]) C hR hX cs_RL_8 (kL_next hl  (Ok.ofbnd h)) rfl rfl (Nat.le_of_ble_eq_true rfl) (Nat.le_of_ble_eq_true rfl) (Nat.le_of_ble_eq_true rfl) ⟨(Nat.le_of_ble_eq_true rfl), (Nat.le_of_ble_eq_true rfl)⟩ dL_acts_1 rfl (fun _ => rfl) (fun p_40 h => ?_)
  have h : Ok _ _ := h
  change J X K 10 False QQ 0 0 2064 (jl K p_40.2) 4 [(0, .ref (K.2.2 + 47)), (1, .ref (K.2.2 + 0)), (2, .ref (K.2.2 + 43))] [.int p_40.1]
  refine J_bipush (v := 9) C (by decide) dL_acts_4 rfl ?_
  refine J_irem C (by decide) dL_acts_6 rfl ?_
  obtain ⟨x3_2, e_x3_2, h⟩ := Ok.nm h
  refine J_istoreE_n (i := 3) (lv' := [(3, .int x3_2), (0, .ref (K.2.2 + 47)), (1, .ref (K.2.2 + 0)), (2, .ref (K.2.2 + 43))]) C e_x3_2 dL_acts_7 rfl (Nat.le_of_ble_eq_true rfl) rfl rfl ?_
  refine J_aload_n (i := 0) (p := 1) C dL_acts_8 rfl rfl rfl ?_
  refine J_iconst (v := 0) C (by decide) dL_acts_9 rfl ?_
  refine Jl_cV (α := Int32 × Sto) (rest := []) (st9 := fun p_41 => [.int p_41.1]) (wd := fun p_41 => p_41.2) C hR hX cv_RL_134 (k11_count_n hl (Ok.ofnox h) (fun c hc => hc)) rfl rfl (Nat.le_of_ble_eq_true rfl) (Nat.le_of_ble_eq_true rfl) (Nat.le_of_ble_eq_true rfl) ⟨(Nat.le_of_ble_eq_true rfl), (Nat.le_of_ble_eq_true rfl)⟩ dL_acts_10 rfl (fun E n9 w9 hx => hx.elim) (fun _ => rfl) (fun p_41 h => ?_)
  have h : Ok _ _ := h
  change J X K 10 False QQ 0 0 2064 (jl K (p_40.2.1, p_41.2)) 13 [(3, .int x3_2), (0, .ref (K.2.2 + 47)), (1, .ref (K.2.2 + 0)), (2, .ref (K.2.2 + 43))] [.int p_41.1]
  obtain ⟨x4_3, e_x4_3, h⟩ := Ok.nm h
  refine J_istoreE (i := 4) (lv' := [(4, .int x4_3), (3, .int x3_2), (0, .ref (K.2.2 + 47)), (1, .ref (K.2.2 + 0)), (2, .ref (K.2.2 + 43))]) C e_x4_3 dL_acts_13 (Nat.le_of_ble_eq_true rfl) rfl rfl ?_
  refine J_aload_n (i := 0) (p := 2) C dL_acts_15 rfl rfl rfl ?_
  refine J_iconst (v := 1) C (by decide) dL_acts_16 rfl ?_
  refine Jl_cV (α := Int32 × Sto) (rest := []) (st9 := fun p_42 => [.int p_42.1]) (wd := fun p_42 => p_42.2) C hR hX cv_RL_134 (k11_count_n hl (Ok.ofnox h) (fun c hc => hc)) rfl rfl (Nat.le_of_ble_eq_true rfl) (Nat.le_of_ble_eq_true rfl) (Nat.le_of_ble_eq_true rfl) ⟨(Nat.le_of_ble_eq_true rfl), (Nat.le_of_ble_eq_true rfl)⟩ dL_acts_17 rfl (fun E n9 w9 hx => hx.elim) (fun _ => rfl) (fun p_42 h => ?_)
  have h : Ok _ _ := h
  change J X K 10 False QQ 0 0 2064 (jl K (p_40.2.1, p_42.2)) 20 [(4, .int x4_3), (3, .int x3_2), (0, .ref (K.2.2 + 47)), (1, .ref (K.2.2 + 0)), (2, .ref (K.2.2 + 43))] [.int p_42.1]
  obtain ⟨x5_4, e_x5_4, h⟩ := Ok.nm h
  refine J_istoreE (i := 5) (lv' := [(5, .int x5_4), (4, .int x4_3), (3, .int x3_2), (0, .ref (K.2.2 + 47)), (1, .ref (K.2.2 + 0)), (2, .ref (K.2.2 + 43))]) C e_x5_4 dL_acts_20 (Nat.le_of_ble_eq_true rfl) rfl rfl ?_
  refine J_aload_n (i := 1) (p := 4) C dL_acts_22 rfl rfl rfl ?_
  refine Jl_cS (α := Int32 × LawS) (rest := []) (st9 := fun p_43 => [.int p_43.1]) C hR hX cs_RL_8 (kL_next hl  (Ok.ofbnd h)) rfl rfl (Nat.le_of_ble_eq_true rfl) (Nat.le_of_ble_eq_true rfl) (Nat.le_of_ble_eq_true rfl) ⟨(Nat.le_of_ble_eq_true rfl), (Nat.le_of_ble_eq_true rfl)⟩ dL_acts_23 rfl (fun _ => rfl) (fun p_43 h => ?_)
  have h : Ok _ _ := h
  change J X K 10 False QQ 0 0 2064 (jl K p_43.2) 26 [(5, .int x5_4), (4, .int x4_3), (3, .int x3_2), (0, .ref (K.2.2 + 47)), (1, .ref (K.2.2 + 0)), (2, .ref (K.2.2 + 43))] [.int p_43.1]
  refine J_iload (i := 5) (p := 0) C dL_acts_26 rfl rfl ?_
  obtain ⟨g_44, h⟩ := Ok.ofgd h
  refine J_irem C (nz_spec g_44) dL_acts_28 rfl ?_
  obtain ⟨x6_5, e_x6_5, h⟩ := Ok.nm h
  refine J_istoreE (i := 6) (lv' := [(6, .int x6_5), (5, .int x5_4), (4, .int x4_3), (3, .int x3_2), (0, .ref (K.2.2 + 47)), (1, .ref (K.2.2 + 0)), (2, .ref (K.2.2 + 43))]) C e_x6_5 dL_acts_29 (Nat.le_of_ble_eq_true rfl) rfl rfl ?_
  refine J_iload (i := 5) (p := 1) C dL_acts_31 rfl rfl ?_
  refine J_iconst (v := 1) C (by decide) dL_acts_33 rfl ?_
  refine J_isub C dL_acts_34 rfl ?_
  refine J_iload (i := 6) (p := 0) C dL_acts_35 rfl rfl ?_
  refine J_aload_n (i := 1) (p := 5) C dL_acts_37 rfl rfl rfl ?_
  refine Jl_cS (α := Int32 × LawS) (rest := [.int x6_5, .int (x5_4 - (1 : Int32))]) (st9 := fun p_45 => [.int p_45.1, .int x6_5, .int (x5_4 - (1 : Int32))]) C hR hX cs_RL_8 (kL_next hl  (Ok.ofbnd h)) rfl rfl (Nat.le_of_ble_eq_true rfl) (Nat.le_of_ble_eq_true rfl) (Nat.le_of_ble_eq_true rfl) ⟨(Nat.le_of_ble_eq_true rfl), (Nat.le_of_ble_eq_true rfl)⟩ dL_acts_38 rfl (fun _ => rfl) (fun p_45 h => ?_)
  have h : Ok _ _ := h
  change J X K 10 False QQ 0 0 2064 (jl K p_45.2) 41 [(6, .int x6_5), (5, .int x5_4), (4, .int x4_3), (3, .int x3_2), (0, .ref (K.2.2 + 47)), (1, .ref (K.2.2 + 0)), (2, .ref (K.2.2 + 43))] [.int p_45.1, .int x6_5, .int (x5_4 - (1 : Int32))]
  refine J_iconst (v := 4) C (by decide) dL_acts_41 rfl ?_
  refine J_irem C (by decide) dL_acts_42 rfl ?_
  refine J_iadd C dL_acts_43 rfl ?_
  refine J_mmin C hR mm_RL_169 (Nat.le_of_ble_eq_true rfl) (Nat.le_of_ble_eq_true rfl) (Nat.le_of_ble_eq_true rfl) (Nat.le_of_ble_eq_true rfl) dL_acts_44 rfl ?_
  obtain ⟨x7_6, e_x7_6, h⟩ := Ok.nm h
  refine J_istoreE (i := 7) (lv' := [(7, .int x7_6), (6, .int x6_5), (5, .int x5_4), (4, .int x4_3), (3, .int x3_2), (0, .ref (K.2.2 + 47)), (1, .ref (K.2.2 + 0)), (2, .ref (K.2.2 + 43))]) C e_x7_6 dL_acts_47 (Nat.le_of_ble_eq_true rfl) rfl rfl ?_
  refine J_aload_n (i := 1) (p := 6) C dL_acts_49 rfl rfl rfl ?_
  refine Jl_cS (α := Int32 × LawS) (rest := []) (st9 := fun p_46 => [.int p_46.1]) C hR hX cs_RL_8 (kL_next hl  (Ok.ofbnd h)) rfl rfl (Nat.le_of_ble_eq_true rfl) (Nat.le_of_ble_eq_true rfl) (Nat.le_of_ble_eq_true rfl) ⟨(Nat.le_of_ble_eq_true rfl), (Nat.le_of_ble_eq_true rfl)⟩ dL_acts_50 rfl (fun _ => rfl) (fun p_46 h => ?_)
  have h : Ok _ _ := h
  change J X K 10 False QQ 0 0 2064 (jl K p_46.2) 53 [(7, .int x7_6), (6, .int x6_5), (5, .int x5_4), (4, .int x4_3), (3, .int x3_2), (0, .ref (K.2.2 + 47)), (1, .ref (K.2.2 + 0)), (2, .ref (K.2.2 + 43))] [.int p_46.1]
  refine J_iload (i := 4) (p := 3) C dL_acts_53 rfl rfl ?_
  refine J_iconst (v := 1) C (by decide) dL_acts_55 rfl ?_
  refine J_iadd C dL_acts_56 rfl ?_
  obtain ⟨g_47, h⟩ := Ok.ofgd h
  refine J_irem C (nz_spec g_47) dL_acts_57 rfl ?_
  obtain ⟨x8_7, e_x8_7, h⟩ := Ok.nm h
  refine J_istoreE (i := 8) (lv' := [(8, .int x8_7), (7, .int x7_6), (6, .int x6_5), (5, .int x5_4), (4, .int x4_3), (3, .int x3_2), (0, .ref (K.2.2 + 47)), (1, .ref (K.2.2 + 0)), (2, .ref (K.2.2 + 43))]) C e_x8_7 dL_acts_58 (Nat.le_of_ble_eq_true rfl) rfl rfl ?_
  refine J_iload_n (i := 3) (p := 5) C dL_acts_60 rfl rfl rfl ?_
  refine J_if_eq (t := 69) C dL_acts_61 (by decide) rfl (fun c_48 => ?_) (fun c_48 => ?_)
  · have h := h.pos c_48
    refine J.sub [6, 7, 8, 5, 4, 2, 1, 0] rfl ?_
    exact hj_69 p_46.2 x3_2 x4_3 x6_5 x7_6 x8_7 h
  · have h := h.neg c_48
    refine J_iload_n (i := 3) (p := 5) C dL_acts_64 rfl rfl rfl ?_
    refine J_iconst (v := 2) C (by decide) dL_acts_65 rfl ?_
    refine J_icmp_ne (t := 89) C dL_acts_66 (by decide) rfl (fun c_49 => ?_) (fun c_49 => ?_)
    · have h := h.neg c_49
      refine J.sub [6, 7, 5, 4, 2, 1, 0] rfl ?_
      exact hj_89 p_46.2 x3_2 x4_3 x6_5 x7_6 x8_7 h
    · have h := h.pos (Decidable.not_not.mp c_49)
      refine J.sub [6, 7, 8, 5, 4, 2, 1, 0] rfl ?_
      exact hj_69 p_46.2 x3_2 x4_3 x6_5 x7_6 x8_7 h
