set_option maxHeartbeats 4000000 in
set_option maxRecDepth 100000 in
theorem kL_holds {l : Launch} {K : JK} (hl : l.stackTraces = false) {τ : LawS}   {Qf : Int32 × LawS → Prop} (h : Ok (fL_holds τ) Qf) : Con l K yL_holds (.code yL_holds cL_holds 8 (some .boolean) :: TB) 9 0 0 False [.ref (K.2.2 + 47), .ref (K.2.2 + 0), .ref (K.2.2 + 42)] 2064 (jl K τ) (PL Qf (fun p => some (.int p.1)) (fun p => jl K p.2)) PN := by
  refine Con.enter (own := RL) hl (by decide) rfl (Nat.le_of_ble_eq_true rfl) ?_
  intro X hX hR C hret hnt
  generalize hQQ : jQ X K 0 0 (PL Qf (fun p => some (.int p.1)) (fun p => jl K p.2)) PN False = QQ
  change J X K 8 False QQ 0 0 2064 (jl K τ) 0 [(0, .ref (K.2.2 + 47)), (1, .ref (K.2.2 + 0)), (2, .ref (K.2.2 + 42))] []
  have hj_411 : (∀ (τ_411 : LawS) (s0_411 : Int32), Ok (fL_holds_j411 τ_411 s0_411) Qf → J X K 8 False QQ 0 0 2064 (jl K τ_411) 411 [] [.int s0_411]) := by
    intro τ_411 s0_411 h
    unfold fL_holds_j411 at h
    obtain ⟨g_1, h⟩ := Ok.ofgd h
    rw [← hQQ]
    exact J_zret C hret (narB g_1).1 (Nat.le_of_ble_eq_true rfl) (Nat.le_of_ble_eq_true rfl) ⟨_, h.osome, rfl, rfl, rfl⟩ dL_holds_411
  have hj_410 : (∀ (τ_410 : LawS), Ok (fL_holds_j410 τ_410) Qf → J X K 8 False QQ 0 0 2064 (jl K τ_410) 410 [] []) := by
    intro τ_410 h
    unfold fL_holds_j410 at h
    refine J_iconst (v := 0) C (by decide) dL_holds_410 rfl ?_
    exact hj_411 τ_410 (0 : Int32) h
  have hj_370 : (∀ (τ_370 : LawS) (l3_370 : Int32) (l6_370 : Int32), Ok (fL_holds_j370 τ_370 l3_370 l6_370) Qf → J X K 8 False QQ 0 0 2064 (jl K τ_370) 370 [(0, .ref (K.2.2 + 47)), (1, .ref (K.2.2 + 0)), (3, .int l3_370), (6, .int l6_370)] []) := by
    intro τ_370 l3_370 l6_370 h
    unfold fL_holds_j370 at h
    refine J_aload_n (i := 1) (p := 1) C dL_holds_370 rfl rfl rfl ?_
    refine Jl_cS (α := Int32 × LawS) (rest := []) (st9 := fun p_2 => [.int p_2.1]) C hR hX cs_RL_8 (kL_next hl  (Ok.ofbnd h)) rfl rfl (Nat.le_of_ble_eq_true rfl) (Nat.le_of_ble_eq_true rfl) (Nat.le_of_ble_eq_true rfl) ⟨(Nat.le_of_ble_eq_true rfl), (Nat.le_of_ble_eq_true rfl)⟩ dL_holds_371 rfl (fun _ => rfl) (fun p_2 h => ?_)
    have h : Ok _ _ := h
    change J X K 8 False QQ 0 0 2064 (jl K p_2.2) 374 [(0, .ref (K.2.2 + 47)), (1, .ref (K.2.2 + 0)), (3, .int l3_370), (6, .int l6_370)] [.int p_2.1]
    refine J_iload_n (i := 3) (p := 2) C dL_holds_374 rfl rfl rfl ?_
    refine J_iconst (v := 1) C (by decide) dL_holds_375 rfl ?_
    refine J_iadd C dL_holds_376 rfl ?_
    obtain ⟨g_3, h⟩ := Ok.ofgd h
    refine J_irem C (nz_spec g_3) dL_holds_377 rfl ?_
    obtain ⟨x7_1, e_x7_1, h⟩ := Ok.nm h
    refine J_istoreE (i := 7) (lv' := [(7, .int x7_1), (0, .ref (K.2.2 + 47)), (1, .ref (K.2.2 + 0)), (3, .int l3_370), (6, .int l6_370)]) C e_x7_1 dL_holds_378 (Nat.le_of_ble_eq_true rfl) rfl rfl ?_
    refine J_iload (i := 6) (p := 4) C dL_holds_380 rfl rfl ?_
    refine J_if_eq (t := 410) C dL_holds_382 (by decide) rfl (fun c_4 => ?_) (fun c_4 => ?_)
    · have h := h.pos c_4
      refine J.sub [] rfl ?_
      exact hj_410 p_2.2 h
    · have h := h.neg c_4
      refine J_aload_n (i := 0) (p := 1) C dL_holds_385 rfl rfl rfl ?_
      refine J_aload_n (i := 0) (p := 1) C dL_holds_386 rfl rfl rfl ?_
      refine J_iload (i := 7) (p := 0) C dL_holds_387 rfl rfl ?_
      refine Jl_cV (α := Int32 × Sto) (rest := [.ref (K.2.2 + 47)]) (st9 := fun p_5 => [.int p_5.1, .ref (K.2.2 + 47)]) (wd := fun p_5 => p_5.2) C hR hX cv_RL_109 (k11_lineOf_n hl (Ok.ofnox h) (fun c hc => hc)) rfl rfl (Nat.le_of_ble_eq_true rfl) (Nat.le_of_ble_eq_true rfl) (Nat.le_of_ble_eq_true rfl) ⟨(Nat.le_of_ble_eq_true rfl), (Nat.le_of_ble_eq_true rfl)⟩ dL_holds_389 rfl (fun E n9 w9 hx => hx.elim) (fun _ => rfl) (fun p_5 h => ?_)
      have h : Ok _ _ := h
      change J X K 8 False QQ 0 0 2064 (jl K (p_2.2.1, p_5.2)) 392 [(7, .int x7_1), (0, .ref (K.2.2 + 47)), (1, .ref (K.2.2 + 0)), (3, .int l3_370), (6, .int l6_370)] [.int p_5.1, .ref (K.2.2 + 47)]
      refine J_aload_n (i := 0) (p := 1) C dL_holds_392 rfl rfl rfl ?_
      refine J_iload (i := 7) (p := 0) C dL_holds_393 rfl rfl ?_
      refine Jl_cV (α := Int32 × Sto) (rest := [.int p_5.1, .ref (K.2.2 + 47)]) (st9 := fun p_6 => [.int p_6.1, .int p_5.1, .ref (K.2.2 + 47)]) (wd := fun p_6 => p_6.2) C hR hX cv_RL_158 (k11_columnOf_n hl (Ok.ofnox h) (fun c hc => hc)) rfl rfl (Nat.le_of_ble_eq_true rfl) (Nat.le_of_ble_eq_true rfl) (Nat.le_of_ble_eq_true rfl) ⟨(Nat.le_of_ble_eq_true rfl), (Nat.le_of_ble_eq_true rfl)⟩ dL_holds_395 rfl (fun E n9 w9 hx => hx.elim) (fun _ => rfl) (fun p_6 h => ?_)
      have h : Ok _ _ := h
      change J X K 8 False QQ 0 0 2064 (jl K (p_2.2.1, p_6.2)) 398 [(7, .int x7_1), (0, .ref (K.2.2 + 47)), (1, .ref (K.2.2 + 0)), (3, .int l3_370), (6, .int l6_370)] [.int p_6.1, .int p_5.1, .ref (K.2.2 + 47)]
      refine Jl_cV (α := Int32 × Sto) (rest := []) (st9 := fun p_7 => [.int p_7.1]) (wd := fun p_7 => p_7.2) C hR hX cv_RL_155 (k11_placeAt_n hl (Ok.ofnox h) (fun c hc => hc)) rfl rfl (Nat.le_of_ble_eq_true rfl) (Nat.le_of_ble_eq_true rfl) (Nat.le_of_ble_eq_true rfl) ⟨(Nat.le_of_ble_eq_true rfl), (Nat.le_of_ble_eq_true rfl)⟩ dL_holds_398 rfl (fun E n9 w9 hx => hx.elim) (fun _ => rfl) (fun p_7 h => ?_)
      have h : Ok _ _ := h
      change J X K 8 False QQ 0 0 2064 (jl K (p_2.2.1, p_7.2)) 401 [(7, .int x7_1), (0, .ref (K.2.2 + 47)), (1, .ref (K.2.2 + 0)), (3, .int l3_370), (6, .int l6_370)] [.int p_7.1]
      refine J_iload (i := 7) (p := 0) C dL_holds_401 rfl rfl ?_
      refine J_icmp_ne (t := 410) C dL_holds_403 (by decide) rfl (fun c_8 => ?_) (fun c_8 => ?_)
      · have h := h.neg c_8
        refine J.sub [] rfl ?_
        exact hj_410 (p_2.2.1, p_7.2) h
      · have h := h.pos (Decidable.not_not.mp c_8)
        refine J_iconst (v := 1) C (by decide) dL_holds_406 rfl ?_
        refine J_goto (t := 411) C dL_holds_407 (by decide) ?_
        refine J.sub [] rfl ?_
        exact hj_411 (p_2.2.1, p_7.2) (1 : Int32) h
  have hj_323 : (∀ (τ_323 : LawS) (l3_323 : Int32) (l6_323 : Int32) (l7_323 : Int32), Ok (fL_holds_j323 τ_323 l3_323 l6_323 l7_323) Qf → J X K 8 False QQ 0 0 2064 (jl K τ_323) 323 [(0, .ref (K.2.2 + 47)), (1, .ref (K.2.2 + 0)), (2, .ref (K.2.2 + 42)), (3, .int l3_323), (6, .int l6_323), (7, .int l7_323)] []) := by
    intro τ_323 l3_323 l6_323 l7_323 h
    unfold fL_holds_j323 at h
    refine loop_gen (S := Int32 × Int32) (P := fun s_323 => J X K 8 False QQ 0 0 2064 (jl K τ_323) 323 [(0, .ref (K.2.2 + 47)), (1, .ref (K.2.2 + 0)), (2, .ref (K.2.2 + 42)), (3, .int l3_323), (6, .int s_323.1), (7, .int s_323.2)] []) ?_ FU (l6_323, l7_323) (Ok.ofbnd h)
    intro B_323 hB_323 hE_323 s_323 h
    obtain ⟨l6_323, l7_323⟩ := s_323
    have h : Ok (fL_holds_b323 τ_323 l3_323 l6_323 l7_323) B_323 := h
    change J X K 8 False QQ 0 0 2064 (jl K τ_323) 323 [(0, .ref (K.2.2 + 47)), (1, .ref (K.2.2 + 0)), (2, .ref (K.2.2 + 42)), (3, .int l3_323), (6, .int l6_323), (7, .int l7_323)] []
    have hj_362 : (∀ (l7_362 : Int32) (s0_362 : Int32), Ok (fL_holds_j362 τ_323 l3_323 l7_362 s0_362) B_323 → J X K 8 False QQ 0 0 2064 (jl K τ_323) 362 [(0, .ref (K.2.2 + 47)), (1, .ref (K.2.2 + 0)), (2, .ref (K.2.2 + 42)), (3, .int l3_323), (7, .int l7_362)] [.int s0_362]) := by
      intro l7_362 s0_362 h
      unfold fL_holds_j362 at h
      obtain ⟨x6_2, e_x6_2, h⟩ := Ok.nm h
      refine J_istoreE (i := 6) (lv' := [(6, .int x6_2), (0, .ref (K.2.2 + 47)), (1, .ref (K.2.2 + 0)), (2, .ref (K.2.2 + 42)), (3, .int l3_323), (7, .int l7_362)]) C e_x6_2 dL_holds_362 (Nat.le_of_ble_eq_true rfl) rfl rfl ?_
      obtain ⟨x7_3, e_x7_3, h⟩ := Ok.nm h
      refine J_iincE (i := 7) (p := 5) (lv' := [(7, .int x7_3), (6, .int x6_2), (0, .ref (K.2.2 + 47)), (1, .ref (K.2.2 + 0)), (2, .ref (K.2.2 + 42)), (3, .int l3_323)]) C e_x7_3 dL_holds_364 rfl (by decide) (Nat.le_of_ble_eq_true rfl) rfl rfl ?_
      refine J_goto (t := 323) C dL_holds_367 (by decide) ?_
      refine J.sub [2, 3, 4, 5, 1, 0] rfl ?_
      exact hB_323 (x6_2, x7_3) h.osome
    have hj_361 : (∀ (l7_361 : Int32), Ok (fL_holds_j361 τ_323 l3_323 l7_361) B_323 → J X K 8 False QQ 0 0 2064 (jl K τ_323) 361 [(0, .ref (K.2.2 + 47)), (1, .ref (K.2.2 + 0)), (2, .ref (K.2.2 + 42)), (3, .int l3_323), (7, .int l7_361)] []) := by
      intro l7_361 h
      unfold fL_holds_j361 at h
      refine J_iconst (v := 0) C (by decide) dL_holds_361 rfl ?_
      exact hj_362 l7_361 (0 : Int32) h
    unfold fL_holds_b323 at h
    refine J_iload (i := 7) (p := 5) C dL_holds_323 rfl rfl ?_
    refine J_bipush (v := 16) C (by decide) dL_holds_325 rfl ?_
    refine J_icmp_ge (t := 370) C dL_holds_327 (by decide) rfl (fun c_9 => ?_) (fun c_9 => ?_)
    · have h := h.pos c_9
      have h := hE_323 l6_323 h.osome
      try dsimp only at h
      refine J.sub [0, 1, 3, 4] rfl ?_
      exact hj_370 τ_323 l3_323 l6_323 h
    · have h := h.neg c_9
      refine J_iload (i := 6) (p := 4) C dL_holds_330 rfl rfl ?_
      refine J_if_eq (t := 370) C dL_holds_332 (by decide) rfl (fun c_10 => ?_) (fun c_10 => ?_)
      · have h := h.pos c_10
        have h := hE_323 l6_323 h.osome
        try dsimp only at h
        refine J.sub [0, 1, 3, 4] rfl ?_
        exact hj_370 τ_323 l3_323 l6_323 h
      · have h := h.neg c_10
        refine J_aload_n (i := 2) (p := 2) C dL_holds_335 rfl rfl rfl ?_
        refine J_bipush (v := 10) C (by decide) dL_holds_336 rfl ?_
        refine J_iload (i := 7) (p := 5) C dL_holds_338 rfl rfl ?_
        refine J_iadd C dL_holds_340 rfl ?_
        obtain ⟨g_11, h⟩ := Ok.ofgd h
        refine Jl_iald C rfl rfl g_11 dL_holds_341 rfl ?_
        refine J_iconst (v := -1) C (by decide) dL_holds_342 rfl ?_
        refine J_icmp_lt (t := 361) C dL_holds_343 (by decide) rfl (fun c_12 => ?_) (fun c_12 => ?_)
        · have h := h.pos c_12
          refine J.sub [0, 1, 2, 3, 5] rfl ?_
          exact hj_361 l7_323 h
        · have h := h.neg c_12
          refine J_aload_n (i := 2) (p := 2) C dL_holds_346 rfl rfl rfl ?_
          refine J_bipush (v := 10) C (by decide) dL_holds_347 rfl ?_
          refine J_iload (i := 7) (p := 5) C dL_holds_349 rfl rfl ?_
          refine J_iadd C dL_holds_351 rfl ?_
          obtain ⟨g_13, h⟩ := Ok.ofgd h
          refine Jl_iald C rfl rfl g_13 dL_holds_352 rfl ?_
          refine J_iload_n (i := 3) (p := 3) C dL_holds_353 rfl rfl rfl ?_
          refine J_icmp_gt (t := 361) C dL_holds_354 (by decide) rfl (fun c_14 => ?_) (fun c_14 => ?_)
          · have h := h.pos c_14
            refine J.sub [0, 1, 2, 3, 5] rfl ?_
            exact hj_361 l7_323 h
          · have h := h.neg c_14
            refine J_iconst (v := 1) C (by decide) dL_holds_357 rfl ?_
            refine J_goto (t := 362) C dL_holds_358 (by decide) ?_
            refine J.sub [0, 1, 2, 3, 5] rfl ?_
            exact hj_362 l7_323 (1 : Int32) h
  have hj_320 : (∀ (τ_320 : LawS) (l3_320 : Int32) (l6_320 : Int32), Ok (fL_holds_j320 τ_320 l3_320 l6_320) Qf → J X K 8 False QQ 0 0 2064 (jl K τ_320) 320 [(0, .ref (K.2.2 + 47)), (1, .ref (K.2.2 + 0)), (2, .ref (K.2.2 + 42)), (3, .int l3_320), (6, .int l6_320)] []) := by
    intro τ_320 l3_320 l6_320 h
    unfold fL_holds_j320 at h
    refine J_iconst (v := 0) C (by decide) dL_holds_320 rfl ?_
    obtain ⟨x7_4, e_x7_4, h⟩ := Ok.nm h
    refine J_istoreE (i := 7) (lv' := [(7, .int x7_4), (0, .ref (K.2.2 + 47)), (1, .ref (K.2.2 + 0)), (2, .ref (K.2.2 + 42)), (3, .int l3_320), (6, .int l6_320)]) C e_x7_4 dL_holds_321 (Nat.le_of_ble_eq_true rfl) rfl rfl ?_
    refine J.sub [1, 2, 3, 4, 5, 0] rfl ?_
    exact hj_323 τ_320 l3_320 l6_320 x7_4 h
  have hj_237 : (∀ (τ_237 : LawS) (l3_237 : Int32) (l6_237 : Int32) (l7_237 : Int32), Ok (fL_holds_j237 τ_237 l3_237 l6_237 l7_237) Qf → J X K 8 False QQ 0 0 2064 (jl K τ_237) 237 [(0, .ref (K.2.2 + 47)), (1, .ref (K.2.2 + 0)), (2, .ref (K.2.2 + 42)), (3, .int l3_237), (6, .int l6_237), (7, .int l7_237)] []) := by
    intro τ_237 l3_237 l6_237 l7_237 h
    unfold fL_holds_j237 at h
    refine loop_gen (S := LawS × Int32 × Int32) (P := fun s_237 => J X K 8 False QQ 0 0 2064 (jl K s_237.1) 237 [(0, .ref (K.2.2 + 47)), (1, .ref (K.2.2 + 0)), (2, .ref (K.2.2 + 42)), (3, .int l3_237), (6, .int s_237.2.1), (7, .int s_237.2.2)] []) ?_ FU (τ_237, l6_237, l7_237) (Ok.ofbnd h)
    intro B_237 hB_237 hE_237 s_237 h
    obtain ⟨τ_237, l6_237, l7_237⟩ := s_237
    have h : Ok (fL_holds_b237 τ_237 l3_237 l6_237 l7_237) B_237 := h
    change J X K 8 False QQ 0 0 2064 (jl K τ_237) 237 [(0, .ref (K.2.2 + 47)), (1, .ref (K.2.2 + 0)), (2, .ref (K.2.2 + 42)), (3, .int l3_237), (6, .int l6_237), (7, .int l7_237)] []
    have hj_312 : (∀ (τ_312 : LawS) (l7_312 : Int32) (s0_312 : Int32), Ok (fL_holds_j312 l3_237 τ_312 l7_312 s0_312) B_237 → J X K 8 False QQ 0 0 2064 (jl K τ_312) 312 [(0, .ref (K.2.2 + 47)), (1, .ref (K.2.2 + 0)), (2, .ref (K.2.2 + 42)), (3, .int l3_237), (7, .int l7_312)] [.int s0_312]) := by
      intro τ_312 l7_312 s0_312 h
      unfold fL_holds_j312 at h
      obtain ⟨x6_5, e_x6_5, h⟩ := Ok.nm h
      refine J_istoreE (i := 6) (lv' := [(6, .int x6_5), (0, .ref (K.2.2 + 47)), (1, .ref (K.2.2 + 0)), (2, .ref (K.2.2 + 42)), (3, .int l3_237), (7, .int l7_312)]) C e_x6_5 dL_holds_312 (Nat.le_of_ble_eq_true rfl) rfl rfl ?_
      obtain ⟨x7_6, e_x7_6, h⟩ := Ok.nm h
      refine J_iincE (i := 7) (p := 5) (lv' := [(7, .int x7_6), (6, .int x6_5), (0, .ref (K.2.2 + 47)), (1, .ref (K.2.2 + 0)), (2, .ref (K.2.2 + 42)), (3, .int l3_237)]) C e_x7_6 dL_holds_314 rfl (by decide) (Nat.le_of_ble_eq_true rfl) rfl rfl ?_
      refine J_goto (t := 237) C dL_holds_317 (by decide) ?_
      refine J.sub [2, 3, 4, 5, 1, 0] rfl ?_
      exact hB_237 (τ_312, x6_5, x7_6) h.osome
    have hj_311 : (∀ (τ_311 : LawS) (l7_311 : Int32), Ok (fL_holds_j311 l3_237 τ_311 l7_311) B_237 → J X K 8 False QQ 0 0 2064 (jl K τ_311) 311 [(0, .ref (K.2.2 + 47)), (1, .ref (K.2.2 + 0)), (2, .ref (K.2.2 + 42)), (3, .int l3_237), (7, .int l7_311)] []) := by
      intro τ_311 l7_311 h
      unfold fL_holds_j311 at h
      refine J_iconst (v := 0) C (by decide) dL_holds_311 rfl ?_
      exact hj_312 τ_311 l7_311 (0 : Int32) h
    have hj_289 : (∀ (τ_289 : LawS) (l7_289 : Int32), Ok (fL_holds_j289 l3_237 τ_289 l7_289) B_237 → J X K 8 False QQ 0 0 2064 (jl K τ_289) 289 [(0, .ref (K.2.2 + 47)), (1, .ref (K.2.2 + 0)), (2, .ref (K.2.2 + 42)), (3, .int l3_237), (7, .int l7_289)] []) := by
      intro τ_289 l7_289 h
      unfold fL_holds_j289 at h
      refine J_aload_n (i := 2) (p := 2) C dL_holds_289 rfl rfl rfl ?_
      refine J_bipush (v := 30) C (by decide) dL_holds_290 rfl ?_
      refine J_aload_n (i := 0) (p := 0) C dL_holds_292 rfl rfl rfl ?_
      refine J_aload_n (i := 2) (p := 2) C dL_holds_293 rfl rfl rfl ?_
      refine J_iconst (v := 2) C (by decide) dL_holds_294 rfl ?_
      refine J_iload (i := 7) (p := 4) C dL_holds_295 rfl rfl ?_
      refine J_iadd C dL_holds_297 rfl ?_
      obtain ⟨g_15, h⟩ := Ok.ofgd h
      refine Jl_iald C rfl rfl g_15 dL_holds_298 rfl ?_
      refine Jl_cV (α := Int32 × Sto) (rest := [.int (30 : Int32), .ref (K.2.2 + 42)]) (st9 := fun p_16 => [.int p_16.1, .int (30 : Int32), .ref (K.2.2 + 42)]) (wd := fun p_16 => p_16.2) C hR hX cv_RL_109 (k11_lineOf_n hl (Ok.ofnox h) (fun c hc => hc)) rfl rfl (Nat.le_of_ble_eq_true rfl) (Nat.le_of_ble_eq_true rfl) (Nat.le_of_ble_eq_true rfl) ⟨(Nat.le_of_ble_eq_true rfl), (Nat.le_of_ble_eq_true rfl)⟩ dL_holds_299 rfl (fun E n9 w9 hx => hx.elim) (fun _ => rfl) (fun p_16 h => ?_)
      have h : Ok _ _ := h
      change J X K 8 False QQ 0 0 2064 (jl K (τ_289.1, p_16.2)) 302 [(0, .ref (K.2.2 + 47)), (1, .ref (K.2.2 + 0)), (2, .ref (K.2.2 + 42)), (3, .int l3_237), (7, .int l7_289)] [.int p_16.1, .int (30 : Int32), .ref (K.2.2 + 42)]
      refine J_iadd C dL_holds_302 rfl ?_
      obtain ⟨g_17, h⟩ := Ok.ofgd h
      refine Jl_iald C rfl rfl g_17 dL_holds_303 rfl ?_
      refine J_if_ne (t := 311) C dL_holds_304 (by decide) rfl (fun c_18 => ?_) (fun c_18 => ?_)
      · have h := h.neg c_18
        exact hj_311 (τ_289.1, p_16.2) l7_289 h
      · have h := h.pos (Decidable.not_not.mp c_18)
        refine J_iconst (v := 1) C (by decide) dL_holds_307 rfl ?_
        refine J_goto (t := 312) C dL_holds_308 (by decide) ?_
        exact hj_312 (τ_289.1, p_16.2) l7_289 (1 : Int32) h
    unfold fL_holds_b237 at h
    refine J_iload (i := 7) (p := 5) C dL_holds_237 rfl rfl ?_
    refine J_aload_n (i := 2) (p := 2) C dL_holds_239 rfl rfl rfl ?_
    refine J_iconst (v := 1) C (by decide) dL_holds_240 rfl ?_
    obtain ⟨g_19, h⟩ := Ok.ofgd h
    refine Jl_iald C rfl rfl g_19 dL_holds_241 rfl ?_
    refine J_icmp_ge (t := 320) C dL_holds_242 (by decide) rfl (fun c_20 => ?_) (fun c_20 => ?_)
    · have h := h.pos c_20
      have h := hE_237 (τ_237, l6_237) h.osome
      try dsimp only at h
      refine J.sub [0, 1, 2, 3, 4] rfl ?_
      exact hj_320 τ_237 l3_237 l6_237 h
    · have h := h.neg c_20
      refine J_iload (i := 6) (p := 4) C dL_holds_245 rfl rfl ?_
      refine J_if_eq (t := 320) C dL_holds_247 (by decide) rfl (fun c_21 => ?_) (fun c_21 => ?_)
      · have h := h.pos c_21
        have h := hE_237 (τ_237, l6_237) h.osome
        try dsimp only at h
        refine J.sub [0, 1, 2, 3, 4] rfl ?_
        exact hj_320 τ_237 l3_237 l6_237 h
      · have h := h.neg c_21
        refine J_aload_n (i := 2) (p := 2) C dL_holds_250 rfl rfl rfl ?_
        refine J_iconst (v := 2) C (by decide) dL_holds_251 rfl ?_
        refine J_iload (i := 7) (p := 5) C dL_holds_252 rfl rfl ?_
        refine J_iadd C dL_holds_254 rfl ?_
        obtain ⟨g_22, h⟩ := Ok.ofgd h
        refine Jl_iald C rfl rfl g_22 dL_holds_255 rfl ?_
        refine J_if_lt (t := 311) C dL_holds_256 (by decide) rfl (fun c_23 => ?_) (fun c_23 => ?_)
        · have h := h.pos c_23
          refine J.sub [0, 1, 2, 3, 5] rfl ?_
          exact hj_311 τ_237 l7_237 h
        · have h := h.neg c_23
          refine J_aload_n (i := 2) (p := 2) C dL_holds_259 rfl rfl rfl ?_
          refine J_iconst (v := 2) C (by decide) dL_holds_260 rfl ?_
          refine J_iload (i := 7) (p := 5) C dL_holds_261 rfl rfl ?_
          refine J_iadd C dL_holds_263 rfl ?_
          obtain ⟨g_24, h⟩ := Ok.ofgd h
          refine Jl_iald C rfl rfl g_24 dL_holds_264 rfl ?_
          refine J_iload_n (i := 3) (p := 3) C dL_holds_265 rfl rfl rfl ?_
          refine J_icmp_gt (t := 311) C dL_holds_266 (by decide) rfl (fun c_25 => ?_) (fun c_25 => ?_)
          · have h := h.pos c_25
            refine J.sub [0, 1, 2, 3, 5] rfl ?_
            exact hj_311 τ_237 l7_237 h
          · have h := h.neg c_25
            refine J_iload (i := 7) (p := 5) C dL_holds_269 rfl rfl ?_
            refine J_if_eq (t := 289) C dL_holds_271 (by decide) rfl (fun c_26 => ?_) (fun c_26 => ?_)
            · have h := h.pos c_26
              refine J.sub [0, 1, 2, 3, 5] rfl ?_
              exact hj_289 τ_237 l7_237 h
            · have h := h.neg c_26
              refine J_aload_n (i := 2) (p := 2) C dL_holds_274 rfl rfl rfl ?_
              refine J_iconst (v := 2) C (by decide) dL_holds_275 rfl ?_
              refine J_iload (i := 7) (p := 5) C dL_holds_276 rfl rfl ?_
              refine J_iadd C dL_holds_278 rfl ?_
              obtain ⟨g_27, h⟩ := Ok.ofgd h
              refine Jl_iald C rfl rfl g_27 dL_holds_279 rfl ?_
              refine J_aload_n (i := 2) (p := 2) C dL_holds_280 rfl rfl rfl ?_
              refine J_iconst (v := 1) C (by decide) dL_holds_281 rfl ?_
              refine J_iload (i := 7) (p := 5) C dL_holds_282 rfl rfl ?_
              refine J_iadd C dL_holds_284 rfl ?_
              obtain ⟨g_28, h⟩ := Ok.ofgd h
              refine Jl_iald C rfl rfl g_28 dL_holds_285 rfl ?_
              refine J_icmp_le (t := 311) C dL_holds_286 (by decide) rfl (fun c_29 => ?_) (fun c_29 => ?_)
              · have h := h.pos c_29
                refine J.sub [0, 1, 2, 3, 5] rfl ?_
                exact hj_311 τ_237 l7_237 h
              · have h := h.neg c_29
                refine J.sub [0, 1, 2, 3, 5] rfl ?_
                exact hj_289 τ_237 l7_237 h
  have hj_232 : (∀ (τ_232 : LawS) (l3_232 : Int32) (s0_232 : Int32), Ok (fL_holds_j232 τ_232 l3_232 s0_232) Qf → J X K 8 False QQ 0 0 2064 (jl K τ_232) 232 [(0, .ref (K.2.2 + 47)), (1, .ref (K.2.2 + 0)), (2, .ref (K.2.2 + 42)), (3, .int l3_232)] [.int s0_232]) := by
    intro τ_232 l3_232 s0_232 h
    unfold fL_holds_j232 at h
    obtain ⟨x6_7, e_x6_7, h⟩ := Ok.nm h
    refine J_istoreE (i := 6) (lv' := [(6, .int x6_7), (0, .ref (K.2.2 + 47)), (1, .ref (K.2.2 + 0)), (2, .ref (K.2.2 + 42)), (3, .int l3_232)]) C e_x6_7 dL_holds_232 (Nat.le_of_ble_eq_true rfl) rfl rfl ?_
    refine J_iconst (v := 0) C (by decide) dL_holds_234 rfl ?_
    obtain ⟨x7_8, e_x7_8, h⟩ := Ok.nm h
    refine J_istoreE (i := 7) (lv' := [(7, .int x7_8), (6, .int x6_7), (0, .ref (K.2.2 + 47)), (1, .ref (K.2.2 + 0)), (2, .ref (K.2.2 + 42)), (3, .int l3_232)]) C e_x7_8 dL_holds_235 (Nat.le_of_ble_eq_true rfl) rfl rfl ?_
    refine J.sub [2, 3, 4, 5, 1, 0] rfl ?_
    exact hj_237 τ_232 l3_232 x6_7 x7_8 h
  have hj_231 : (∀ (τ_231 : LawS) (l3_231 : Int32), Ok (fL_holds_j231 τ_231 l3_231) Qf → J X K 8 False QQ 0 0 2064 (jl K τ_231) 231 [(0, .ref (K.2.2 + 47)), (1, .ref (K.2.2 + 0)), (2, .ref (K.2.2 + 42)), (3, .int l3_231)] []) := by
    intro τ_231 l3_231 h
    unfold fL_holds_j231 at h
    refine J_iconst (v := 0) C (by decide) dL_holds_231 rfl ?_
    exact hj_232 τ_231 l3_231 (0 : Int32) h
  have hj_185 : (∀ (τ_185 : LawS) (l3_185 : Int32) (l5_185 : Int32) (l6_185 : Int32) (l7_185 : Int32), Ok (fL_holds_j185 τ_185 l3_185 l5_185 l6_185 l7_185) Qf → J X K 8 False QQ 0 0 2064 (jl K τ_185) 185 [(0, .ref (K.2.2 + 47)), (1, .ref (K.2.2 + 0)), (2, .ref (K.2.2 + 42)), (3, .int l3_185), (5, .int l5_185), (6, .int l6_185), (7, .int l7_185)] []) := by
    intro τ_185 l3_185 l5_185 l6_185 l7_185 h
    unfold fL_holds_j185 at h
    refine loop_gen (S := Int32 × Int32) (P := fun s_185 => J X K 8 False QQ 0 0 2064 (jl K τ_185) 185 [(0, .ref (K.2.2 + 47)), (1, .ref (K.2.2 + 0)), (2, .ref (K.2.2 + 42)), (3, .int l3_185), (5, .int s_185.1), (6, .int l6_185), (7, .int s_185.2)] []) ?_ FU (l5_185, l7_185) (Ok.ofbnd h)
    intro B_185 hB_185 hE_185 s_185 h
    obtain ⟨l5_185, l7_185⟩ := s_185
    have h : Ok (fL_holds_b185 τ_185 l3_185 l5_185 l6_185 l7_185) B_185 := h
    change J X K 8 False QQ 0 0 2064 (jl K τ_185) 185 [(0, .ref (K.2.2 + 47)), (1, .ref (K.2.2 + 0)), (2, .ref (K.2.2 + 42)), (3, .int l3_185), (5, .int l5_185), (6, .int l6_185), (7, .int l7_185)] []
    unfold fL_holds_b185 at h
    refine J_iload (i := 7) (p := 6) C dL_holds_185 rfl rfl ?_
    refine J_aload_n (i := 2) (p := 2) C dL_holds_187 rfl rfl rfl ?_
    refine J_bipush (v := 26) C (by decide) dL_holds_188 rfl ?_
    obtain ⟨g_30, h⟩ := Ok.ofgd h
    refine Jl_iald C rfl rfl g_30 dL_holds_190 rfl ?_
    refine J_icmp_ge (t := 212) C dL_holds_191 (by decide) rfl (fun c_31 => ?_) (fun c_31 => ?_)
    · have h := h.pos c_31
      have h := hE_185 l5_185 h.osome
      try dsimp only at h
      refine J_iload (i := 6) (p := 5) C dL_holds_212 rfl rfl ?_
      refine J_if_eq (t := 231) C dL_holds_214 (by decide) rfl (fun c_32 => ?_) (fun c_32 => ?_)
      · have h := h.pos c_32
        refine J.sub [0, 1, 2, 3] rfl ?_
        exact hj_231 τ_185 l3_185 h
      · have h := h.neg c_32
        refine J_aload_n (i := 0) (p := 0) C dL_holds_217 rfl rfl rfl ?_
        refine J_iconst (v := 4) C (by decide) dL_holds_218 rfl ?_
        refine Jl_cV (α := Int32 × Sto) (rest := []) (st9 := fun p_33 => [.int p_33.1]) (wd := fun p_33 => p_33.2) C hR hX cv_RL_134 (k11_count_n hl (Ok.ofnox h) (fun c hc => hc)) rfl rfl (Nat.le_of_ble_eq_true rfl) (Nat.le_of_ble_eq_true rfl) (Nat.le_of_ble_eq_true rfl) ⟨(Nat.le_of_ble_eq_true rfl), (Nat.le_of_ble_eq_true rfl)⟩ dL_holds_219 rfl (fun E n9 w9 hx => hx.elim) (fun _ => rfl) (fun p_33 h => ?_)
        have h : Ok _ _ := h
        change J X K 8 False QQ 0 0 2064 (jl K (τ_185.1, p_33.2)) 222 [(0, .ref (K.2.2 + 47)), (1, .ref (K.2.2 + 0)), (2, .ref (K.2.2 + 42)), (3, .int l3_185), (5, .int l5_185), (6, .int l6_185), (7, .int l7_185)] [.int p_33.1]
        refine J_iload (i := 5) (p := 4) C dL_holds_222 rfl rfl ?_
        refine J_icmp_ne (t := 231) C dL_holds_224 (by decide) rfl (fun c_34 => ?_) (fun c_34 => ?_)
        · have h := h.neg c_34
          refine J.sub [0, 1, 2, 3] rfl ?_
          exact hj_231 (τ_185.1, p_33.2) l3_185 h
        · have h := h.pos (Decidable.not_not.mp c_34)
          refine J_iconst (v := 1) C (by decide) dL_holds_227 rfl ?_
          refine J_goto (t := 232) C dL_holds_228 (by decide) ?_
          refine J.sub [0, 1, 2, 3] rfl ?_
          exact hj_232 (τ_185.1, p_33.2) l3_185 (1 : Int32) h
    · have h := h.neg c_31
      refine J_iload (i := 5) (p := 4) C dL_holds_194 rfl rfl ?_
      refine J_aload_n (i := 2) (p := 2) C dL_holds_196 rfl rfl rfl ?_
      refine J_bipush (v := 30) C (by decide) dL_holds_197 rfl ?_
      refine J_iload (i := 7) (p := 6) C dL_holds_199 rfl rfl ?_
      refine J_iadd C dL_holds_201 rfl ?_
      obtain ⟨g_35, h⟩ := Ok.ofgd h
      refine Jl_iald C rfl rfl g_35 dL_holds_202 rfl ?_
      refine J_iadd C dL_holds_203 rfl ?_
      obtain ⟨x5_9, e_x5_9, h⟩ := Ok.nm h
      refine J_istoreE (i := 5) (lv' := [(5, .int x5_9), (0, .ref (K.2.2 + 47)), (1, .ref (K.2.2 + 0)), (2, .ref (K.2.2 + 42)), (3, .int l3_185), (6, .int l6_185), (7, .int l7_185)]) C e_x5_9 dL_holds_204 (Nat.le_of_ble_eq_true rfl) rfl rfl ?_
      obtain ⟨x7_10, e_x7_10, h⟩ := Ok.nm h
      refine J_iincE (i := 7) (p := 6) (lv' := [(7, .int x7_10), (5, .int x5_9), (0, .ref (K.2.2 + 47)), (1, .ref (K.2.2 + 0)), (2, .ref (K.2.2 + 42)), (3, .int l3_185), (6, .int l6_185)]) C e_x7_10 dL_holds_206 rfl (by decide) (Nat.le_of_ble_eq_true rfl) rfl rfl ?_
      refine J_goto (t := 185) C dL_holds_209 (by decide) ?_
      refine J.sub [2, 3, 4, 5, 1, 6, 0] rfl ?_
      exact hB_185 (x5_9, x7_10) h.osome
  have hj_180 : (∀ (τ_180 : LawS) (l3_180 : Int32) (l5_180 : Int32) (s0_180 : Int32), Ok (fL_holds_j180 τ_180 l3_180 l5_180 s0_180) Qf → J X K 8 False QQ 0 0 2064 (jl K τ_180) 180 [(0, .ref (K.2.2 + 47)), (1, .ref (K.2.2 + 0)), (2, .ref (K.2.2 + 42)), (3, .int l3_180), (5, .int l5_180)] [.int s0_180]) := by
    intro τ_180 l3_180 l5_180 s0_180 h
    unfold fL_holds_j180 at h
    obtain ⟨x6_11, e_x6_11, h⟩ := Ok.nm h
    refine J_istoreE (i := 6) (lv' := [(6, .int x6_11), (0, .ref (K.2.2 + 47)), (1, .ref (K.2.2 + 0)), (2, .ref (K.2.2 + 42)), (3, .int l3_180), (5, .int l5_180)]) C e_x6_11 dL_holds_180 (Nat.le_of_ble_eq_true rfl) rfl rfl ?_
    refine J_iconst (v := 0) C (by decide) dL_holds_182 rfl ?_
    obtain ⟨x7_12, e_x7_12, h⟩ := Ok.nm h
    refine J_istoreE (i := 7) (lv' := [(7, .int x7_12), (6, .int x6_11), (0, .ref (K.2.2 + 47)), (1, .ref (K.2.2 + 0)), (2, .ref (K.2.2 + 42)), (3, .int l3_180), (5, .int l5_180)]) C e_x7_12 dL_holds_183 (Nat.le_of_ble_eq_true rfl) rfl rfl ?_
    refine J.sub [2, 3, 4, 5, 6, 1, 0] rfl ?_
    exact hj_185 τ_180 l3_180 l5_180 x6_11 x7_12 h
  have hj_179 : (∀ (τ_179 : LawS) (l3_179 : Int32) (l5_179 : Int32), Ok (fL_holds_j179 τ_179 l3_179 l5_179) Qf → J X K 8 False QQ 0 0 2064 (jl K τ_179) 179 [(0, .ref (K.2.2 + 47)), (1, .ref (K.2.2 + 0)), (2, .ref (K.2.2 + 42)), (3, .int l3_179), (5, .int l5_179)] []) := by
    intro τ_179 l3_179 l5_179 h
    unfold fL_holds_j179 at h
    refine J_iconst (v := 0) C (by decide) dL_holds_179 rfl ?_
    exact hj_180 τ_179 l3_179 l5_179 (0 : Int32) h
  have hj_159 : (∀ (τ_159 : LawS) (l3_159 : Int32) (l4_159 : Int32) (l5_159 : Int32) (l6_159 : Int32), Ok (fL_holds_j159 τ_159 l3_159 l4_159 l5_159 l6_159) Qf → J X K 8 False QQ 0 0 2064 (jl K τ_159) 159 [(0, .ref (K.2.2 + 47)), (1, .ref (K.2.2 + 0)), (2, .ref (K.2.2 + 42)), (3, .int l3_159), (4, .int l4_159), (5, .int l5_159), (6, .int l6_159)] []) := by
    intro τ_159 l3_159 l4_159 l5_159 l6_159 h
    unfold fL_holds_j159 at h
    refine J_iload (i := 6) (p := 6) C dL_holds_159 rfl rfl ?_
    refine J_if_eq (t := 179) C dL_holds_161 (by decide) rfl (fun c_39 => ?_) (fun c_39 => ?_)
    · have h := h.pos c_39
      refine J.sub [0, 1, 2, 3, 5] rfl ?_
      exact hj_179 τ_159 l3_159 l5_159 h
    · have h := h.neg c_39
      refine J_iload (i := 4) (p := 4) C dL_holds_164 rfl rfl ?_
      refine J_iconst (v := 1) C (by decide) dL_holds_166 rfl ?_
      refine J_iadd C dL_holds_167 rfl ?_
      refine J_aload_n (i := 2) (p := 2) C dL_holds_168 rfl rfl rfl ?_
      refine J_bipush (v := 26) C (by decide) dL_holds_169 rfl ?_
      obtain ⟨g_40, h⟩ := Ok.ofgd h
      refine Jl_iald C rfl rfl g_40 dL_holds_171 rfl ?_
      refine J_icmp_ne (t := 179) C dL_holds_172 (by decide) rfl (fun c_41 => ?_) (fun c_41 => ?_)
      · have h := h.neg c_41
        refine J.sub [0, 1, 2, 3, 5] rfl ?_
        exact hj_179 τ_159 l3_159 l5_159 h
      · have h := h.pos (Decidable.not_not.mp c_41)
        refine J_iconst (v := 1) C (by decide) dL_holds_175 rfl ?_
        refine J_goto (t := 180) C dL_holds_176 (by decide) ?_
        refine J.sub [0, 1, 2, 3, 5] rfl ?_
        exact hj_180 τ_159 l3_159 l5_159 (1 : Int32) h
  have hj_55 : (∀ (τ_55 : LawS) (l3_55 : Int32) (l4_55 : Int32) (l5_55 : Int32) (l6_55 : Int32) (l7_55 : Int32), Ok (fL_holds_j55 τ_55 l3_55 l4_55 l5_55 l6_55 l7_55) Qf → J X K 8 False QQ 0 0 2064 (jl K τ_55) 55 [(0, .ref (K.2.2 + 47)), (1, .ref (K.2.2 + 0)), (2, .ref (K.2.2 + 42)), (3, .int l3_55), (4, .int l4_55), (5, .int l5_55), (6, .int l6_55), (7, .int l7_55)] []) := by
    intro τ_55 l3_55 l4_55 l5_55 l6_55 l7_55 h
    unfold fL_holds_j55 at h
    refine loop_gen (S := LawS × Int32 × Int32 × Int32) (P := fun s_55 => J X K 8 False QQ 0 0 2064 (jl K s_55.1) 55 [(0, .ref (K.2.2 + 47)), (1, .ref (K.2.2 + 0)), (2, .ref (K.2.2 + 42)), (3, .int l3_55), (4, .int s_55.2.1), (5, .int l5_55), (6, .int s_55.2.2.1), (7, .int s_55.2.2.2)] []) ?_ FU (τ_55, l4_55, l6_55, l7_55) (Ok.ofbnd h)
    intro B_55 hB_55 hE_55 s_55 h
    obtain ⟨τ_55, l4_55, l6_55, l7_55⟩ := s_55
    have h : Ok (fL_holds_b55 τ_55 l3_55 l4_55 l5_55 l6_55 l7_55) B_55 := h
    change J X K 8 False QQ 0 0 2064 (jl K τ_55) 55 [(0, .ref (K.2.2 + 47)), (1, .ref (K.2.2 + 0)), (2, .ref (K.2.2 + 42)), (3, .int l3_55), (4, .int l4_55), (5, .int l5_55), (6, .int l6_55), (7, .int l7_55)] []
    have hj_150 : (∀ (τ_150 : LawS) (l6_150 : Int32) (l7_150 : Int32) (s0_150 : Int32) (s1_150 : Int32), Ok (fL_holds_j150 l3_55 l5_55 τ_150 l6_150 l7_150 s0_150 s1_150) B_55 → J X K 8 False QQ 0 0 2064 (jl K τ_150) 150 [(0, .ref (K.2.2 + 47)), (1, .ref (K.2.2 + 0)), (2, .ref (K.2.2 + 42)), (3, .int l3_55), (5, .int l5_55), (6, .int l6_150), (7, .int l7_150)] [.int s1_150, .int s0_150]) := by
      intro τ_150 l6_150 l7_150 s0_150 s1_150 h
      unfold fL_holds_j150 at h
      refine J_iadd C dL_holds_150 rfl ?_
      obtain ⟨x4_13, e_x4_13, h⟩ := Ok.nm h
      refine J_istoreE (i := 4) (lv' := [(4, .int x4_13), (0, .ref (K.2.2 + 47)), (1, .ref (K.2.2 + 0)), (2, .ref (K.2.2 + 42)), (3, .int l3_55), (5, .int l5_55), (6, .int l6_150), (7, .int l7_150)]) C e_x4_13 dL_holds_151 (Nat.le_of_ble_eq_true rfl) rfl rfl ?_
      obtain ⟨x7_14, e_x7_14, h⟩ := Ok.nm h
      refine J_iincE (i := 7) (p := 7) (lv' := [(7, .int x7_14), (4, .int x4_13), (0, .ref (K.2.2 + 47)), (1, .ref (K.2.2 + 0)), (2, .ref (K.2.2 + 42)), (3, .int l3_55), (5, .int l5_55), (6, .int l6_150)]) C e_x7_14 dL_holds_153 rfl (by decide) (Nat.le_of_ble_eq_true rfl) rfl rfl ?_
      refine J_goto (t := 55) C dL_holds_156 (by decide) ?_
      refine J.sub [2, 3, 4, 5, 1, 6, 7, 0] rfl ?_
      exact hB_55 (τ_150, x4_13, l6_150, x7_14) h.osome
    have hj_149 : (∀ (τ_149 : LawS) (l6_149 : Int32) (l7_149 : Int32) (s0_149 : Int32), Ok (fL_holds_j149 l3_55 l5_55 τ_149 l6_149 l7_149 s0_149) B_55 → J X K 8 False QQ 0 0 2064 (jl K τ_149) 149 [(0, .ref (K.2.2 + 47)), (1, .ref (K.2.2 + 0)), (2, .ref (K.2.2 + 42)), (3, .int l3_55), (5, .int l5_55), (6, .int l6_149), (7, .int l7_149)] [.int s0_149]) := by
      intro τ_149 l6_149 l7_149 s0_149 h
      unfold fL_holds_j149 at h
      refine J_iconst (v := 0) C (by decide) dL_holds_149 rfl ?_
      exact hj_150 τ_149 l6_149 l7_149 s0_149 (0 : Int32) h
    have hj_122 : (∀ (τ_122 : LawS) (l4_122 : Int32) (l7_122 : Int32) (s0_122 : Int32), Ok (fL_holds_j122 l3_55 l5_55 τ_122 l4_122 l7_122 s0_122) B_55 → J X K 8 False QQ 0 0 2064 (jl K τ_122) 122 [(0, .ref (K.2.2 + 47)), (1, .ref (K.2.2 + 0)), (2, .ref (K.2.2 + 42)), (3, .int l3_55), (4, .int l4_122), (5, .int l5_55), (7, .int l7_122)] [.int s0_122]) := by
      intro τ_122 l4_122 l7_122 s0_122 h
      unfold fL_holds_j122 at h
      obtain ⟨x6_15, e_x6_15, h⟩ := Ok.nm h
      refine J_istoreE (i := 6) (lv' := [(6, .int x6_15), (0, .ref (K.2.2 + 47)), (1, .ref (K.2.2 + 0)), (2, .ref (K.2.2 + 42)), (3, .int l3_55), (4, .int l4_122), (5, .int l5_55), (7, .int l7_122)]) C e_x6_15 dL_holds_122 (Nat.le_of_ble_eq_true rfl) rfl rfl ?_
      refine J_iload (i := 4) (p := 5) C dL_holds_124 rfl rfl ?_
      refine J_iload (i := 7) (p := 7) C dL_holds_126 rfl rfl ?_
      refine J_iload_n (i := 3) (p := 4) C dL_holds_128 rfl rfl rfl ?_
      refine J_icmp_ge (t := 149) C dL_holds_129 (by decide) rfl (fun c_42 => ?_) (fun c_42 => ?_)
      · have h := h.pos c_42
        refine J.sub [1, 2, 3, 4, 6, 0, 7] rfl ?_
        exact hj_149 τ_122 x6_15 l7_122 l4_122 h
      · have h := h.neg c_42
        refine J_aload_n (i := 2) (p := 3) C dL_holds_132 rfl rfl rfl ?_
        refine J_sipush (v := 400) C (by decide) dL_holds_133 rfl ?_
        refine J_iload (i := 7) (p := 7) C dL_holds_136 rfl rfl ?_
        refine J_iadd C dL_holds_138 rfl ?_
        obtain ⟨g_43, h⟩ := Ok.ofgd h
        refine Jl_iald C rfl rfl g_43 dL_holds_139 rfl ?_
        refine J_bipush (v := 10) C (by decide) dL_holds_140 rfl ?_
        refine J_icmp_ne (t := 149) C dL_holds_142 (by decide) rfl (fun c_44 => ?_) (fun c_44 => ?_)
        · have h := h.neg c_44
          refine J.sub [1, 2, 3, 4, 6, 0, 7] rfl ?_
          exact hj_149 τ_122 x6_15 l7_122 l4_122 h
        · have h := h.pos (Decidable.not_not.mp c_44)
          refine J_iconst (v := 1) C (by decide) dL_holds_145 rfl ?_
          refine J_goto (t := 150) C dL_holds_146 (by decide) ?_
          refine J.sub [1, 2, 3, 4, 6, 0, 7] rfl ?_
          exact hj_150 τ_122 x6_15 l7_122 l4_122 (1 : Int32) h
    have hj_121 : (∀ (τ_121 : LawS) (l4_121 : Int32) (l7_121 : Int32), Ok (fL_holds_j121 l3_55 l5_55 τ_121 l4_121 l7_121) B_55 → J X K 8 False QQ 0 0 2064 (jl K τ_121) 121 [(0, .ref (K.2.2 + 47)), (1, .ref (K.2.2 + 0)), (2, .ref (K.2.2 + 42)), (3, .int l3_55), (4, .int l4_121), (5, .int l5_55), (7, .int l7_121)] []) := by
      intro τ_121 l4_121 l7_121 h
      unfold fL_holds_j121 at h
      refine J_iconst (v := 0) C (by decide) dL_holds_121 rfl ?_
      exact hj_122 τ_121 l4_121 l7_121 (0 : Int32) h
    have hj_117 : (∀ (τ_117 : LawS) (l4_117 : Int32) (l7_117 : Int32), Ok (fL_holds_j117 l3_55 l5_55 τ_117 l4_117 l7_117) B_55 → J X K 8 False QQ 0 0 2064 (jl K τ_117) 117 [(0, .ref (K.2.2 + 47)), (1, .ref (K.2.2 + 0)), (2, .ref (K.2.2 + 42)), (3, .int l3_55), (4, .int l4_117), (5, .int l5_55), (7, .int l7_117)] []) := by
      intro τ_117 l4_117 l7_117 h
      unfold fL_holds_j117 at h
      refine J_iconst (v := 1) C (by decide) dL_holds_117 rfl ?_
      refine J_goto (t := 122) C dL_holds_118 (by decide) ?_
      exact hj_122 τ_117 l4_117 l7_117 (1 : Int32) h
    have hj_105 : (∀ (τ_105 : LawS) (l4_105 : Int32) (l7_105 : Int32), Ok (fL_holds_j105 l3_55 l5_55 τ_105 l4_105 l7_105) B_55 → J X K 8 False QQ 0 0 2064 (jl K τ_105) 105 [(0, .ref (K.2.2 + 47)), (1, .ref (K.2.2 + 0)), (2, .ref (K.2.2 + 42)), (3, .int l3_55), (4, .int l4_105), (5, .int l5_55), (7, .int l7_105)] []) := by
      intro τ_105 l4_105 l7_105 h
      unfold fL_holds_j105 at h
      refine J_aload_n (i := 0) (p := 0) C dL_holds_105 rfl rfl rfl ?_
      refine J_iload (i := 4) (p := 4) C dL_holds_106 rfl rfl ?_
      refine J_iconst (v := 0) C (by decide) dL_holds_108 rfl ?_
      refine Jl_cV (α := Int32 × Sto) (rest := []) (st9 := fun p_45 => [.int p_45.1]) (wd := fun p_45 => p_45.2) C hR hX cv_RL_155 (k11_placeAt_n hl (Ok.ofnox h) (fun c hc => hc)) rfl rfl (Nat.le_of_ble_eq_true rfl) (Nat.le_of_ble_eq_true rfl) (Nat.le_of_ble_eq_true rfl) ⟨(Nat.le_of_ble_eq_true rfl), (Nat.le_of_ble_eq_true rfl)⟩ dL_holds_109 rfl (fun E n9 w9 hx => hx.elim) (fun _ => rfl) (fun p_45 h => ?_)
      have h : Ok _ _ := h
      change J X K 8 False QQ 0 0 2064 (jl K (τ_105.1, p_45.2)) 112 [(0, .ref (K.2.2 + 47)), (1, .ref (K.2.2 + 0)), (2, .ref (K.2.2 + 42)), (3, .int l3_55), (4, .int l4_105), (5, .int l5_55), (7, .int l7_105)] [.int p_45.1]
      refine J_iload (i := 7) (p := 6) C dL_holds_112 rfl rfl ?_
      refine J_icmp_ne (t := 121) C dL_holds_114 (by decide) rfl (fun c_46 => ?_) (fun c_46 => ?_)
      · have h := h.neg c_46
        exact hj_121 (τ_105.1, p_45.2) l4_105 l7_105 h
      · have h := h.pos (Decidable.not_not.mp c_46)
        exact hj_117 (τ_105.1, p_45.2) l4_105 l7_105 h
    unfold fL_holds_b55 at h
    refine J_iload (i := 7) (p := 7) C dL_holds_55 rfl rfl ?_
    refine J_iload_n (i := 3) (p := 3) C dL_holds_57 rfl rfl rfl ?_
    refine J_icmp_gt (t := 159) C dL_holds_58 (by decide) rfl (fun c_47 => ?_) (fun c_47 => ?_)
    · have h := h.pos c_47
      have h := hE_55 (τ_55, l4_55, l6_55) h.osome
      try dsimp only at h
      refine J.sub [0, 1, 2, 3, 4, 5, 6] rfl ?_
      exact hj_159 τ_55 l3_55 l4_55 l5_55 l6_55 h
    · have h := h.neg c_47
      refine J_iload (i := 6) (p := 6) C dL_holds_61 rfl rfl ?_
      refine J_if_eq (t := 159) C dL_holds_63 (by decide) rfl (fun c_48 => ?_) (fun c_48 => ?_)
      · have h := h.pos c_48
        have h := hE_55 (τ_55, l4_55, l6_55) h.osome
        try dsimp only at h
        refine J.sub [0, 1, 2, 3, 4, 5, 6] rfl ?_
        exact hj_159 τ_55 l3_55 l4_55 l5_55 l6_55 h
      · have h := h.neg c_48
        refine J_iload (i := 7) (p := 7) C dL_holds_66 rfl rfl ?_
        refine J_bipush (v := 7) C (by decide) dL_holds_68 rfl ?_
        refine J_irem C (by decide) dL_holds_70 rfl ?_
        refine J_if_gt (t := 117) C dL_holds_71 (by decide) rfl (fun c_49 => ?_) (fun c_49 => ?_)
        · have h := h.pos c_49
          refine J.sub [0, 1, 2, 3, 4, 5, 7] rfl ?_
          exact hj_117 τ_55 l4_55 l7_55 h
        · have h := h.neg c_49
          refine J_aload_n (i := 0) (p := 0) C dL_holds_74 rfl rfl rfl ?_
          refine J_iload (i := 7) (p := 7) C dL_holds_75 rfl rfl ?_
          refine Jl_cV (α := Int32 × Sto) (rest := []) (st9 := fun p_50 => [.int p_50.1]) (wd := fun p_50 => p_50.2) C hR hX cv_RL_109 (k11_lineOf_n hl (Ok.ofnox h) (fun c hc => hc)) rfl rfl (Nat.le_of_ble_eq_true rfl) (Nat.le_of_ble_eq_true rfl) (Nat.le_of_ble_eq_true rfl) ⟨(Nat.le_of_ble_eq_true rfl), (Nat.le_of_ble_eq_true rfl)⟩ dL_holds_77 rfl (fun E n9 w9 hx => hx.elim) (fun _ => rfl) (fun p_50 h => ?_)
          have h : Ok _ _ := h
          change J X K 8 False QQ 0 0 2064 (jl K (τ_55.1, p_50.2)) 80 [(0, .ref (K.2.2 + 47)), (1, .ref (K.2.2 + 0)), (2, .ref (K.2.2 + 42)), (3, .int l3_55), (4, .int l4_55), (5, .int l5_55), (6, .int l6_55), (7, .int l7_55)] [.int p_50.1]
          refine J_iload (i := 4) (p := 4) C dL_holds_80 rfl rfl ?_
          refine J_icmp_ne (t := 121) C dL_holds_82 (by decide) rfl (fun c_51 => ?_) (fun c_51 => ?_)
          · have h := h.neg c_51
            refine J.sub [0, 1, 2, 3, 4, 5, 7] rfl ?_
            exact hj_121 (τ_55.1, p_50.2) l4_55 l7_55 h
          · have h := h.pos (Decidable.not_not.mp c_51)
            refine J_iload (i := 7) (p := 7) C dL_holds_85 rfl rfl ?_
            refine J_if_le (t := 105) C dL_holds_87 (by decide) rfl (fun c_52 => ?_) (fun c_52 => ?_)
            · have h := h.pos c_52
              refine J.sub [0, 1, 2, 3, 4, 5, 7] rfl ?_
              exact hj_105 (τ_55.1, p_50.2) l4_55 l7_55 h
            · have h := h.neg c_52
              refine J_aload_n (i := 2) (p := 2) C dL_holds_90 rfl rfl rfl ?_
              refine J_sipush (v := 400) C (by decide) dL_holds_91 rfl ?_
              refine J_iload (i := 7) (p := 7) C dL_holds_94 rfl rfl ?_
              refine J_iadd C dL_holds_96 rfl ?_
              refine J_iconst (v := 1) C (by decide) dL_holds_97 rfl ?_
              refine J_isub C dL_holds_98 rfl ?_
              obtain ⟨g_53, h⟩ := Ok.ofgd h
              refine Jl_iald C rfl rfl g_53 dL_holds_99 rfl ?_
              refine J_bipush (v := 10) C (by decide) dL_holds_100 rfl ?_
              refine J_icmp_ne (t := 117) C dL_holds_102 (by decide) rfl (fun c_54 => ?_) (fun c_54 => ?_)
              · have h := h.neg c_54
                refine J.sub [0, 1, 2, 3, 4, 5, 7] rfl ?_
                exact hj_117 (τ_55.1, p_50.2) l4_55 l7_55 h
              · have h := h.pos (Decidable.not_not.mp c_54)
                refine J.sub [0, 1, 2, 3, 4, 5, 7] rfl ?_
                exact hj_105 (τ_55.1, p_50.2) l4_55 l7_55 h
  have hj_50 : (∀ (τ_50 : LawS) (l3_50 : Int32) (l4_50 : Int32) (l5_50 : Int32) (s0_50 : Int32), Ok (fL_holds_j50 τ_50 l3_50 l4_50 l5_50 s0_50) Qf → J X K 8 False QQ 0 0 2064 (jl K τ_50) 50 [(0, .ref (K.2.2 + 47)), (1, .ref (K.2.2 + 0)), (2, .ref (K.2.2 + 42)), (3, .int l3_50), (4, .int l4_50), (5, .int l5_50)] [.int s0_50]) := by
    intro τ_50 l3_50 l4_50 l5_50 s0_50 h
    unfold fL_holds_j50 at h
    obtain ⟨x6_16, e_x6_16, h⟩ := Ok.nm h
    refine J_istoreE (i := 6) (lv' := [(6, .int x6_16), (0, .ref (K.2.2 + 47)), (1, .ref (K.2.2 + 0)), (2, .ref (K.2.2 + 42)), (3, .int l3_50), (4, .int l4_50), (5, .int l5_50)]) C e_x6_16 dL_holds_50 (Nat.le_of_ble_eq_true rfl) rfl rfl ?_
    refine J_iconst (v := 0) C (by decide) dL_holds_52 rfl ?_
    obtain ⟨x7_17, e_x7_17, h⟩ := Ok.nm h
    refine J_istoreE (i := 7) (lv' := [(7, .int x7_17), (6, .int x6_16), (0, .ref (K.2.2 + 47)), (1, .ref (K.2.2 + 0)), (2, .ref (K.2.2 + 42)), (3, .int l3_50), (4, .int l4_50), (5, .int l5_50)]) C e_x7_17 dL_holds_53 (Nat.le_of_ble_eq_true rfl) rfl rfl ?_
    refine J.sub [2, 3, 4, 5, 6, 7, 1, 0] rfl ?_
    exact hj_55 τ_50 l3_50 l4_50 l5_50 x6_16 x7_17 h
  have hj_49 : (∀ (τ_49 : LawS) (l3_49 : Int32) (l4_49 : Int32) (l5_49 : Int32), Ok (fL_holds_j49 τ_49 l3_49 l4_49 l5_49) Qf → J X K 8 False QQ 0 0 2064 (jl K τ_49) 49 [(0, .ref (K.2.2 + 47)), (1, .ref (K.2.2 + 0)), (2, .ref (K.2.2 + 42)), (3, .int l3_49), (4, .int l4_49), (5, .int l5_49)] []) := by
    intro τ_49 l3_49 l4_49 l5_49 h
    unfold fL_holds_j49 at h
    refine J_iconst (v := 0) C (by decide) dL_holds_49 rfl ?_
    exact hj_50 τ_49 l3_49 l4_49 l5_49 (0 : Int32) h
  unfold fL_holds at h
  refine J_aload_n (i := 0) (p := 0) C dL_holds_0 rfl rfl rfl ?_
  refine J_aload_n (i := 2) (p := 2) C dL_holds_1 rfl rfl rfl ?_
  refine Jl_cS (α := LawS) (rest := []) (st9 := fun p_55 => []) C hR hX cs_RL_151 (kL_sees hl rfl (Ok.ofbnd h)) rfl rfl (Nat.le_of_ble_eq_true rfl) (Nat.le_of_ble_eq_true rfl) (Nat.le_of_ble_eq_true rfl) ⟨(Nat.le_of_ble_eq_true rfl), (Nat.le_of_ble_eq_true rfl)⟩ dL_holds_2 rfl (fun _ => rfl) (fun p_55 h => ?_)
  have h : Ok _ _ := h
  change J X K 8 False QQ 0 0 2064 (jl K p_55) 5 [(0, .ref (K.2.2 + 47)), (1, .ref (K.2.2 + 0)), (2, .ref (K.2.2 + 42))] []
  refine J_aload_n (i := 2) (p := 2) C dL_holds_5 rfl rfl rfl ?_
  refine J_iconst (v := 0) C (by decide) dL_holds_6 rfl ?_
  obtain ⟨g_56, h⟩ := Ok.ofgd h
  refine Jl_iald C rfl rfl g_56 dL_holds_7 rfl ?_
  obtain ⟨x3_18, e_x3_18, h⟩ := Ok.nm h
  refine J_istoreE_n (i := 3) (lv' := [(3, .int x3_18), (0, .ref (K.2.2 + 47)), (1, .ref (K.2.2 + 0)), (2, .ref (K.2.2 + 42))]) C e_x3_18 dL_holds_8 rfl (Nat.le_of_ble_eq_true rfl) rfl rfl ?_
  refine J_iconst (v := 0) C (by decide) dL_holds_9 rfl ?_
  obtain ⟨x4_19, e_x4_19, h⟩ := Ok.nm h
  refine J_istoreE (i := 4) (lv' := [(4, .int x4_19), (3, .int x3_18), (0, .ref (K.2.2 + 47)), (1, .ref (K.2.2 + 0)), (2, .ref (K.2.2 + 42))]) C e_x4_19 dL_holds_10 (Nat.le_of_ble_eq_true rfl) rfl rfl ?_
  refine J_iconst (v := 0) C (by decide) dL_holds_12 rfl ?_
  obtain ⟨x5_20, e_x5_20, h⟩ := Ok.nm h
  refine J_istoreE (i := 5) (lv' := [(5, .int x5_20), (4, .int x4_19), (3, .int x3_18), (0, .ref (K.2.2 + 47)), (1, .ref (K.2.2 + 0)), (2, .ref (K.2.2 + 42))]) C e_x5_20 dL_holds_13 (Nat.le_of_ble_eq_true rfl) rfl rfl ?_
  refine J_iload_n (i := 3) (p := 2) C dL_holds_15 rfl rfl rfl ?_
  refine J_sipush (v := 3000) C (by decide) dL_holds_16 rfl ?_
  refine J_icmp_gt (t := 49) C dL_holds_19 (by decide) rfl (fun c_57 => ?_) (fun c_57 => ?_)
  · have h := h.pos c_57
    refine J.sub [3, 4, 5, 2, 1, 0] rfl ?_
    exact hj_49 p_55 x3_18 x4_19 x5_20 h
  · have h := h.neg c_57
    refine J_aload_n (i := 0) (p := 3) C dL_holds_22 rfl rfl rfl ?_
    refine J_iconst (v := 0) C (by decide) dL_holds_23 rfl ?_
    refine Jl_cV (α := Int32 × Sto) (rest := []) (st9 := fun p_58 => [.int p_58.1]) (wd := fun p_58 => p_58.2) C hR hX cv_RL_147 (k11_isHidden_n hl (Ok.ofnox h) (fun c hc => hc)) rfl rfl (Nat.le_of_ble_eq_true rfl) (Nat.le_of_ble_eq_true rfl) (Nat.le_of_ble_eq_true rfl) ⟨(Nat.le_of_ble_eq_true rfl), (Nat.le_of_ble_eq_true rfl)⟩ dL_holds_24 rfl (fun E n9 w9 hx => hx.elim) (fun _ => rfl) (fun p_58 h => ?_)
    have h : Ok _ _ := h
    change J X K 8 False QQ 0 0 2064 (jl K (p_55.1, p_58.2)) 27 [(5, .int x5_20), (4, .int x4_19), (3, .int x3_18), (0, .ref (K.2.2 + 47)), (1, .ref (K.2.2 + 0)), (2, .ref (K.2.2 + 42))] [.int p_58.1]
    refine J_if_ne (t := 49) C dL_holds_27 (by decide) rfl (fun c_59 => ?_) (fun c_59 => ?_)
    · have h := h.neg c_59
      refine J.sub [3, 4, 5, 2, 1, 0] rfl ?_
      exact hj_49 (p_55.1, p_58.2) x3_18 x4_19 x5_20 h
    · have h := h.pos (Decidable.not_not.mp c_59)
      refine J_aload_n (i := 2) (p := 5) C dL_holds_30 rfl rfl rfl ?_
      refine J_iconst (v := 1) C (by decide) dL_holds_31 rfl ?_
      obtain ⟨g_60, h⟩ := Ok.ofgd h
      refine Jl_iald C rfl rfl g_60 dL_holds_32 rfl ?_
      refine J_iconst (v := 1) C (by decide) dL_holds_33 rfl ?_
      refine J_icmp_lt (t := 49) C dL_holds_34 (by decide) rfl (fun c_61 => ?_) (fun c_61 => ?_)
      · have h := h.pos c_61
        refine J.sub [3, 4, 5, 2, 1, 0] rfl ?_
        exact hj_49 (p_55.1, p_58.2) x3_18 x4_19 x5_20 h
      · have h := h.neg c_61
        refine J_aload_n (i := 2) (p := 5) C dL_holds_37 rfl rfl rfl ?_
        refine J_iconst (v := 1) C (by decide) dL_holds_38 rfl ?_
        obtain ⟨g_62, h⟩ := Ok.ofgd h
        refine Jl_iald C rfl rfl g_62 dL_holds_39 rfl ?_
        refine J_bipush (v := 8) C (by decide) dL_holds_40 rfl ?_
        refine J_icmp_gt (t := 49) C dL_holds_42 (by decide) rfl (fun c_63 => ?_) (fun c_63 => ?_)
        · have h := h.pos c_63
          refine J.sub [3, 4, 5, 2, 1, 0] rfl ?_
          exact hj_49 (p_55.1, p_58.2) x3_18 x4_19 x5_20 h
        · have h := h.neg c_63
          refine J_iconst (v := 1) C (by decide) dL_holds_45 rfl ?_
          refine J_goto (t := 50) C dL_holds_46 (by decide) ?_
          refine J.sub [3, 4, 5, 2, 1, 0] rfl ?_
          exact hj_50 (p_55.1, p_58.2) x3_18 x4_19 x5_20 (1 : Int32) h
set_option maxHeartbeats 4000000 in
set_option maxRecDepth 100000 in
theorem kL_replaces {l : Launch} {K : JK} (hl : l.stackTraces = false) {τ : LawS}   {Qf : Int32 × LawS → Prop} (h : Ok (fL_replaces τ) Qf) : Con l K yL_replaces (.code yL_replaces cL_replaces 15 (some .boolean) :: TB) 10 4 24 False [.ref (K.2.2 + 47), .ref (K.2.2 + 0), .ref (K.2.2 + 41), .ref (K.2.2 + 42), .ref (K.2.2 + 43), .ref (K.2.2 + 45)] 2064 (jl K τ) (PL Qf (fun p => some (.int p.1)) (fun p => jl K p.2)) PN := by
  refine Con.enter (own := RL) hl (by decide) rfl (Nat.le_of_ble_eq_true rfl) ?_
  intro X hX hR C hret hnt
  generalize hQQ : jQ X K 4 24 (PL Qf (fun p => some (.int p.1)) (fun p => jl K p.2)) PN False = QQ
  change J X K 15 False QQ 0 0 2064 (jl K τ) 0 [(0, .ref (K.2.2 + 47)), (1, .ref (K.2.2 + 0)), (2, .ref (K.2.2 + 41)), (3, .ref (K.2.2 + 42)), (4, .ref (K.2.2 + 43)), (5, .ref (K.2.2 + 45))] []
  have hj_195 : (∀ (τ_195 : LawS) (l6_195 : Int32) (l7_195 : Int32) (l8_195 : Int32) (l10_195 : Int32), Ok (fL_replaces_j195 τ_195 l6_195 l7_195 l8_195 l10_195) Qf → J X K 15 False QQ 4 24 2064 (jl K τ_195) 195 [(2, .ref (K.2.2 + 41)), (3, .ref (K.2.2 + 42)), (5, .ref (K.2.2 + 45)), (6, .int l6_195), (7, .int l7_195), (8, .int l8_195), (10, .int l10_195)] []) := by
    intro τ_195 l6_195 l7_195 l8_195 l10_195 h
    unfold fL_replaces_j195 at h
    refine loop_gen (S := Int32) (P := fun s_195 => J X K 15 False QQ 4 24 2064 (jl K τ_195) 195 [(2, .ref (K.2.2 + 41)), (3, .ref (K.2.2 + 42)), (5, .ref (K.2.2 + 45)), (6, .int l6_195), (7, .int l7_195), (8, .int l8_195), (10, .int s_195)] []) ?_ FU l10_195 (Ok.ofbnd h)
    intro B_195 hB_195 hE_195 s_195 h
    generalize s_195 = l10_195 at h ⊢
    have h : Ok (fL_replaces_b195 τ_195 l6_195 l7_195 l8_195 l10_195) B_195 := h
    change J X K 15 False QQ 4 24 2064 (jl K τ_195) 195 [(2, .ref (K.2.2 + 41)), (3, .ref (K.2.2 + 42)), (5, .ref (K.2.2 + 45)), (6, .int l6_195), (7, .int l7_195), (8, .int l8_195), (10, .int l10_195)] []
    have hj_410 : (∀ (l10_410 : Int32), Ok (fL_replaces_j410 τ_195 l6_195 l7_195 l8_195 l10_410) B_195 → J X K 15 False QQ 4 24 2064 (jl K τ_195) 410 [(2, .ref (K.2.2 + 41)), (3, .ref (K.2.2 + 42)), (5, .ref (K.2.2 + 45)), (6, .int l6_195), (7, .int l7_195), (8, .int l8_195), (10, .int l10_410)] []) := by
      intro l10_410 h
      unfold fL_replaces_j410 at h
      obtain ⟨x10_1, e_x10_1, h⟩ := Ok.nm h
      refine J_iincE (i := 10) (p := 6) (lv' := [(10, .int x10_1), (2, .ref (K.2.2 + 41)), (3, .ref (K.2.2 + 42)), (5, .ref (K.2.2 + 45)), (6, .int l6_195), (7, .int l7_195), (8, .int l8_195)]) C e_x10_1 dL_replaces_410 rfl (by decide) (Nat.le_of_ble_eq_true rfl) rfl rfl ?_
      refine J_goto (t := 195) C dL_replaces_413 (by decide) ?_
      refine J.sub [1, 2, 3, 4, 5, 6, 0] rfl ?_
      exact hB_195 x10_1 h.osome
    have hj_356 : (∀ (l10_356 : Int32) (l11_356 : Int32) (l14_356 : Int32), Ok (fL_replaces_j356 τ_195 l6_195 l7_195 l8_195 l10_356 l11_356 l14_356) B_195 → J X K 15 False QQ 4 24 2064 (jl K τ_195) 356 [(2, .ref (K.2.2 + 41)), (3, .ref (K.2.2 + 42)), (5, .ref (K.2.2 + 45)), (6, .int l6_195), (7, .int l7_195), (8, .int l8_195), (10, .int l10_356), (11, .int l11_356), (14, .int l14_356)] []) := by
      intro l10_356 l11_356 l14_356 h
      unfold fL_replaces_j356 at h
      refine loop_gen (S := Int32) (P := fun s_356 => J X K 15 False QQ 4 24 2064 (jl K τ_195) 356 [(2, .ref (K.2.2 + 41)), (3, .ref (K.2.2 + 42)), (5, .ref (K.2.2 + 45)), (6, .int l6_195), (7, .int l7_195), (8, .int l8_195), (10, .int l10_356), (11, .int l11_356), (14, .int s_356)] []) ?_ FU l14_356 (Ok.ofbnd h)
      intro B_356 hB_356 hE_356 s_356 h
      generalize s_356 = l14_356 at h ⊢
      have h : Ok (fL_replaces_b356 τ_195 l6_195 l7_195 l8_195 l10_356 l11_356 l14_356) B_356 := h
      change J X K 15 False QQ 4 24 2064 (jl K τ_195) 356 [(2, .ref (K.2.2 + 41)), (3, .ref (K.2.2 + 42)), (5, .ref (K.2.2 + 45)), (6, .int l6_195), (7, .int l7_195), (8, .int l8_195), (10, .int l10_356), (11, .int l11_356), (14, .int l14_356)] []
      have hj_404 : (∀ (l14_404 : Int32), Ok (fL_replaces_j404 τ_195 l6_195 l7_195 l8_195 l10_356 l11_356 l14_404) B_356 → J X K 15 False QQ 4 24 2064 (jl K τ_195) 404 [(2, .ref (K.2.2 + 41)), (3, .ref (K.2.2 + 42)), (5, .ref (K.2.2 + 45)), (6, .int l6_195), (7, .int l7_195), (8, .int l8_195), (10, .int l10_356), (11, .int l11_356), (14, .int l14_404)] []) := by
        intro l14_404 h
        unfold fL_replaces_j404 at h
        obtain ⟨x14_2, e_x14_2, h⟩ := Ok.nm h
        refine J_iincE (i := 14) (p := 8) (lv' := [(14, .int x14_2), (2, .ref (K.2.2 + 41)), (3, .ref (K.2.2 + 42)), (5, .ref (K.2.2 + 45)), (6, .int l6_195), (7, .int l7_195), (8, .int l8_195), (10, .int l10_356), (11, .int l11_356)]) C e_x14_2 dL_replaces_404 rfl (by decide) (Nat.le_of_ble_eq_true rfl) rfl rfl ?_
        refine J_goto (t := 356) C dL_replaces_407 (by decide) ?_
        refine J.sub [1, 2, 3, 4, 5, 6, 7, 8, 0] rfl ?_
        exact hB_356 x14_2 h.osome
      unfold fL_replaces_b356 at h
      refine J_iload (i := 14) (p := 8) C dL_replaces_356 rfl rfl ?_
      refine J_bipush (v := 16) C (by decide) dL_replaces_358 rfl ?_
      refine J_icmp_ge (t := 410) C dL_replaces_360 (by decide) rfl (fun c_1 => ?_) (fun c_1 => ?_)
      · have h := h.pos c_1
        have h := hE_356 (Sum.inl ()) h.osome
        try dsimp only at h
        refine J.sub [0, 1, 2, 3, 4, 5, 6] rfl ?_
        exact hj_410 l10_356 h
      · have h := h.neg c_1
        refine J_aload_n (i := 2) (p := 0) C dL_replaces_363 rfl rfl rfl ?_
        refine J_bipush (v := 10) C (by decide) dL_replaces_364 rfl ?_
        refine J_iload (i := 14) (p := 8) C dL_replaces_366 rfl rfl ?_
        refine J_iadd C dL_replaces_368 rfl ?_
        obtain ⟨g_2, h⟩ := Ok.ofgd h
        refine Jl_iald C rfl rfl g_2 dL_replaces_369 rfl ?_
        refine J_if_lt (t := 404) C dL_replaces_370 (by decide) rfl (fun c_3 => ?_) (fun c_3 => ?_)
        · have h := h.pos c_3
          exact hj_404 l14_356 h
        · have h := h.neg c_3
          refine J_aload_n (i := 2) (p := 0) C dL_replaces_373 rfl rfl rfl ?_
          refine J_bipush (v := 10) C (by decide) dL_replaces_374 rfl ?_
          refine J_iload (i := 14) (p := 8) C dL_replaces_376 rfl rfl ?_
          refine J_iadd C dL_replaces_378 rfl ?_
          obtain ⟨g_4, h⟩ := Ok.ofgd h
          refine Jl_iald C rfl rfl g_4 dL_replaces_379 rfl ?_
          refine J_iload (i := 11) (p := 7) C dL_replaces_380 rfl rfl ?_
          refine J_icmp_ge (t := 404) C dL_replaces_382 (by decide) rfl (fun c_5 => ?_) (fun c_5 => ?_)
          · have h := h.pos c_5
            exact hj_404 l14_356 h
          · have h := h.neg c_5
            refine J_aload_n (i := 3) (p := 1) C dL_replaces_385 rfl rfl rfl ?_
            refine J_bipush (v := 10) C (by decide) dL_replaces_386 rfl ?_
            refine J_iload (i := 14) (p := 8) C dL_replaces_388 rfl rfl ?_
            refine J_iadd C dL_replaces_390 rfl ?_
            obtain ⟨g_6, h⟩ := Ok.ofgd h
            refine Jl_iald C rfl rfl g_6 dL_replaces_391 rfl ?_
            refine J_aload_n (i := 3) (p := 1) C dL_replaces_392 rfl rfl rfl ?_
            refine J_bipush (v := 10) C (by decide) dL_replaces_393 rfl ?_
            refine J_iload (i := 10) (p := 6) C dL_replaces_395 rfl rfl ?_
            refine J_iadd C dL_replaces_397 rfl ?_
            obtain ⟨g_7, h⟩ := Ok.ofgd h
            refine Jl_iald C rfl rfl g_7 dL_replaces_398 rfl ?_
            refine J_icmp_le (t := 404) C dL_replaces_399 (by decide) rfl (fun c_8 => ?_) (fun c_8 => ?_)
            · have h := h.pos c_8
              exact hj_404 l14_356 h
            · have h := h.neg c_8
              have h := hE_356 (Sum.inr ()) h.osome
              try dsimp only at h
              have h := hE_195 (Sum.inr (Sum.inr (Sum.inr ()))) h.osome
              try dsimp only at h
              refine J_iconst (v := 0) C (by decide) dL_replaces_402 rfl ?_
              rw [← hQQ]
              exact J_zret C hret rfl (Nat.le_of_ble_eq_true rfl) (Nat.le_of_ble_eq_true rfl) ⟨_, h.osome, rfl, rfl, rfl⟩ dL_replaces_403
    have hj_353 : (∀ (l10_353 : Int32) (l11_353 : Int32), Ok (fL_replaces_j353 τ_195 l6_195 l7_195 l8_195 l10_353 l11_353) B_195 → J X K 15 False QQ 4 24 2064 (jl K τ_195) 353 [(2, .ref (K.2.2 + 41)), (3, .ref (K.2.2 + 42)), (5, .ref (K.2.2 + 45)), (6, .int l6_195), (7, .int l7_195), (8, .int l8_195), (10, .int l10_353), (11, .int l11_353)] []) := by
      intro l10_353 l11_353 h
      unfold fL_replaces_j353 at h
      refine J_iconst (v := 0) C (by decide) dL_replaces_353 rfl ?_
      obtain ⟨x14_3, e_x14_3, h⟩ := Ok.nm h
      refine J_istoreE (i := 14) (lv' := [(14, .int x14_3), (2, .ref (K.2.2 + 41)), (3, .ref (K.2.2 + 42)), (5, .ref (K.2.2 + 45)), (6, .int l6_195), (7, .int l7_195), (8, .int l8_195), (10, .int l10_353), (11, .int l11_353)]) C e_x14_3 dL_replaces_354 (Nat.le_of_ble_eq_true rfl) rfl rfl ?_
      refine J.sub [1, 2, 3, 4, 5, 6, 7, 8, 0] rfl ?_
      exact hj_356 l10_353 l11_353 x14_3 h
    have hj_347 : (∀ (l10_347 : Int32) (l11_347 : Int32) (s0_347 : Int32) (s1_347 : Int32) (s2_347 : Int32), Ok (fL_replaces_j347 τ_195 l6_195 l7_195 l8_195 l10_347 l11_347 s0_347 s1_347 s2_347) B_195 → J X K 15 False QQ 4 24 2064 (jl K τ_195) 347 [(2, .ref (K.2.2 + 41)), (3, .ref (K.2.2 + 42)), (5, .ref (K.2.2 + 45)), (6, .int l6_195), (7, .int l7_195), (8, .int l8_195), (10, .int l10_347), (11, .int l11_347)] [.int s2_347, .int s1_347, .int s0_347]) := by
      intro l10_347 l11_347 s0_347 s1_347 s2_347 h
      unfold fL_replaces_j347 at h
      refine J_iadd C dL_replaces_347 rfl ?_
      refine J_icmp_eq (t := 353) C dL_replaces_348 (by decide) rfl (fun c_9 => ?_) (fun c_9 => ?_)
      · have h := h.pos c_9
        exact hj_353 l10_347 l11_347 h
      · have h := h.neg c_9
        have h := hE_195 (Sum.inr (Sum.inr (Sum.inl ()))) h.osome
        try dsimp only at h
        refine J_iconst (v := 0) C (by decide) dL_replaces_351 rfl ?_
        rw [← hQQ]
        exact J_zret C hret rfl (Nat.le_of_ble_eq_true rfl) (Nat.le_of_ble_eq_true rfl) ⟨_, h.osome, rfl, rfl, rfl⟩ dL_replaces_352
    have hj_314 : (∀ (l10_314 : Int32) (l11_314 : Int32) (l12_314 : Int32) (s0_314 : Int32), Ok (fL_replaces_j314 τ_195 l6_195 l7_195 l8_195 l10_314 l11_314 l12_314 s0_314) B_195 → J X K 15 False QQ 4 24 2064 (jl K τ_195) 314 [(2, .ref (K.2.2 + 41)), (3, .ref (K.2.2 + 42)), (5, .ref (K.2.2 + 45)), (6, .int l6_195), (7, .int l7_195), (8, .int l8_195), (10, .int l10_314), (11, .int l11_314), (12, .int l12_314)] [.int s0_314]) := by
      intro l10_314 l11_314 l12_314 s0_314 h
      unfold fL_replaces_j314 at h
      obtain ⟨x13_4, e_x13_4, h⟩ := Ok.nm h
      refine J_istoreE (i := 13) (lv' := [(13, .int x13_4), (2, .ref (K.2.2 + 41)), (3, .ref (K.2.2 + 42)), (5, .ref (K.2.2 + 45)), (6, .int l6_195), (7, .int l7_195), (8, .int l8_195), (10, .int l10_314), (11, .int l11_314), (12, .int l12_314)]) C e_x13_4 dL_replaces_314 (Nat.le_of_ble_eq_true rfl) rfl rfl ?_
      refine J_iload (i := 13) (p := 0) C dL_replaces_316 rfl rfl ?_
      refine J_if_eq (t := 353) C dL_replaces_318 (by decide) rfl (fun c_10 => ?_) (fun c_10 => ?_)
      · have h := h.pos c_10
        refine J.sub [1, 2, 3, 4, 5, 6, 7, 8] rfl ?_
        exact hj_353 l10_314 l11_314 h
      · have h := h.neg c_10
        refine J_aload_n (i := 3) (p := 2) C dL_replaces_321 rfl rfl rfl ?_
        refine J_bipush (v := 10) C (by decide) dL_replaces_322 rfl ?_
        refine J_iload (i := 10) (p := 7) C dL_replaces_324 rfl rfl ?_
        refine J_iadd C dL_replaces_326 rfl ?_
        obtain ⟨g_11, h⟩ := Ok.ofgd h
        refine Jl_iald C rfl rfl g_11 dL_replaces_327 rfl ?_
        refine J_iload (i := 11) (p := 8) C dL_replaces_328 rfl rfl ?_
        refine J_iload (i := 12) (p := 9) C dL_replaces_330 rfl rfl ?_
        refine J_if_eq (t := 346) C dL_replaces_332 (by decide) rfl (fun c_12 => ?_) (fun c_12 => ?_)
        · have h := h.pos c_12
          refine J_iconst (v := 0) C (by decide) dL_replaces_346 rfl ?_
          refine J.sub [1, 2, 3, 4, 5, 6, 7, 8] rfl ?_
          exact hj_347 l10_314 l11_314 (τ_195.1 42 (Int32.toNatClampNeg ((10 : Int32) + l10_314))) l11_314 (0 : Int32) h
        · have h := h.neg c_12
          refine J_iload (i := 6) (p := 4) C dL_replaces_335 rfl rfl ?_
          refine J_iload (i := 8) (p := 6) C dL_replaces_337 rfl rfl ?_
          refine J_iload (i := 7) (p := 5) C dL_replaces_339 rfl rfl ?_
          refine J_isub C dL_replaces_341 rfl ?_
          refine J_isub C dL_replaces_342 rfl ?_
          refine J_goto (t := 347) C dL_replaces_343 (by decide) ?_
          refine J.sub [1, 2, 3, 4, 5, 6, 7, 8] rfl ?_
          exact hj_347 l10_314 l11_314 (τ_195.1 42 (Int32.toNatClampNeg ((10 : Int32) + l10_314))) l11_314 (l6_195 - (l8_195 - l7_195)) h
    have hj_309 : (∀ (l10_309 : Int32) (l11_309 : Int32) (l12_309 : Int32), Ok (fL_replaces_j309 τ_195 l6_195 l7_195 l8_195 l10_309 l11_309 l12_309) B_195 → J X K 15 False QQ 4 24 2064 (jl K τ_195) 309 [(2, .ref (K.2.2 + 41)), (3, .ref (K.2.2 + 42)), (5, .ref (K.2.2 + 45)), (6, .int l6_195), (7, .int l7_195), (8, .int l8_195), (10, .int l10_309), (11, .int l11_309), (12, .int l12_309)] []) := by
      intro l10_309 l11_309 l12_309 h
      unfold fL_replaces_j309 at h
      refine J_iconst (v := 1) C (by decide) dL_replaces_309 rfl ?_
      refine J_goto (t := 314) C dL_replaces_310 (by decide) ?_
      exact hj_314 l10_309 l11_309 l12_309 (1 : Int32) h
    have hj_289 : (∀ (l10_289 : Int32) (l11_289 : Int32) (l12_289 : Int32), Ok (fL_replaces_j289 τ_195 l6_195 l7_195 l8_195 l10_289 l11_289 l12_289) B_195 → J X K 15 False QQ 4 24 2064 (jl K τ_195) 289 [(2, .ref (K.2.2 + 41)), (3, .ref (K.2.2 + 42)), (5, .ref (K.2.2 + 45)), (6, .int l6_195), (7, .int l7_195), (8, .int l8_195), (10, .int l10_289), (11, .int l11_289), (12, .int l12_289)] []) := by
      intro l10_289 l11_289 l12_289 h
      unfold fL_replaces_j289 at h
      refine J_iconst (v := 1) C (by decide) dL_replaces_289 rfl ?_
      refine J_goto (t := 314) C dL_replaces_290 (by decide) ?_
      exact hj_314 l10_289 l11_289 l12_289 (1 : Int32) h
    have hj_265 : (∀ (l10_265 : Int32) (l11_265 : Int32) (s0_265 : Int32), Ok (fL_replaces_j265 τ_195 l6_195 l7_195 l8_195 l10_265 l11_265 s0_265) B_195 → J X K 15 False QQ 4 24 2064 (jl K τ_195) 265 [(2, .ref (K.2.2 + 41)), (3, .ref (K.2.2 + 42)), (5, .ref (K.2.2 + 45)), (6, .int l6_195), (7, .int l7_195), (8, .int l8_195), (10, .int l10_265), (11, .int l11_265)] [.int s0_265]) := by
      intro l10_265 l11_265 s0_265 h
      unfold fL_replaces_j265 at h
      obtain ⟨x12_5, e_x12_5, h⟩ := Ok.nm h
      refine J_istoreE (i := 12) (lv' := [(12, .int x12_5), (2, .ref (K.2.2 + 41)), (3, .ref (K.2.2 + 42)), (5, .ref (K.2.2 + 45)), (6, .int l6_195), (7, .int l7_195), (8, .int l8_195), (10, .int l10_265), (11, .int l11_265)]) C e_x12_5 dL_replaces_265 (Nat.le_of_ble_eq_true rfl) rfl rfl ?_
      refine J_aload (i := 5) (p := 3) C dL_replaces_267 rfl rfl ?_
      refine J_iload (i := 10) (p := 7) C dL_replaces_269 rfl rfl ?_
      obtain ⟨g_13, h⟩ := Ok.ofgd h
      refine Jl_zald C rfl rfl g_13 dL_replaces_271 rfl ?_
      refine J_if_eq (t := 297) C dL_replaces_272 (by decide) rfl (fun c_14 => ?_) (fun c_14 => ?_)
      · have h := h.pos c_14
        refine J_iload (i := 11) (p := 8) C dL_replaces_297 rfl rfl ?_
        refine J_iload (i := 7) (p := 5) C dL_replaces_299 rfl rfl ?_
        refine J_icmp_lt (t := 309) C dL_replaces_301 (by decide) rfl (fun c_15 => ?_) (fun c_15 => ?_)
        · have h := h.pos c_15
          refine J.sub [1, 2, 3, 4, 5, 6, 7, 8, 0] rfl ?_
          exact hj_309 l10_265 l11_265 x12_5 h
        · have h := h.neg c_15
          refine J_iload (i := 12) (p := 0) C dL_replaces_304 rfl rfl ?_
          refine J_if_eq (t := 313) C dL_replaces_306 (by decide) rfl (fun c_16 => ?_) (fun c_16 => ?_)
          · have h := h.pos c_16
            refine J_iconst (v := 0) C (by decide) dL_replaces_313 rfl ?_
            refine J.sub [1, 2, 3, 4, 5, 6, 7, 8, 0] rfl ?_
            exact hj_314 l10_265 l11_265 x12_5 (0 : Int32) h
          · have h := h.neg c_16
            refine J.sub [1, 2, 3, 4, 5, 6, 7, 8, 0] rfl ?_
            exact hj_309 l10_265 l11_265 x12_5 h
      · have h := h.neg c_14
        refine J_iload (i := 11) (p := 8) C dL_replaces_275 rfl rfl ?_
        refine J_iconst (v := 1) C (by decide) dL_replaces_277 rfl ?_
        refine J_isub C dL_replaces_278 rfl ?_
        refine J_iload (i := 7) (p := 5) C dL_replaces_279 rfl rfl ?_
        refine J_icmp_lt (t := 289) C dL_replaces_281 (by decide) rfl (fun c_17 => ?_) (fun c_17 => ?_)
        · have h := h.pos c_17
          refine J.sub [1, 2, 3, 4, 5, 6, 7, 8, 0] rfl ?_
          exact hj_289 l10_265 l11_265 x12_5 h
        · have h := h.neg c_17
          refine J_iload (i := 12) (p := 0) C dL_replaces_284 rfl rfl ?_
          refine J_if_eq (t := 293) C dL_replaces_286 (by decide) rfl (fun c_18 => ?_) (fun c_18 => ?_)
          · have h := h.pos c_18
            refine J_iconst (v := 0) C (by decide) dL_replaces_293 rfl ?_
            refine J_goto (t := 314) C dL_replaces_294 (by decide) ?_
            refine J.sub [1, 2, 3, 4, 5, 6, 7, 8, 0] rfl ?_
            exact hj_314 l10_265 l11_265 x12_5 (0 : Int32) h
          · have h := h.neg c_18
            refine J.sub [1, 2, 3, 4, 5, 6, 7, 8, 0] rfl ?_
            exact hj_289 l10_265 l11_265 x12_5 h
    unfold fL_replaces_b195 at h
    refine J_iload (i := 10) (p := 6) C dL_replaces_195 rfl rfl ?_
    refine J_bipush (v := 16) C (by decide) dL_replaces_197 rfl ?_
    refine J_icmp_ge (t := 416) C dL_replaces_199 (by decide) rfl (fun c_19 => ?_) (fun c_19 => ?_)
    · have h := h.pos c_19
      have h := hE_195 (Sum.inl ()) h.osome
      try dsimp only at h
      refine J_iconst (v := 1) C (by decide) dL_replaces_416 rfl ?_
      rw [← hQQ]
      exact J_zret C hret rfl (Nat.le_of_ble_eq_true rfl) (Nat.le_of_ble_eq_true rfl) ⟨_, h.osome, rfl, rfl, rfl⟩ dL_replaces_417
    · have h := h.neg c_19
      refine J_aload_n (i := 2) (p := 0) C dL_replaces_202 rfl rfl rfl ?_
      refine J_bipush (v := 10) C (by decide) dL_replaces_203 rfl ?_
      refine J_iload (i := 10) (p := 6) C dL_replaces_205 rfl rfl ?_
      refine J_iadd C dL_replaces_207 rfl ?_
      obtain ⟨g_20, h⟩ := Ok.ofgd h
      refine Jl_iald C rfl rfl g_20 dL_replaces_208 rfl ?_
      obtain ⟨x11_6, e_x11_6, h⟩ := Ok.nm h
      refine J_istoreE (i := 11) (lv' := [(11, .int x11_6), (2, .ref (K.2.2 + 41)), (3, .ref (K.2.2 + 42)), (5, .ref (K.2.2 + 45)), (6, .int l6_195), (7, .int l7_195), (8, .int l8_195), (10, .int l10_195)]) C e_x11_6 dL_replaces_209 (Nat.le_of_ble_eq_true rfl) rfl rfl ?_
      refine J_iload (i := 11) (p := 0) C dL_replaces_211 rfl rfl ?_
      refine J_if_ge (t := 228) C dL_replaces_213 (by decide) rfl (fun c_21 => ?_) (fun c_21 => ?_)
      · have h := h.pos c_21
        refine J_aload (i := 5) (p := 3) C dL_replaces_228 rfl rfl ?_
        refine J_iload (i := 10) (p := 7) C dL_replaces_230 rfl rfl ?_
        obtain ⟨g_22, h⟩ := Ok.ofgd h
        refine Jl_zald C rfl rfl g_22 dL_replaces_232 rfl ?_
        refine J_if_eq (t := 253) C dL_replaces_233 (by decide) rfl (fun c_23 => ?_) (fun c_23 => ?_)
        · have h := h.pos c_23
          refine J_iload (i := 11) (p := 0) C dL_replaces_253 rfl rfl ?_
          refine J_iload (i := 8) (p := 6) C dL_replaces_255 rfl rfl ?_
          refine J_icmp_lt (t := 264) C dL_replaces_257 (by decide) rfl (fun c_24 => ?_) (fun c_24 => ?_)
          · have h := h.pos c_24
            refine J_iconst (v := 0) C (by decide) dL_replaces_264 rfl ?_
            refine J.sub [1, 2, 3, 4, 5, 6, 7, 0] rfl ?_
            exact hj_265 l10_195 x11_6 (0 : Int32) h
          · have h := h.neg c_24
            refine J_iconst (v := 1) C (by decide) dL_replaces_260 rfl ?_
            refine J_goto (t := 265) C dL_replaces_261 (by decide) ?_
            refine J.sub [1, 2, 3, 4, 5, 6, 7, 0] rfl ?_
            exact hj_265 l10_195 x11_6 (1 : Int32) h
        · have h := h.neg c_23
          refine J_iload (i := 11) (p := 0) C dL_replaces_236 rfl rfl ?_
          refine J_iconst (v := 1) C (by decide) dL_replaces_238 rfl ?_
          refine J_isub C dL_replaces_239 rfl ?_
          refine J_iload (i := 8) (p := 6) C dL_replaces_240 rfl rfl ?_
          refine J_icmp_lt (t := 249) C dL_replaces_242 (by decide) rfl (fun c_25 => ?_) (fun c_25 => ?_)
          · have h := h.pos c_25
            refine J_iconst (v := 0) C (by decide) dL_replaces_249 rfl ?_
            refine J_goto (t := 265) C dL_replaces_250 (by decide) ?_
            refine J.sub [1, 2, 3, 4, 5, 6, 7, 0] rfl ?_
            exact hj_265 l10_195 x11_6 (0 : Int32) h
          · have h := h.neg c_25
            refine J_iconst (v := 1) C (by decide) dL_replaces_245 rfl ?_
            refine J_goto (t := 265) C dL_replaces_246 (by decide) ?_
            refine J.sub [1, 2, 3, 4, 5, 6, 7, 0] rfl ?_
            exact hj_265 l10_195 x11_6 (1 : Int32) h
      · have h := h.neg c_21
        refine J_aload_n (i := 3) (p := 2) C dL_replaces_216 rfl rfl rfl ?_
        refine J_bipush (v := 10) C (by decide) dL_replaces_217 rfl ?_
        refine J_iload (i := 10) (p := 7) C dL_replaces_219 rfl rfl ?_
        refine J_iadd C dL_replaces_221 rfl ?_
        obtain ⟨g_26, h⟩ := Ok.ofgd h
        refine Jl_iald C rfl rfl g_26 dL_replaces_222 rfl ?_
        refine J_if_lt (t := 410) C dL_replaces_223 (by decide) rfl (fun c_27 => ?_) (fun c_27 => ?_)
        · have h := h.pos c_27
          refine J.sub [1, 2, 3, 4, 5, 6, 7] rfl ?_
          exact hj_410 l10_195 h
        · have h := h.neg c_27
          have h := hE_195 (Sum.inr (Sum.inl ())) h.osome
          try dsimp only at h
          refine J_iconst (v := 0) C (by decide) dL_replaces_226 rfl ?_
          rw [← hQQ]
          exact J_zret C hret rfl (Nat.le_of_ble_eq_true rfl) (Nat.le_of_ble_eq_true rfl) ⟨_, h.osome, rfl, rfl, rfl⟩ dL_replaces_227
  have hj_109 : (∀ (τ_109 : LawS) (l6_109 : Int32) (l7_109 : Int32) (l8_109 : Int32) (l10_109 : Int32), Ok (fL_replaces_j109 τ_109 l6_109 l7_109 l8_109 l10_109) Qf → J X K 15 False QQ 4 24 2064 (jl K τ_109) 109 [(2, .ref (K.2.2 + 41)), (3, .ref (K.2.2 + 42)), (4, .ref (K.2.2 + 43)), (5, .ref (K.2.2 + 45)), (6, .int l6_109), (7, .int l7_109), (8, .int l8_109), (10, .int l10_109)] []) := by
    intro τ_109 l6_109 l7_109 l8_109 l10_109 h
    unfold fL_replaces_j109 at h
    refine loop_gen (S := Int32) (P := fun s_109 => J X K 15 False QQ 4 24 2064 (jl K τ_109) 109 [(2, .ref (K.2.2 + 41)), (3, .ref (K.2.2 + 42)), (4, .ref (K.2.2 + 43)), (5, .ref (K.2.2 + 45)), (6, .int l6_109), (7, .int l7_109), (8, .int l8_109), (10, .int s_109)] []) ?_ FU l10_109 (Ok.ofbnd h)
    intro B_109 hB_109 hE_109 s_109 h
    generalize s_109 = l10_109 at h ⊢
    have h : Ok (fL_replaces_b109 τ_109 l6_109 l7_109 l8_109 l10_109) B_109 := h
    change J X K 15 False QQ 4 24 2064 (jl K τ_109) 109 [(2, .ref (K.2.2 + 41)), (3, .ref (K.2.2 + 42)), (4, .ref (K.2.2 + 43)), (5, .ref (K.2.2 + 45)), (6, .int l6_109), (7, .int l7_109), (8, .int l8_109), (10, .int l10_109)] []
    have hj_181 : (∀ (l10_181 : Int32) (s0_181 : Int32) (s1_181 : Int32), Ok (fL_replaces_j181 τ_109 l6_109 l7_109 l8_109 l10_181 s0_181 s1_181) B_109 → J X K 15 False QQ 4 24 2064 (jl K τ_109) 181 [(2, .ref (K.2.2 + 41)), (3, .ref (K.2.2 + 42)), (4, .ref (K.2.2 + 43)), (5, .ref (K.2.2 + 45)), (6, .int l6_109), (7, .int l7_109), (8, .int l8_109), (10, .int l10_181)] [.int s1_181, .int s0_181]) := by
      intro l10_181 s0_181 s1_181 h
      unfold fL_replaces_j181 at h
      refine J_icmp_eq (t := 186) C dL_replaces_181 (by decide) rfl (fun c_28 => ?_) (fun c_28 => ?_)
      · have h := h.pos c_28
        obtain ⟨x10_7, e_x10_7, h⟩ := Ok.nm h
        refine J_iincE (i := 10) (p := 7) (lv' := [(10, .int x10_7), (2, .ref (K.2.2 + 41)), (3, .ref (K.2.2 + 42)), (4, .ref (K.2.2 + 43)), (5, .ref (K.2.2 + 45)), (6, .int l6_109), (7, .int l7_109), (8, .int l8_109)]) C e_x10_7 dL_replaces_186 rfl (by decide) (Nat.le_of_ble_eq_true rfl) rfl rfl ?_
        refine J_goto (t := 109) C dL_replaces_189 (by decide) ?_
        refine J.sub [1, 2, 3, 4, 5, 6, 7, 0] rfl ?_
        exact hB_109 x10_7 h.osome
      · have h := h.neg c_28
        have h := hE_109 (Sum.inr ()) h.osome
        try dsimp only at h
        refine J_iconst (v := 0) C (by decide) dL_replaces_184 rfl ?_
        rw [← hQQ]
        exact J_zret C hret rfl (Nat.le_of_ble_eq_true rfl) (Nat.le_of_ble_eq_true rfl) ⟨_, h.osome, rfl, rfl, rfl⟩ dL_replaces_185
    unfold fL_replaces_b109 at h
    refine J_iload (i := 10) (p := 7) C dL_replaces_109 rfl rfl ?_
    refine J_aload_n (i := 3) (p := 1) C dL_replaces_111 rfl rfl rfl ?_
    refine J_iconst (v := 0) C (by decide) dL_replaces_112 rfl ?_
    obtain ⟨g_29, h⟩ := Ok.ofgd h
    refine Jl_iald C rfl rfl g_29 dL_replaces_113 rfl ?_
    refine J_icmp_ge (t := 192) C dL_replaces_114 (by decide) rfl (fun c_30 => ?_) (fun c_30 => ?_)
    · have h := h.pos c_30
      have h := hE_109 (Sum.inl ()) h.osome
      try dsimp only at h
      refine J_iconst (v := 0) C (by decide) dL_replaces_192 rfl ?_
      obtain ⟨x10_8, e_x10_8, h⟩ := Ok.nm h
      refine J_istoreE (i := 10) (lv' := [(10, .int x10_8), (2, .ref (K.2.2 + 41)), (3, .ref (K.2.2 + 42)), (4, .ref (K.2.2 + 43)), (5, .ref (K.2.2 + 45)), (6, .int l6_109), (7, .int l7_109), (8, .int l8_109)]) C e_x10_8 dL_replaces_193 (Nat.le_of_ble_eq_true rfl) rfl rfl ?_
      refine J.sub [1, 2, 4, 5, 6, 7, 0] rfl ?_
      exact hj_195 τ_109 l6_109 l7_109 l8_109 x10_8 h
    · have h := h.neg c_30
      refine J_aload_n (i := 3) (p := 1) C dL_replaces_117 rfl rfl rfl ?_
      refine J_sipush (v := 400) C (by decide) dL_replaces_118 rfl ?_
      refine J_iload (i := 10) (p := 7) C dL_replaces_121 rfl rfl ?_
      refine J_iadd C dL_replaces_123 rfl ?_
      obtain ⟨g_31, h⟩ := Ok.ofgd h
      refine Jl_iald C rfl rfl g_31 dL_replaces_124 rfl ?_
      refine J_iload (i := 10) (p := 7) C dL_replaces_125 rfl rfl ?_
      refine J_iload (i := 7) (p := 5) C dL_replaces_127 rfl rfl ?_
      refine J_icmp_ge (t := 143) C dL_replaces_129 (by decide) rfl (fun c_32 => ?_) (fun c_32 => ?_)
      · have h := h.pos c_32
        refine J_iload (i := 10) (p := 7) C dL_replaces_143 rfl rfl ?_
        refine J_iload (i := 7) (p := 5) C dL_replaces_145 rfl rfl ?_
        refine J_iload (i := 6) (p := 4) C dL_replaces_147 rfl rfl ?_
        refine J_iadd C dL_replaces_149 rfl ?_
        refine J_icmp_ge (t := 164) C dL_replaces_150 (by decide) rfl (fun c_33 => ?_) (fun c_33 => ?_)
        · have h := h.pos c_33
          refine J_aload_n (i := 2) (p := 0) C dL_replaces_164 rfl rfl rfl ?_
          refine J_sipush (v := 400) C (by decide) dL_replaces_165 rfl ?_
          refine J_iload (i := 10) (p := 7) C dL_replaces_168 rfl rfl ?_
          refine J_iadd C dL_replaces_170 rfl ?_
          refine J_iload (i := 6) (p := 4) C dL_replaces_171 rfl rfl ?_
          refine J_isub C dL_replaces_173 rfl ?_
          refine J_iload (i := 8) (p := 6) C dL_replaces_174 rfl rfl ?_
          refine J_iadd C dL_replaces_176 rfl ?_
          refine J_iload (i := 7) (p := 5) C dL_replaces_177 rfl rfl ?_
          refine J_isub C dL_replaces_179 rfl ?_
          obtain ⟨g_34, h⟩ := Ok.ofgd h
          refine Jl_iald C rfl rfl g_34 dL_replaces_180 rfl ?_
          exact hj_181 l10_109 (τ_109.1 42 (Int32.toNatClampNeg ((400 : Int32) + l10_109))) (τ_109.1 41 (Int32.toNatClampNeg (((((400 : Int32) + l10_109) - l6_109) + l8_109) - l7_109))) h
        · have h := h.neg c_33
          refine J_aload (i := 4) (p := 2) C dL_replaces_153 rfl rfl ?_
          refine J_iload (i := 10) (p := 7) C dL_replaces_155 rfl rfl ?_
          refine J_iload (i := 7) (p := 5) C dL_replaces_157 rfl rfl ?_
          refine J_isub C dL_replaces_159 rfl ?_
          obtain ⟨g_35, h⟩ := Ok.ofgd h
          refine Jl_iald C rfl rfl g_35 dL_replaces_160 rfl ?_
          refine J_goto (t := 181) C dL_replaces_161 (by decide) ?_
          exact hj_181 l10_109 (τ_109.1 42 (Int32.toNatClampNeg ((400 : Int32) + l10_109))) (τ_109.1 43 (Int32.toNatClampNeg (l10_109 - l7_109))) h
      · have h := h.neg c_32
        refine J_aload_n (i := 2) (p := 0) C dL_replaces_132 rfl rfl rfl ?_
        refine J_sipush (v := 400) C (by decide) dL_replaces_133 rfl ?_
        refine J_iload (i := 10) (p := 7) C dL_replaces_136 rfl rfl ?_
        refine J_iadd C dL_replaces_138 rfl ?_
        obtain ⟨g_36, h⟩ := Ok.ofgd h
        refine Jl_iald C rfl rfl g_36 dL_replaces_139 rfl ?_
        refine J_goto (t := 181) C dL_replaces_140 (by decide) ?_
        exact hj_181 l10_109 (τ_109.1 42 (Int32.toNatClampNeg ((400 : Int32) + l10_109))) (τ_109.1 41 (Int32.toNatClampNeg ((400 : Int32) + l10_109))) h
  unfold fL_replaces at h
  refine J_aload_n (i := 0) (p := 0) C dL_replaces_0 rfl rfl rfl ?_
  refine J_aload_n (i := 2) (p := 2) C dL_replaces_1 rfl rfl rfl ?_
  refine Jl_cS (α := LawS) (rest := []) (st9 := fun p_37 => []) C hR hX cs_RL_151 (kL_sees hl rfl (Ok.ofbnd h)) rfl rfl (Nat.le_of_ble_eq_true rfl) (Nat.le_of_ble_eq_true rfl) (Nat.le_of_ble_eq_true rfl) ⟨(Nat.le_of_ble_eq_true rfl), (Nat.le_of_ble_eq_true rfl)⟩ dL_replaces_2 rfl (fun _ => rfl) (fun p_37 h => ?_)
  have h : Ok _ _ := h
  change J X K 15 False QQ 0 0 2064 (jl K p_37) 5 [(0, .ref (K.2.2 + 47)), (1, .ref (K.2.2 + 0)), (2, .ref (K.2.2 + 41)), (3, .ref (K.2.2 + 42)), (4, .ref (K.2.2 + 43)), (5, .ref (K.2.2 + 45))] []
  refine J_aload_n (i := 1) (p := 1) C dL_replaces_5 rfl rfl rfl ?_
  refine J_aload (i := 4) (p := 4) C dL_replaces_6 rfl rfl ?_
  refine Jl_cS (α := Int32 × LawS) (rest := []) (st9 := fun p_38 => [.int p_38.1]) C hR hX cs_RL_161 (kL_draws hl  (Ok.ofbnd h)) rfl rfl (Nat.le_of_ble_eq_true rfl) (Nat.le_of_ble_eq_true rfl) (Nat.le_of_ble_eq_true rfl) ⟨(Nat.le_of_ble_eq_true rfl), (Nat.le_of_ble_eq_true rfl)⟩ dL_replaces_8 rfl (fun _ => rfl) (fun p_38 h => ?_)
  have h : Ok _ _ := h
  change J X K 15 False QQ 0 0 2064 (jl K p_38.2) 11 [(0, .ref (K.2.2 + 47)), (1, .ref (K.2.2 + 0)), (2, .ref (K.2.2 + 41)), (3, .ref (K.2.2 + 42)), (4, .ref (K.2.2 + 43)), (5, .ref (K.2.2 + 45))] [.int p_38.1]
  obtain ⟨x6_10, e_x6_10, h⟩ := Ok.nm h
  refine J_istoreE (i := 6) (lv' := [(6, .int x6_10), (0, .ref (K.2.2 + 47)), (1, .ref (K.2.2 + 0)), (2, .ref (K.2.2 + 41)), (3, .ref (K.2.2 + 42)), (4, .ref (K.2.2 + 43)), (5, .ref (K.2.2 + 45))]) C e_x6_10 dL_replaces_11 (Nat.le_of_ble_eq_true rfl) rfl rfl ?_
  refine J_aload_n (i := 0) (p := 1) C dL_replaces_13 rfl rfl rfl ?_
  refine J_aload (i := 4) (p := 5) C dL_replaces_14 rfl rfl ?_
  refine J_iload (i := 6) (p := 0) C dL_replaces_16 rfl rfl ?_
  refine Jl_cS (α := Int32 × LawS) (rest := []) (st9 := fun p_39 => [.int p_39.1]) C hR hX cs_RL_165 (kL_feeds hl rfl (Ok.ofbnd h)) rfl rfl (Nat.le_of_ble_eq_true rfl) (Nat.le_of_ble_eq_true rfl) (Nat.le_of_ble_eq_true rfl) ⟨(Nat.le_of_ble_eq_true rfl), (Nat.le_of_ble_eq_true rfl)⟩ dL_replaces_18 rfl (fun _ => rfl) (fun p_39 h => ?_)
  have h : Ok _ _ := h
  change J X K 15 False QQ 0 0 2064 (jl K p_39.2) 21 [(6, .int x6_10), (0, .ref (K.2.2 + 47)), (1, .ref (K.2.2 + 0)), (2, .ref (K.2.2 + 41)), (3, .ref (K.2.2 + 42)), (4, .ref (K.2.2 + 43)), (5, .ref (K.2.2 + 45))] [.int p_39.1]
  refine J_if_ne (t := 26) C dL_replaces_21 (by decide) rfl (fun c_40 => ?_) (fun c_40 => ?_)
  · have h := h.neg c_40
    refine J_aload_n (i := 1) (p := 2) C dL_replaces_26 rfl rfl rfl ?_
    refine Jl_cS (α := Int32 × LawS) (rest := []) (st9 := fun p_41 => [.int p_41.1]) C hR hX cs_RL_8 (kL_next hl  (Ok.ofbnd h)) rfl rfl (Nat.le_of_ble_eq_true rfl) (Nat.le_of_ble_eq_true rfl) (Nat.le_of_ble_eq_true rfl) ⟨(Nat.le_of_ble_eq_true rfl), (Nat.le_of_ble_eq_true rfl)⟩ dL_replaces_27 rfl (fun _ => rfl) (fun p_41 h => ?_)
    have h : Ok _ _ := h
    change J X K 15 False QQ 0 0 2064 (jl K p_41.2) 30 [(6, .int x6_10), (0, .ref (K.2.2 + 47)), (1, .ref (K.2.2 + 0)), (2, .ref (K.2.2 + 41)), (3, .ref (K.2.2 + 42)), (4, .ref (K.2.2 + 43)), (5, .ref (K.2.2 + 45))] [.int p_41.1]
    refine J_aload_n (i := 2) (p := 3) C dL_replaces_30 rfl rfl rfl ?_
    refine J_iconst (v := 0) C (by decide) dL_replaces_31 rfl ?_
    obtain ⟨g_42, h⟩ := Ok.ofgd h
    refine Jl_iald C rfl rfl g_42 dL_replaces_32 rfl ?_
    refine J_iconst (v := 1) C (by decide) dL_replaces_33 rfl ?_
    refine J_iadd C dL_replaces_34 rfl ?_
    obtain ⟨g_43, h⟩ := Ok.ofgd h
    refine J_irem C (nz_spec g_43) dL_replaces_35 rfl ?_
    obtain ⟨x7_11, e_x7_11, h⟩ := Ok.nm h
    refine J_istoreE (i := 7) (lv' := [(7, .int x7_11), (6, .int x6_10), (0, .ref (K.2.2 + 47)), (1, .ref (K.2.2 + 0)), (2, .ref (K.2.2 + 41)), (3, .ref (K.2.2 + 42)), (4, .ref (K.2.2 + 43)), (5, .ref (K.2.2 + 45))]) C e_x7_11 dL_replaces_36 (Nat.le_of_ble_eq_true rfl) rfl rfl ?_
    refine J_aload_n (i := 2) (p := 4) C dL_replaces_38 rfl rfl rfl ?_
    refine J_iconst (v := 0) C (by decide) dL_replaces_39 rfl ?_
    obtain ⟨g_44, h⟩ := Ok.ofgd h
    refine Jl_iald C rfl rfl g_44 dL_replaces_40 rfl ?_
    refine J_iload (i := 7) (p := 0) C dL_replaces_41 rfl rfl ?_
    refine J_aload_n (i := 1) (p := 3) C dL_replaces_43 rfl rfl rfl ?_
    refine Jl_cS (α := Int32 × LawS) (rest := [.int x7_11, .int (p_41.2.1 41 (Int32.toNatClampNeg (0 : Int32)))]) (st9 := fun p_45 => [.int p_45.1, .int x7_11, .int (p_41.2.1 41 (Int32.toNatClampNeg (0 : Int32)))]) C hR hX cs_RL_8 (kL_next hl  (Ok.ofbnd h)) rfl rfl (Nat.le_of_ble_eq_true rfl) (Nat.le_of_ble_eq_true rfl) (Nat.le_of_ble_eq_true rfl) ⟨(Nat.le_of_ble_eq_true rfl), (Nat.le_of_ble_eq_true rfl)⟩ dL_replaces_44 rfl (fun _ => rfl) (fun p_45 h => ?_)
    have h : Ok _ _ := h
    change J X K 15 False QQ 0 0 2064 (jl K p_45.2) 47 [(7, .int x7_11), (6, .int x6_10), (0, .ref (K.2.2 + 47)), (1, .ref (K.2.2 + 0)), (2, .ref (K.2.2 + 41)), (3, .ref (K.2.2 + 42)), (4, .ref (K.2.2 + 43)), (5, .ref (K.2.2 + 45))] [.int p_45.1, .int x7_11, .int (p_41.2.1 41 (Int32.toNatClampNeg (0 : Int32)))]
    refine J_bipush (v := 6) C (by decide) dL_replaces_47 rfl ?_
    refine J_irem C (by decide) dL_replaces_49 rfl ?_
    refine J_iadd C dL_replaces_50 rfl ?_
    refine J_mmin C hR mm_RL_169 (Nat.le_of_ble_eq_true rfl) (Nat.le_of_ble_eq_true rfl) (Nat.le_of_ble_eq_true rfl) (Nat.le_of_ble_eq_true rfl) dL_replaces_51 rfl ?_
    obtain ⟨x8_12, e_x8_12, h⟩ := Ok.nm h
    refine J_istoreE (i := 8) (lv' := [(8, .int x8_12), (7, .int x7_11), (6, .int x6_10), (0, .ref (K.2.2 + 47)), (1, .ref (K.2.2 + 0)), (2, .ref (K.2.2 + 41)), (3, .ref (K.2.2 + 42)), (4, .ref (K.2.2 + 43)), (5, .ref (K.2.2 + 45))]) C e_x8_12 dL_replaces_54 (Nat.le_of_ble_eq_true rfl) rfl rfl ?_
    refine J_aload_n (i := 0) (p := 3) C dL_replaces_56 rfl rfl rfl ?_
    refine J_iconst (v := 2) C (by decide) dL_replaces_57 rfl ?_
    refine J_iload (i := 7) (p := 1) C dL_replaces_58 rfl rfl ?_
    refine J_iload (i := 8) (p := 0) C dL_replaces_60 rfl rfl ?_
    refine J_iconst (v := 0) C (by decide) dL_replaces_62 rfl ?_
    refine Jl_cH (α := Int32 × LawS) (rest := []) (st9 := fun p_46 => [.int p_46.1]) C hR hX ch_RL_174 (kL_done hl  (Ok.ofbnd h)) rfl rfl (Nat.le_of_ble_eq_true rfl) (Nat.le_of_ble_eq_true rfl) (Nat.le_of_ble_eq_true rfl) ⟨(Nat.le_of_ble_eq_true rfl), (Nat.le_of_ble_eq_true rfl)⟩ dL_replaces_63 rfl (fun _ => rfl) (fun p_46 h => ?_)
    have h : Ok _ _ := h
    change J X K 15 False QQ 4 24 2064 (jl K p_46.2) 66 [(8, .int x8_12), (7, .int x7_11), (6, .int x6_10), (0, .ref (K.2.2 + 47)), (1, .ref (K.2.2 + 0)), (2, .ref (K.2.2 + 41)), (3, .ref (K.2.2 + 42)), (4, .ref (K.2.2 + 43)), (5, .ref (K.2.2 + 45))] [.int p_46.1]
    obtain ⟨x9_13, e_x9_13, h⟩ := Ok.nm h
    refine J_istoreE (i := 9) (lv' := [(9, .int x9_13), (8, .int x8_12), (7, .int x7_11), (6, .int x6_10), (0, .ref (K.2.2 + 47)), (1, .ref (K.2.2 + 0)), (2, .ref (K.2.2 + 41)), (3, .ref (K.2.2 + 42)), (4, .ref (K.2.2 + 43)), (5, .ref (K.2.2 + 45))]) C e_x9_13 dL_replaces_66 (Nat.le_of_ble_eq_true rfl) rfl rfl ?_
    refine J_iload (i := 9) (p := 0) C dL_replaces_68 rfl rfl ?_
    refine J_ldc (v := -1000003) C ci_RL_123 dL_replaces_70 rfl ?_
    refine J_icmp_ne (t := 82) C dL_replaces_72 (by decide) rfl (fun c_47 => ?_) (fun c_47 => ?_)
    · have h := h.neg c_47
      refine J_iload (i := 9) (p := 0) C dL_replaces_82 rfl rfl ?_
      refine J_aload_n (i := 2) (p := 6) C dL_replaces_84 rfl rfl rfl ?_
      refine J_iconst (v := 0) C (by decide) dL_replaces_85 rfl ?_
      obtain ⟨g_48, h⟩ := Ok.ofgd h
      refine Jl_iald C rfl rfl g_48 dL_replaces_86 rfl ?_
      refine J_iload (i := 6) (p := 3) C dL_replaces_87 rfl rfl ?_
      refine J_iadd C dL_replaces_89 rfl ?_
      refine J_iload (i := 8) (p := 1) C dL_replaces_90 rfl rfl ?_
      refine J_iload (i := 7) (p := 2) C dL_replaces_92 rfl rfl ?_
      refine J_isub C dL_replaces_94 rfl ?_
      refine J_isub C dL_replaces_95 rfl ?_
      refine J_icmp_eq (t := 101) C dL_replaces_96 (by decide) rfl (fun c_49 => ?_) (fun c_49 => ?_)
      · have h := h.pos c_49
        refine J_aload_n (i := 0) (p := 4) C dL_replaces_101 rfl rfl rfl ?_
        refine J_aload_n (i := 3) (p := 7) C dL_replaces_102 rfl rfl rfl ?_
        refine Jl_cS (α := LawS) (rest := []) (st9 := fun p_50 => []) C hR hX cs_RL_151 (kL_sees hl rfl (Ok.ofbnd h)) rfl rfl (Nat.le_of_ble_eq_true rfl) (Nat.le_of_ble_eq_true rfl) (Nat.le_of_ble_eq_true rfl) ⟨(Nat.le_of_ble_eq_true rfl), (Nat.le_of_ble_eq_true rfl)⟩ dL_replaces_103 rfl (fun _ => rfl) (fun p_50 h => ?_)
        have h : Ok _ _ := h
        change J X K 15 False QQ 4 24 2064 (jl K p_50) 106 [(9, .int x9_13), (8, .int x8_12), (7, .int x7_11), (6, .int x6_10), (0, .ref (K.2.2 + 47)), (1, .ref (K.2.2 + 0)), (2, .ref (K.2.2 + 41)), (3, .ref (K.2.2 + 42)), (4, .ref (K.2.2 + 43)), (5, .ref (K.2.2 + 45))] []
        refine J_iconst (v := 0) C (by decide) dL_replaces_106 rfl ?_
        obtain ⟨x10_14, e_x10_14, h⟩ := Ok.nm h
        refine J_istoreE (i := 10) (lv' := [(10, .int x10_14), (9, .int x9_13), (8, .int x8_12), (7, .int x7_11), (6, .int x6_10), (0, .ref (K.2.2 + 47)), (1, .ref (K.2.2 + 0)), (2, .ref (K.2.2 + 41)), (3, .ref (K.2.2 + 42)), (4, .ref (K.2.2 + 43)), (5, .ref (K.2.2 + 45))]) C e_x10_14 dL_replaces_107 (Nat.le_of_ble_eq_true rfl) rfl rfl ?_
        refine J.sub [7, 8, 9, 10, 4, 3, 2, 0] rfl ?_
        exact hj_109 p_50 x6_10 x7_11 x8_12 x10_14 h
      · have h := h.neg c_49
        refine J_iconst (v := 0) C (by decide) dL_replaces_99 rfl ?_
        rw [← hQQ]
        exact J_zret C hret rfl (Nat.le_of_ble_eq_true rfl) (Nat.le_of_ble_eq_true rfl) ⟨_, h.osome, rfl, rfl, rfl⟩ dL_replaces_100
    · have h := h.pos (Decidable.not_not.mp c_47)
      refine J_aload_n (i := 0) (p := 4) C dL_replaces_75 rfl rfl rfl ?_
      refine J_aload_n (i := 2) (p := 6) C dL_replaces_76 rfl rfl rfl ?_
      refine J_aload_n (i := 3) (p := 7) C dL_replaces_77 rfl rfl rfl ?_
      refine Jl_cS (α := Int32 × LawS) (rest := []) (st9 := fun p_51 => [.int p_51.1]) C hR hX cs_RL_178 (kL_isLike hl rfl (Ok.ofbnd h)) rfl rfl (Nat.le_of_ble_eq_true rfl) (Nat.le_of_ble_eq_true rfl) (Nat.le_of_ble_eq_true rfl) ⟨(Nat.le_of_ble_eq_true rfl), (Nat.le_of_ble_eq_true rfl)⟩ dL_replaces_78 rfl (fun _ => rfl) (fun p_51 h => ?_)
      have h : Ok _ _ := h
      change J X K 15 False QQ 4 24 2064 (jl K p_51.2) 81 [(9, .int x9_13), (8, .int x8_12), (7, .int x7_11), (6, .int x6_10), (0, .ref (K.2.2 + 47)), (1, .ref (K.2.2 + 0)), (2, .ref (K.2.2 + 41)), (3, .ref (K.2.2 + 42)), (4, .ref (K.2.2 + 43)), (5, .ref (K.2.2 + 45))] [.int p_51.1]
      obtain ⟨g_52, h⟩ := Ok.ofgd h
      rw [← hQQ]
      exact J_zret C hret (narB g_52).1 (Nat.le_of_ble_eq_true rfl) (Nat.le_of_ble_eq_true rfl) ⟨_, h.osome, rfl, rfl, rfl⟩ dL_replaces_81
  · have h := h.pos (Decidable.not_not.mp c_40)
    refine J_iconst (v := 0) C (by decide) dL_replaces_24 rfl ?_
    rw [← hQQ]
    exact J_zret C hret rfl (Nat.le_of_ble_eq_true rfl) (Nat.le_of_ble_eq_true rfl) ⟨_, h.osome, rfl, rfl, rfl⟩ dL_replaces_25
set_option maxHeartbeats 4000000 in
set_option maxRecDepth 100000 in
theorem kL_isWord {l : Launch} {K : JK} (hl : l.stackTraces = false) {τ : LawS} {l0 : Int32}  {Qf : Int32 → Prop} (h : Ok (fL_isWord l0) Qf) : Con l K yL_isWord (.code yL_isWord cL_isWord 1 (some .boolean) :: TB) 0 0 0 False [.int l0] 2064 (jl K τ) (PL Qf (fun p => some (.int p)) (fun p => jl K τ)) PN := by
  refine Con.enter (own := RL) hl (by decide) rfl (Nat.le_of_ble_eq_true rfl) ?_
  intro X hX hR C hret hnt
  generalize hQQ : jQ X K 0 0 (PL Qf (fun p => some (.int p)) (fun p => jl K τ)) PN False = QQ
  change J X K 1 False QQ 0 0 2064 (jl K τ) 0 [(0, .int l0)] []
  have hj_47 : (∀ (s0_47 : Int32), Ok (fL_isWord_j47 l0 s0_47) Qf → J X K 1 False QQ 0 0 2064 (jl K τ) 47 [] [.int s0_47]) := by
    intro s0_47 h
    unfold fL_isWord_j47 at h
    obtain ⟨g_1, h⟩ := Ok.ofgd h
    rw [← hQQ]
    exact J_zret C hret (narB g_1).1 (Nat.le_of_ble_eq_true rfl) (Nat.le_of_ble_eq_true rfl) ⟨_, h.osome, rfl, rfl, rfl⟩ dL_isWord_47
  have hj_42 : (Ok (fL_isWord_j42 l0) Qf → J X K 1 False QQ 0 0 2064 (jl K τ) 42 [] []) := by
    intro h
    unfold fL_isWord_j42 at h
    refine J_iconst (v := 1) C (by decide) dL_isWord_42 rfl ?_
    refine J_goto (t := 47) C dL_isWord_43 (by decide) ?_
    exact hj_47 (1 : Int32) h
  have hj_36 : (Ok (fL_isWord_j36 l0) Qf → J X K 1 False QQ 0 0 2064 (jl K τ) 36 [(0, .int l0)] []) := by
    intro h
    unfold fL_isWord_j36 at h
    refine J_iload_n (i := 0) (p := 0) C dL_isWord_36 rfl rfl rfl ?_
    refine J_bipush (v := 95) C (by decide) dL_isWord_37 rfl ?_
    refine J_icmp_ne (t := 46) C dL_isWord_39 (by decide) rfl (fun c_2 => ?_) (fun c_2 => ?_)
    · have h := h.neg c_2
      refine J_iconst (v := 0) C (by decide) dL_isWord_46 rfl ?_
      refine J.sub [] rfl ?_
      exact hj_47 (0 : Int32) h
    · have h := h.pos (Decidable.not_not.mp c_2)
      refine J.sub [] rfl ?_
      exact hj_42  h
  have hj_24 : (Ok (fL_isWord_j24 l0) Qf → J X K 1 False QQ 0 0 2064 (jl K τ) 24 [(0, .int l0)] []) := by
    intro h
    unfold fL_isWord_j24 at h
    refine J_iload_n (i := 0) (p := 0) C dL_isWord_24 rfl rfl rfl ?_
    refine J_bipush (v := 48) C (by decide) dL_isWord_25 rfl ?_
    refine J_icmp_lt (t := 36) C dL_isWord_27 (by decide) rfl (fun c_3 => ?_) (fun c_3 => ?_)
    · have h := h.pos c_3
      exact hj_36  h
    · have h := h.neg c_3
      refine J_iload_n (i := 0) (p := 0) C dL_isWord_30 rfl rfl rfl ?_
      refine J_bipush (v := 57) C (by decide) dL_isWord_31 rfl ?_
      refine J_icmp_le (t := 42) C dL_isWord_33 (by decide) rfl (fun c_4 => ?_) (fun c_4 => ?_)
      · have h := h.pos c_4
        refine J.sub [] rfl ?_
        exact hj_42  h
      · have h := h.neg c_4
        exact hj_36  h
  have hj_12 : (Ok (fL_isWord_j12 l0) Qf → J X K 1 False QQ 0 0 2064 (jl K τ) 12 [(0, .int l0)] []) := by
    intro h
    unfold fL_isWord_j12 at h
    refine J_iload_n (i := 0) (p := 0) C dL_isWord_12 rfl rfl rfl ?_
    refine J_bipush (v := 65) C (by decide) dL_isWord_13 rfl ?_
    refine J_icmp_lt (t := 24) C dL_isWord_15 (by decide) rfl (fun c_5 => ?_) (fun c_5 => ?_)
    · have h := h.pos c_5
      exact hj_24  h
    · have h := h.neg c_5
      refine J_iload_n (i := 0) (p := 0) C dL_isWord_18 rfl rfl rfl ?_
      refine J_bipush (v := 90) C (by decide) dL_isWord_19 rfl ?_
      refine J_icmp_le (t := 42) C dL_isWord_21 (by decide) rfl (fun c_6 => ?_) (fun c_6 => ?_)
      · have h := h.pos c_6
        refine J.sub [] rfl ?_
        exact hj_42  h
      · have h := h.neg c_6
        exact hj_24  h
  unfold fL_isWord at h
  refine J_iload_n (i := 0) (p := 0) C dL_isWord_0 rfl rfl rfl ?_
  refine J_bipush (v := 97) C (by decide) dL_isWord_1 rfl ?_
  refine J_icmp_lt (t := 12) C dL_isWord_3 (by decide) rfl (fun c_7 => ?_) (fun c_7 => ?_)
  · have h := h.pos c_7
    exact hj_12  h
  · have h := h.neg c_7
    refine J_iload_n (i := 0) (p := 0) C dL_isWord_6 rfl rfl rfl ?_
    refine J_bipush (v := 122) C (by decide) dL_isWord_7 rfl ?_
    refine J_icmp_le (t := 42) C dL_isWord_9 (by decide) rfl (fun c_8 => ?_) (fun c_8 => ?_)
    · have h := h.pos c_8
      refine J.sub [] rfl ?_
      exact hj_42  h
    · have h := h.neg c_8
      exact hj_12  h
set_option maxHeartbeats 4000000 in
set_option maxRecDepth 100000 in
theorem kL_isFind {l : Launch} {K : JK} (hl : l.stackTraces = false) {τ : LawS} {a0 : Nat} {l1 : Int32} {l3 : Int32} {l4 : Int32} (h_a0 : kl a0 = 12) {Qf : Int32 → Prop} (h : Ok (fL_isFind τ a0 l1 l3 l4) Qf) : Con l K yL_isFind (.code yL_isFind cL_isFind 6 (some .boolean) :: TB) 1 0 0 False [.ref (K.2.2 + a0), .int l1, .ref (K.2.2 + 44), .int l3, .int l4] 2064 (jl K τ) (PL Qf (fun p => some (.int p)) (fun p => jl K τ)) PN := by
  refine Con.enter (own := RL) hl (by decide) rfl (Nat.le_of_ble_eq_true rfl) ?_
  intro X hX hR C hret hnt
  generalize hQQ : jQ X K 0 0 (PL Qf (fun p => some (.int p)) (fun p => jl K τ)) PN False = QQ
  change J X K 6 False QQ 0 0 2064 (jl K τ) 0 [(0, .ref (K.2.2 + a0)), (1, .int l1), (2, .ref (K.2.2 + 44)), (3, .int l3), (4, .int l4)] []
  have hj_98 : (∀ (s0_98 : Int32), Ok (fL_isFind_j98 a0 l1 l3 l4 τ s0_98) Qf → J X K 6 False QQ 0 0 2064 (jl K τ) 98 [] [.int s0_98]) := by
    intro s0_98 h
    unfold fL_isFind_j98 at h
    obtain ⟨g_1, h⟩ := Ok.ofgd h
    rw [← hQQ]
    exact J_zret C hret (narB g_1).1 (Nat.le_of_ble_eq_true rfl) (Nat.le_of_ble_eq_true rfl) ⟨_, h.osome, rfl, rfl, rfl⟩ dL_isFind_98
  have hj_97 : (Ok (fL_isFind_j97 a0 l1 l3 l4 τ) Qf → J X K 6 False QQ 0 0 2064 (jl K τ) 97 [] []) := by
    intro h
    unfold fL_isFind_j97 at h
    refine J_iconst (v := 0) C (by decide) dL_isFind_97 rfl ?_
    exact hj_98 (0 : Int32) h
  have hj_93 : (Ok (fL_isFind_j93 a0 l1 l3 l4 τ) Qf → J X K 6 False QQ 0 0 2064 (jl K τ) 93 [] []) := by
    intro h
    unfold fL_isFind_j93 at h
    refine J_iconst (v := 1) C (by decide) dL_isFind_93 rfl ?_
    refine J_goto (t := 98) C dL_isFind_94 (by decide) ?_
    exact hj_98 (1 : Int32) h
  have hj_69 : (Ok (fL_isFind_j69 a0 l1 l3 l4 τ) Qf → J X K 6 False QQ 0 0 2064 (jl K τ) 69 [(0, .ref (K.2.2 + a0)), (1, .int l1), (3, .int l3)] []) := by
    intro h
    unfold fL_isFind_j69 at h
    refine J_iload_n (i := 1) (p := 1) C dL_isFind_69 rfl rfl rfl ?_
    refine J_iload_n (i := 3) (p := 2) C dL_isFind_70 rfl rfl rfl ?_
    refine J_iadd C dL_isFind_71 rfl ?_
    refine J_aload_n (i := 0) (p := 0) C dL_isFind_72 rfl rfl rfl ?_
    refine J_iconst (v := 0) C (by decide) dL_isFind_73 rfl ?_
    obtain ⟨g_2, h⟩ := Ok.ofgd h
    refine Jl_iald C h_a0 rfl g_2 dL_isFind_74 rfl ?_
    refine J_icmp_eq (t := 93) C dL_isFind_75 (by decide) rfl (fun c_3 => ?_) (fun c_3 => ?_)
    · have h := h.pos c_3
      refine J.sub [] rfl ?_
      exact hj_93  h
    · have h := h.neg c_3
      refine J_aload_n (i := 0) (p := 0) C dL_isFind_78 rfl rfl rfl ?_
      refine J_sipush (v := 400) C (by decide) dL_isFind_79 rfl ?_
      refine J_iload_n (i := 1) (p := 1) C dL_isFind_82 rfl rfl rfl ?_
      refine J_iadd C dL_isFind_83 rfl ?_
      refine J_iload_n (i := 3) (p := 2) C dL_isFind_84 rfl rfl rfl ?_
      refine J_iadd C dL_isFind_85 rfl ?_
      obtain ⟨g_4, h⟩ := Ok.ofgd h
      refine Jl_iald C h_a0 rfl g_4 dL_isFind_86 rfl ?_
      refine Jl_cS (α := Int32) (rest := []) (st9 := fun p_5 => [.int p_5]) C hR hX cs_RL_182 (kL_isWord hl  (Ok.ofbnd h)) rfl rfl (Nat.le_of_ble_eq_true rfl) (Nat.le_of_ble_eq_true rfl) (Nat.le_of_ble_eq_true rfl) ⟨(Nat.le_of_ble_eq_true rfl), (Nat.le_of_ble_eq_true rfl)⟩ dL_isFind_87 rfl (fun _ => rfl) (fun p_5 h => ?_)
      have h : Ok _ _ := h
      change J X K 6 False QQ 0 0 2064 (jl K τ) 90 [(0, .ref (K.2.2 + a0)), (1, .int l1), (3, .int l3)] [.int p_5]
      refine J_if_ne (t := 97) C dL_isFind_90 (by decide) rfl (fun c_6 => ?_) (fun c_6 => ?_)
      · have h := h.neg c_6
        refine J.sub [] rfl ?_
        exact hj_97  h
      · have h := h.pos (Decidable.not_not.mp c_6)
        refine J.sub [] rfl ?_
        exact hj_93  h
  have hj_14 : (∀ (l5_14 : Int32), Ok (fL_isFind_j14 a0 l1 l3 l4 τ l5_14) Qf → J X K 6 False QQ 0 0 2064 (jl K τ) 14 [(0, .ref (K.2.2 + a0)), (1, .int l1), (2, .ref (K.2.2 + 44)), (3, .int l3), (4, .int l4), (5, .int l5_14)] []) := by
    intro l5_14 h
    unfold fL_isFind_j14 at h
    refine loop_gen (S := Int32) (P := fun s_14 => J X K 6 False QQ 0 0 2064 (jl K τ) 14 [(0, .ref (K.2.2 + a0)), (1, .int l1), (2, .ref (K.2.2 + 44)), (3, .int l3), (4, .int l4), (5, .int s_14)] []) ?_ FU l5_14 (Ok.ofbnd h)
    intro B_14 hB_14 hE_14 s_14 h
    generalize s_14 = l5_14 at h ⊢
    have h : Ok (fL_isFind_b14 a0 l1 l3 l4 τ l5_14) B_14 := h
    change J X K 6 False QQ 0 0 2064 (jl K τ) 14 [(0, .ref (K.2.2 + a0)), (1, .int l1), (2, .ref (K.2.2 + 44)), (3, .int l3), (4, .int l4), (5, .int l5_14)] []
    unfold fL_isFind_b14 at h
    refine J_iload (i := 5) (p := 5) C dL_isFind_14 rfl rfl ?_
    refine J_iload_n (i := 3) (p := 3) C dL_isFind_16 rfl rfl rfl ?_
    refine J_icmp_ge (t := 45) C dL_isFind_17 (by decide) rfl (fun c_7 => ?_) (fun c_7 => ?_)
    · have h := h.pos c_7
      have h := hE_14 (Sum.inl ()) h.osome
      try dsimp only at h
      refine J_iload (i := 4) (p := 4) C dL_isFind_45 rfl rfl ?_
      refine J_if_eq (t := 93) C dL_isFind_47 (by decide) rfl (fun c_8 => ?_) (fun c_8 => ?_)
      · have h := h.pos c_8
        refine J.sub [] rfl ?_
        exact hj_93  h
      · have h := h.neg c_8
        refine J_iload_n (i := 1) (p := 1) C dL_isFind_50 rfl rfl rfl ?_
        refine J_if_eq (t := 69) C dL_isFind_51 (by decide) rfl (fun c_9 => ?_) (fun c_9 => ?_)
        · have h := h.pos c_9
          refine J.sub [0, 1, 3] rfl ?_
          exact hj_69  h
        · have h := h.neg c_9
          refine J_aload_n (i := 0) (p := 0) C dL_isFind_54 rfl rfl rfl ?_
          refine J_sipush (v := 400) C (by decide) dL_isFind_55 rfl ?_
          refine J_iload_n (i := 1) (p := 1) C dL_isFind_58 rfl rfl rfl ?_
          refine J_iadd C dL_isFind_59 rfl ?_
          refine J_iconst (v := 1) C (by decide) dL_isFind_60 rfl ?_
          refine J_isub C dL_isFind_61 rfl ?_
          obtain ⟨g_10, h⟩ := Ok.ofgd h
          refine Jl_iald C h_a0 rfl g_10 dL_isFind_62 rfl ?_
          refine Jl_cS (α := Int32) (rest := []) (st9 := fun p_11 => [.int p_11]) C hR hX cs_RL_182 (kL_isWord hl  (Ok.ofbnd h)) rfl rfl (Nat.le_of_ble_eq_true rfl) (Nat.le_of_ble_eq_true rfl) (Nat.le_of_ble_eq_true rfl) ⟨(Nat.le_of_ble_eq_true rfl), (Nat.le_of_ble_eq_true rfl)⟩ dL_isFind_63 rfl (fun _ => rfl) (fun p_11 h => ?_)
          have h : Ok _ _ := h
          change J X K 6 False QQ 0 0 2064 (jl K τ) 66 [(0, .ref (K.2.2 + a0)), (1, .int l1), (2, .ref (K.2.2 + 44)), (3, .int l3), (4, .int l4), (5, .int l5_14)] [.int p_11]
          refine J_if_ne (t := 97) C dL_isFind_66 (by decide) rfl (fun c_12 => ?_) (fun c_12 => ?_)
          · have h := h.neg c_12
            refine J.sub [] rfl ?_
            exact hj_97  h
          · have h := h.pos (Decidable.not_not.mp c_12)
            refine J.sub [0, 1, 3] rfl ?_
            exact hj_69  h
    · have h := h.neg c_7
      refine J_aload_n (i := 0) (p := 0) C dL_isFind_20 rfl rfl rfl ?_
      refine J_sipush (v := 400) C (by decide) dL_isFind_21 rfl ?_
      refine J_iload_n (i := 1) (p := 1) C dL_isFind_24 rfl rfl rfl ?_
      refine J_iadd C dL_isFind_25 rfl ?_
      refine J_iload (i := 5) (p := 5) C dL_isFind_26 rfl rfl ?_
      refine J_iadd C dL_isFind_28 rfl ?_
      obtain ⟨g_13, h⟩ := Ok.ofgd h
      refine Jl_iald C h_a0 rfl g_13 dL_isFind_29 rfl ?_
      refine J_aload_n (i := 2) (p := 2) C dL_isFind_30 rfl rfl rfl ?_
      refine J_iload (i := 5) (p := 5) C dL_isFind_31 rfl rfl ?_
      obtain ⟨g_14, h⟩ := Ok.ofgd h
      refine Jl_iald C rfl rfl g_14 dL_isFind_33 rfl ?_
      refine J_icmp_eq (t := 39) C dL_isFind_34 (by decide) rfl (fun c_15 => ?_) (fun c_15 => ?_)
      · have h := h.pos c_15
        obtain ⟨x5_1, e_x5_1, h⟩ := Ok.nm h
        refine J_iincE (i := 5) (p := 5) (lv' := [(5, .int x5_1), (0, .ref (K.2.2 + a0)), (1, .int l1), (2, .ref (K.2.2 + 44)), (3, .int l3), (4, .int l4)]) C e_x5_1 dL_isFind_39 rfl (by decide) (Nat.le_of_ble_eq_true rfl) rfl rfl ?_
        refine J_goto (t := 14) C dL_isFind_42 (by decide) ?_
        refine J.sub [1, 2, 3, 4, 5, 0] rfl ?_
        exact hB_14 x5_1 h.osome
      · have h := h.neg c_15
        have h := hE_14 (Sum.inr ()) h.osome
        try dsimp only at h
        refine J_iconst (v := 0) C (by decide) dL_isFind_37 rfl ?_
        rw [← hQQ]
        exact J_zret C hret rfl (Nat.le_of_ble_eq_true rfl) (Nat.le_of_ble_eq_true rfl) ⟨_, h.osome, rfl, rfl, rfl⟩ dL_isFind_38
  unfold fL_isFind at h
  refine J_iload_n (i := 1) (p := 1) C dL_isFind_0 rfl rfl rfl ?_
  refine J_iload_n (i := 3) (p := 3) C dL_isFind_1 rfl rfl rfl ?_
  refine J_iadd C dL_isFind_2 rfl ?_
  refine J_aload_n (i := 0) (p := 0) C dL_isFind_3 rfl rfl rfl ?_
  refine J_iconst (v := 0) C (by decide) dL_isFind_4 rfl ?_
  obtain ⟨g_21, h⟩ := Ok.ofgd h
  refine Jl_iald C h_a0 rfl g_21 dL_isFind_5 rfl ?_
  refine J_icmp_le (t := 11) C dL_isFind_6 (by decide) rfl (fun c_22 => ?_) (fun c_22 => ?_)
  · have h := h.pos c_22
    refine J_iconst (v := 0) C (by decide) dL_isFind_11 rfl ?_
    obtain ⟨x5_2, e_x5_2, h⟩ := Ok.nm h
    refine J_istoreE (i := 5) (lv' := [(5, .int x5_2), (0, .ref (K.2.2 + a0)), (1, .int l1), (2, .ref (K.2.2 + 44)), (3, .int l3), (4, .int l4)]) C e_x5_2 dL_isFind_12 (Nat.le_of_ble_eq_true rfl) rfl rfl ?_
    refine J.sub [1, 2, 3, 4, 5, 0] rfl ?_
    exact hj_14 x5_2 h
  · have h := h.neg c_22
    refine J_iconst (v := 0) C (by decide) dL_isFind_9 rfl ?_
    rw [← hQQ]
    exact J_zret C hret rfl (Nat.le_of_ble_eq_true rfl) (Nat.le_of_ble_eq_true rfl) ⟨_, h.osome, rfl, rfl, rfl⟩ dL_isFind_10
