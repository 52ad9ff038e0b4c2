set_option maxHeartbeats 4000000 in
set_option maxRecDepth 100000 in
theorem kL_records {l : Launch} {K : JK} (hl : l.stackTraces = false) {τ : LawS}   {Qf : Int32 × LawS → Prop} (h : Ok (fL_records τ) Qf) : Con l K yL_records (.code yL_records cL_records 13 (some .boolean) :: TB) 10 44 264 False [.ref (K.2.2 + 47), .ref (K.2.2 + 0), .ref (K.2.2 + 1), .ref (K.2.2 + 42), .ref (K.2.2 + 43)] 2064 (jl K τ) (PL Qf (fun p => some (.int p.1)) (fun p => jl K p.2)) PN := by
  refine Con.enter (own := RL) hl (by decide) rfl (Nat.le_of_ble_eq_true rfl) ?_
  intro X hX hR C hret hnt
  generalize hQQ : jQ X K 44 264 (PL Qf (fun p => some (.int p.1)) (fun p => jl K p.2)) PN False = QQ
  change J X K 13 False QQ 0 0 2064 (jl K τ) 0 [(0, .ref (K.2.2 + 47)), (1, .ref (K.2.2 + 0)), (2, .ref (K.2.2 + 1)), (3, .ref (K.2.2 + 42)), (4, .ref (K.2.2 + 43))] []
  have hj_445 : (∀ (τ_445 : LawS) (s0_445 : Int32), Ok (fL_records_j445 τ_445 s0_445) Qf → J X K 13 False QQ 44 264 2064 (jl K τ_445) 445 [] [.int s0_445]) := by
    intro τ_445 s0_445 h
    unfold fL_records_j445 at h
    obtain ⟨g_1, h⟩ := Ok.ofgd h
    rw [← hQQ]
    exact J_zret C hret (narB g_1).1 (Nat.le_of_ble_eq_true rfl) (Nat.le_of_ble_eq_true rfl) ⟨_, h.osome, rfl, rfl, rfl⟩ dL_records_445
  have hj_444 : (∀ (τ_444 : LawS), Ok (fL_records_j444 τ_444) Qf → J X K 13 False QQ 44 264 2064 (jl K τ_444) 444 [] []) := by
    intro τ_444 h
    unfold fL_records_j444 at h
    refine J_iconst (v := 0) C (by decide) dL_records_444 rfl ?_
    exact hj_445 τ_444 (0 : Int32) h
  have hj_356 : (∀ (τ_356 : LawS) (s0_356 : Int32), Ok (fL_records_j356 τ_356 s0_356) Qf → J X K 13 False QQ 36 216 2064 (jl K τ_356) 356 [] [.int s0_356]) := by
    intro τ_356 s0_356 h
    unfold fL_records_j356 at h
    obtain ⟨g_2, h⟩ := Ok.ofgd h
    rw [← hQQ]
    exact J_zret C hret (narB g_2).1 (Nat.le_of_ble_eq_true rfl) (Nat.le_of_ble_eq_true rfl) ⟨_, h.osome, rfl, rfl, rfl⟩ dL_records_356
  have hj_355 : (∀ (τ_355 : LawS), Ok (fL_records_j355 τ_355) Qf → J X K 13 False QQ 36 216 2064 (jl K τ_355) 355 [] []) := by
    intro τ_355 h
    unfold fL_records_j355 at h
    refine J_iconst (v := 0) C (by decide) dL_records_355 rfl ?_
    exact hj_356 τ_355 (0 : Int32) h
  have hj_306 : (∀ (τ_306 : LawS) (l6_306 : Int32) (l10_306 : Int32) (s0_306 : Int32), Ok (fL_records_j306 τ_306 l6_306 l10_306 s0_306) Qf → J X K 13 False QQ 32 192 2064 (jl K τ_306) 306 [(0, .ref (K.2.2 + 47)), (2, .ref (K.2.2 + 1)), (3, .ref (K.2.2 + 42)), (6, .int l6_306), (10, .int l10_306)] [.int s0_306]) := by
    intro τ_306 l6_306 l10_306 s0_306 h
    unfold fL_records_j306 at h
    obtain ⟨x7_1, e_x7_1, h⟩ := Ok.nm h
    refine J_istoreE (i := 7) (lv' := [(7, .int x7_1), (0, .ref (K.2.2 + 47)), (2, .ref (K.2.2 + 1)), (3, .ref (K.2.2 + 42)), (6, .int l6_306), (10, .int l10_306)]) C e_x7_1 dL_records_306 (Nat.le_of_ble_eq_true rfl) rfl rfl ?_
    refine J_aload_n (i := 0) (p := 1) C dL_records_308 rfl rfl rfl ?_
    refine J_bipush (v := 24) C (by decide) dL_records_309 rfl ?_
    refine J_iconst (v := 1) C (by decide) dL_records_311 rfl ?_
    refine J_iconst (v := 0) C (by decide) dL_records_312 rfl ?_
    refine J_iconst (v := 0) C (by decide) dL_records_313 rfl ?_
    refine Jl_cH (α := Int32 × LawS) (rest := []) (st9 := fun p_3 => [.int p_3.1]) C hR hX ch_RL_174 (kL_done hl  (Ok.ofbnd h)) rfl rfl (Nat.le_of_ble_eq_true rfl) (Nat.le_of_ble_eq_true rfl) (Nat.le_of_ble_eq_true rfl) ⟨(Nat.le_of_ble_eq_true rfl), (Nat.le_of_ble_eq_true rfl)⟩ dL_records_314 rfl (fun _ => rfl) (fun p_3 h => ?_)
    have h : Ok _ _ := h
    change J X K 13 False QQ 36 216 2064 (jl K p_3.2) 317 [(7, .int x7_1), (0, .ref (K.2.2 + 47)), (2, .ref (K.2.2 + 1)), (3, .ref (K.2.2 + 42)), (6, .int l6_306), (10, .int l10_306)] [.int p_3.1]
    obtain ⟨x11_2, e_x11_2, h⟩ := Ok.nm h
    refine J_istoreE (i := 11) (lv' := [(11, .int x11_2), (7, .int x7_1), (0, .ref (K.2.2 + 47)), (2, .ref (K.2.2 + 1)), (3, .ref (K.2.2 + 42)), (6, .int l6_306), (10, .int l10_306)]) C e_x11_2 dL_records_317 (Nat.le_of_ble_eq_true rfl) rfl rfl ?_
    refine J_iload (i := 11) (p := 0) C dL_records_319 rfl rfl ?_
    refine J_if_ne (t := 357) C dL_records_321 (by decide) rfl (fun c_4 => ?_) (fun c_4 => ?_)
    · have h := h.neg c_4
      refine J_iload (i := 7) (p := 1) C dL_records_357 rfl rfl ?_
      refine J_if_eq (t := 444) C dL_records_359 (by decide) rfl (fun c_5 => ?_) (fun c_5 => ?_)
      · have h := h.pos c_5
        refine J.widen (k' := 44) (sl' := 264) (Nat.le_of_ble_eq_true rfl) (Nat.le_of_ble_eq_true rfl) ?_
        refine J.sub [] rfl ?_
        exact hj_444 p_3.2 h
      · have h := h.neg c_5
        refine J_iload (i := 11) (p := 0) C dL_records_362 rfl rfl ?_
        refine J_iload (i := 10) (p := 6) C dL_records_364 rfl rfl ?_
        refine J_icmp_ne (t := 444) C dL_records_366 (by decide) rfl (fun c_6 => ?_) (fun c_6 => ?_)
        · have h := h.neg c_6
          refine J.widen (k' := 44) (sl' := 264) (Nat.le_of_ble_eq_true rfl) (Nat.le_of_ble_eq_true rfl) ?_
          refine J.sub [] rfl ?_
          exact hj_444 p_3.2 h
        · have h := h.pos (Decidable.not_not.mp c_6)
          refine J_aload_n (i := 0) (p := 2) C dL_records_369 rfl rfl rfl ?_
          refine J_aload_n (i := 2) (p := 3) C dL_records_370 rfl rfl rfl ?_
          refine J_iconst (v := 1) C (by decide) dL_records_371 rfl ?_
          refine Jl_aald (r2 := 3) C rfl (by decide) dL_records_372 rfl ?_
          refine J_aload_n (i := 3) (p := 4) C dL_records_373 rfl rfl rfl ?_
          refine Jl_cS (α := Int32 × LawS) (rest := []) (st9 := fun p_7 => [.int p_7.1]) C hR hX cs_RL_178 (kL_isLike hl rfl (Ok.ofbnd h)) rfl rfl (Nat.le_of_ble_eq_true rfl) (Nat.le_of_ble_eq_true rfl) (Nat.le_of_ble_eq_true rfl) ⟨(Nat.le_of_ble_eq_true rfl), (Nat.le_of_ble_eq_true rfl)⟩ dL_records_374 rfl (fun _ => rfl) (fun p_7 h => ?_)
          have h : Ok _ _ := h
          change J X K 13 False QQ 36 216 2064 (jl K p_7.2) 377 [(11, .int x11_2), (7, .int x7_1), (0, .ref (K.2.2 + 47)), (2, .ref (K.2.2 + 1)), (3, .ref (K.2.2 + 42)), (6, .int l6_306), (10, .int l10_306)] [.int p_7.1]
          refine J_if_eq (t := 444) C dL_records_377 (by decide) rfl (fun c_8 => ?_) (fun c_8 => ?_)
          · have h := h.pos c_8
            refine J.widen (k' := 44) (sl' := 264) (Nat.le_of_ble_eq_true rfl) (Nat.le_of_ble_eq_true rfl) ?_
            refine J.sub [] rfl ?_
            exact hj_444 p_7.2 h
          · have h := h.neg c_8
            refine J_aload_n (i := 0) (p := 2) C dL_records_380 rfl rfl rfl ?_
            refine J_iconst (v := 1) C (by decide) dL_records_381 rfl ?_
            refine Jl_cV (α := Int32 × Sto) (rest := []) (st9 := fun p_9 => [.int p_9.1]) (wd := fun p_9 => p_9.2) C hR hX cv_RL_189 (k11_acts_n hl (Ok.ofnox h) (fun c hc => hc)) rfl rfl (Nat.le_of_ble_eq_true rfl) (Nat.le_of_ble_eq_true rfl) (Nat.le_of_ble_eq_true rfl) ⟨(Nat.le_of_ble_eq_true rfl), (Nat.le_of_ble_eq_true rfl)⟩ dL_records_382 rfl (fun E n9 w9 hx => hx.elim) (fun _ => rfl) (fun p_9 h => ?_)
            have h : Ok _ _ := h
            change J X K 13 False QQ 36 216 2064 (jl K (p_7.2.1, p_9.2)) 385 [(11, .int x11_2), (7, .int x7_1), (0, .ref (K.2.2 + 47)), (2, .ref (K.2.2 + 1)), (3, .ref (K.2.2 + 42)), (6, .int l6_306), (10, .int l10_306)] [.int p_9.1]
            refine J_iload (i := 6) (p := 5) C dL_records_385 rfl rfl ?_
            refine J_iconst (v := 1) C (by decide) dL_records_387 rfl ?_
            refine J_iadd C dL_records_388 rfl ?_
            refine J_icmp_ne (t := 444) C dL_records_389 (by decide) rfl (fun c_10 => ?_) (fun c_10 => ?_)
            · have h := h.neg c_10
              refine J.widen (k' := 44) (sl' := 264) (Nat.le_of_ble_eq_true rfl) (Nat.le_of_ble_eq_true rfl) ?_
              refine J.sub [] rfl ?_
              exact hj_444 (p_7.2.1, p_9.2) h
            · have h := h.pos (Decidable.not_not.mp c_10)
              refine J_aload_n (i := 0) (p := 2) C dL_records_392 rfl rfl rfl ?_
              refine J_bipush (v := 10) C (by decide) dL_records_393 rfl ?_
              refine J_iconst (v := 1) C (by decide) dL_records_395 rfl ?_
              refine J_iconst (v := 0) C (by decide) dL_records_396 rfl ?_
              refine J_iconst (v := 0) C (by decide) dL_records_397 rfl ?_
              refine Jl_cH (α := Int32 × LawS) (rest := []) (st9 := fun p_11 => [.int p_11.1]) C hR hX ch_RL_174 (kL_done hl  (Ok.ofbnd h)) rfl rfl (Nat.le_of_ble_eq_true rfl) (Nat.le_of_ble_eq_true rfl) (Nat.le_of_ble_eq_true rfl) ⟨(Nat.le_of_ble_eq_true rfl), (Nat.le_of_ble_eq_true rfl)⟩ dL_records_398 rfl (fun _ => rfl) (fun p_11 h => ?_)
              have h : Ok _ _ := h
              change J X K 13 False QQ 40 240 2064 (jl K p_11.2) 401 [(11, .int x11_2), (7, .int x7_1), (0, .ref (K.2.2 + 47)), (2, .ref (K.2.2 + 1)), (3, .ref (K.2.2 + 42)), (6, .int l6_306), (10, .int l10_306)] [.int p_11.1]
              refine J_iconst (v := 1) C (by decide) dL_records_401 rfl ?_
              refine J_icmp_ne (t := 444) C dL_records_402 (by decide) rfl (fun c_12 => ?_) (fun c_12 => ?_)
              · have h := h.neg c_12
                refine J.widen (k' := 44) (sl' := 264) (Nat.le_of_ble_eq_true rfl) (Nat.le_of_ble_eq_true rfl) ?_
                refine J.sub [] rfl ?_
                exact hj_444 p_11.2 h
              · have h := h.pos (Decidable.not_not.mp c_12)
                refine J_aload_n (i := 0) (p := 2) C dL_records_405 rfl rfl rfl ?_
                refine J_aload_n (i := 2) (p := 3) C dL_records_406 rfl rfl rfl ?_
                refine J_iconst (v := 0) C (by decide) dL_records_407 rfl ?_
                refine Jl_aald (r2 := 2) C rfl (by decide) dL_records_408 rfl ?_
                refine J_aload_n (i := 3) (p := 4) C dL_records_409 rfl rfl rfl ?_
                refine Jl_cS (α := Int32 × LawS) (rest := []) (st9 := fun p_13 => [.int p_13.1]) C hR hX cs_RL_178 (kL_isLike hl rfl (Ok.ofbnd h)) rfl rfl (Nat.le_of_ble_eq_true rfl) (Nat.le_of_ble_eq_true rfl) (Nat.le_of_ble_eq_true rfl) ⟨(Nat.le_of_ble_eq_true rfl), (Nat.le_of_ble_eq_true rfl)⟩ dL_records_410 rfl (fun _ => rfl) (fun p_13 h => ?_)
                have h : Ok _ _ := h
                change J X K 13 False QQ 40 240 2064 (jl K p_13.2) 413 [(11, .int x11_2), (7, .int x7_1), (0, .ref (K.2.2 + 47)), (2, .ref (K.2.2 + 1)), (3, .ref (K.2.2 + 42)), (6, .int l6_306), (10, .int l10_306)] [.int p_13.1]
                refine J_if_eq (t := 444) C dL_records_413 (by decide) rfl (fun c_14 => ?_) (fun c_14 => ?_)
                · have h := h.pos c_14
                  refine J.widen (k' := 44) (sl' := 264) (Nat.le_of_ble_eq_true rfl) (Nat.le_of_ble_eq_true rfl) ?_
                  refine J.sub [] rfl ?_
                  exact hj_444 p_13.2 h
                · have h := h.neg c_14
                  refine J_aload_n (i := 0) (p := 2) C dL_records_416 rfl rfl rfl ?_
                  refine J_bipush (v := 11) C (by decide) dL_records_417 rfl ?_
                  refine J_iconst (v := 1) C (by decide) dL_records_419 rfl ?_
                  refine J_iconst (v := 0) C (by decide) dL_records_420 rfl ?_
                  refine J_iconst (v := 0) C (by decide) dL_records_421 rfl ?_
                  refine Jl_cH (α := Int32 × LawS) (rest := []) (st9 := fun p_15 => [.int p_15.1]) C hR hX ch_RL_174 (kL_done hl  (Ok.ofbnd h)) rfl rfl (Nat.le_of_ble_eq_true rfl) (Nat.le_of_ble_eq_true rfl) (Nat.le_of_ble_eq_true rfl) ⟨(Nat.le_of_ble_eq_true rfl), (Nat.le_of_ble_eq_true rfl)⟩ dL_records_422 rfl (fun _ => rfl) (fun p_15 h => ?_)
                  have h : Ok _ _ := h
                  change J X K 13 False QQ 44 264 2064 (jl K p_15.2) 425 [(11, .int x11_2), (7, .int x7_1), (0, .ref (K.2.2 + 47)), (2, .ref (K.2.2 + 1)), (3, .ref (K.2.2 + 42)), (6, .int l6_306), (10, .int l10_306)] [.int p_15.1]
                  refine J_iconst (v := 1) C (by decide) dL_records_425 rfl ?_
                  refine J_icmp_ne (t := 444) C dL_records_426 (by decide) rfl (fun c_16 => ?_) (fun c_16 => ?_)
                  · have h := h.neg c_16
                    refine J.sub [] rfl ?_
                    exact hj_444 p_15.2 h
                  · have h := h.pos (Decidable.not_not.mp c_16)
                    refine J_aload_n (i := 0) (p := 2) C dL_records_429 rfl rfl rfl ?_
                    refine J_aload_n (i := 2) (p := 3) C dL_records_430 rfl rfl rfl ?_
                    refine J_iconst (v := 1) C (by decide) dL_records_431 rfl ?_
                    refine Jl_aald (r2 := 3) C rfl (by decide) dL_records_432 rfl ?_
                    refine J_aload_n (i := 3) (p := 4) C dL_records_433 rfl rfl rfl ?_
                    refine Jl_cS (α := Int32 × LawS) (rest := []) (st9 := fun p_17 => [.int p_17.1]) C hR hX cs_RL_178 (kL_isLike hl rfl (Ok.ofbnd h)) rfl rfl (Nat.le_of_ble_eq_true rfl) (Nat.le_of_ble_eq_true rfl) (Nat.le_of_ble_eq_true rfl) ⟨(Nat.le_of_ble_eq_true rfl), (Nat.le_of_ble_eq_true rfl)⟩ dL_records_434 rfl (fun _ => rfl) (fun p_17 h => ?_)
                    have h : Ok _ _ := h
                    change J X K 13 False QQ 44 264 2064 (jl K p_17.2) 437 [(11, .int x11_2), (7, .int x7_1), (0, .ref (K.2.2 + 47)), (2, .ref (K.2.2 + 1)), (3, .ref (K.2.2 + 42)), (6, .int l6_306), (10, .int l10_306)] [.int p_17.1]
                    refine J_if_eq (t := 444) C dL_records_437 (by decide) rfl (fun c_18 => ?_) (fun c_18 => ?_)
                    · have h := h.pos c_18
                      refine J.sub [] rfl ?_
                      exact hj_444 p_17.2 h
                    · have h := h.neg c_18
                      refine J_iconst (v := 1) C (by decide) dL_records_440 rfl ?_
                      refine J_goto (t := 445) C dL_records_441 (by decide) ?_
                      refine J.sub [] rfl ?_
                      exact hj_445 p_17.2 (1 : Int32) h
    · have h := h.pos (Decidable.not_not.mp c_4)
      refine J_iload (i := 7) (p := 1) C dL_records_324 rfl rfl ?_
      refine J_if_eq (t := 355) C dL_records_326 (by decide) rfl (fun c_19 => ?_) (fun c_19 => ?_)
      · have h := h.pos c_19
        refine J.sub [] rfl ?_
        exact hj_355 p_3.2 h
      · have h := h.neg c_19
        refine J_aload_n (i := 0) (p := 2) C dL_records_329 rfl rfl rfl ?_
        refine J_iconst (v := 0) C (by decide) dL_records_330 rfl ?_
        refine Jl_cV (α := Int32 × Sto) (rest := []) (st9 := fun p_20 => [.int p_20.1]) (wd := fun p_20 => p_20.2) C hR hX cv_RL_189 (k11_acts_n hl (Ok.ofnox h) (fun c hc => hc)) rfl rfl (Nat.le_of_ble_eq_true rfl) (Nat.le_of_ble_eq_true rfl) (Nat.le_of_ble_eq_true rfl) ⟨(Nat.le_of_ble_eq_true rfl), (Nat.le_of_ble_eq_true rfl)⟩ dL_records_331 rfl (fun E n9 w9 hx => hx.elim) (fun _ => rfl) (fun p_20 h => ?_)
        have h : Ok _ _ := h
        change J X K 13 False QQ 36 216 2064 (jl K (p_3.2.1, p_20.2)) 334 [(11, .int x11_2), (7, .int x7_1), (0, .ref (K.2.2 + 47)), (2, .ref (K.2.2 + 1)), (3, .ref (K.2.2 + 42)), (6, .int l6_306), (10, .int l10_306)] [.int p_20.1]
        refine J_sipush (v := 150) C (by decide) dL_records_334 rfl ?_
        refine J_icmp_ne (t := 355) C dL_records_337 (by decide) rfl (fun c_21 => ?_) (fun c_21 => ?_)
        · have h := h.neg c_21
          refine J.sub [] rfl ?_
          exact hj_355 (p_3.2.1, p_20.2) h
        · have h := h.pos (Decidable.not_not.mp c_21)
          refine J_aload_n (i := 0) (p := 2) C dL_records_340 rfl rfl rfl ?_
          refine J_aload_n (i := 2) (p := 3) C dL_records_341 rfl rfl rfl ?_
          refine J_iconst (v := 0) C (by decide) dL_records_342 rfl ?_
          refine Jl_aald (r2 := 2) C rfl (by decide) dL_records_343 rfl ?_
          refine J_aload_n (i := 3) (p := 4) C dL_records_344 rfl rfl rfl ?_
          refine Jl_cS (α := Int32 × LawS) (rest := []) (st9 := fun p_22 => [.int p_22.1]) C hR hX cs_RL_178 (kL_isLike hl rfl (Ok.ofbnd h)) rfl rfl (Nat.le_of_ble_eq_true rfl) (Nat.le_of_ble_eq_true rfl) (Nat.le_of_ble_eq_true rfl) ⟨(Nat.le_of_ble_eq_true rfl), (Nat.le_of_ble_eq_true rfl)⟩ dL_records_345 rfl (fun _ => rfl) (fun p_22 h => ?_)
          have h : Ok _ _ := h
          change J X K 13 False QQ 36 216 2064 (jl K p_22.2) 348 [(11, .int x11_2), (7, .int x7_1), (0, .ref (K.2.2 + 47)), (2, .ref (K.2.2 + 1)), (3, .ref (K.2.2 + 42)), (6, .int l6_306), (10, .int l10_306)] [.int p_22.1]
          refine J_if_eq (t := 355) C dL_records_348 (by decide) rfl (fun c_23 => ?_) (fun c_23 => ?_)
          · have h := h.pos c_23
            refine J.sub [] rfl ?_
            exact hj_355 p_22.2 h
          · have h := h.neg c_23
            refine J_iconst (v := 1) C (by decide) dL_records_351 rfl ?_
            refine J_goto (t := 356) C dL_records_352 (by decide) ?_
            refine J.sub [] rfl ?_
            exact hj_356 p_22.2 (1 : Int32) h
  have hj_305 : (∀ (τ_305 : LawS) (l6_305 : Int32) (l10_305 : Int32), Ok (fL_records_j305 τ_305 l6_305 l10_305) Qf → J X K 13 False QQ 32 192 2064 (jl K τ_305) 305 [(0, .ref (K.2.2 + 47)), (2, .ref (K.2.2 + 1)), (3, .ref (K.2.2 + 42)), (6, .int l6_305), (10, .int l10_305)] []) := by
    intro τ_305 l6_305 l10_305 h
    unfold fL_records_j305 at h
    refine J_iconst (v := 0) C (by decide) dL_records_305 rfl ?_
    exact hj_306 τ_305 l6_305 l10_305 (0 : Int32) h
  have hj_243 : (∀ (τ_243 : LawS) (l6_243 : Int32) (l8_243 : Int32) (l10_243 : Int32) (s0_243 : Int32), Ok (fL_records_j243 τ_243 l6_243 l8_243 l10_243 s0_243) Qf → J X K 13 False QQ 28 168 2064 (jl K τ_243) 243 [(0, .ref (K.2.2 + 47)), (2, .ref (K.2.2 + 1)), (3, .ref (K.2.2 + 42)), (6, .int l6_243), (8, .int l8_243), (10, .int l10_243)] [.int s0_243]) := by
    intro τ_243 l6_243 l8_243 l10_243 s0_243 h
    unfold fL_records_j243 at h
    obtain ⟨x7_3, e_x7_3, h⟩ := Ok.nm h
    refine J_istoreE (i := 7) (lv' := [(7, .int x7_3), (0, .ref (K.2.2 + 47)), (2, .ref (K.2.2 + 1)), (3, .ref (K.2.2 + 42)), (6, .int l6_243), (8, .int l8_243), (10, .int l10_243)]) C e_x7_3 dL_records_243 (Nat.le_of_ble_eq_true rfl) rfl rfl ?_
    refine J_iload (i := 8) (p := 5) C dL_records_245 rfl rfl ?_
    refine J_if_ge (t := 253) C dL_records_247 (by decide) rfl (fun c_24 => ?_) (fun c_24 => ?_)
    · have h := h.pos c_24
      refine J_aload_n (i := 0) (p := 1) C dL_records_253 rfl rfl rfl ?_
      refine J_aload_n (i := 2) (p := 2) C dL_records_254 rfl rfl rfl ?_
      refine J_iconst (v := 1) C (by decide) dL_records_255 rfl ?_
      refine Jl_aald (r2 := 3) C rfl (by decide) dL_records_256 rfl ?_
      refine Jl_cS (α := LawS) (rest := []) (st9 := fun p_25 => []) C hR hX cs_RL_151 (kL_sees hl rfl (Ok.ofbnd h)) rfl rfl (Nat.le_of_ble_eq_true rfl) (Nat.le_of_ble_eq_true rfl) (Nat.le_of_ble_eq_true rfl) ⟨(Nat.le_of_ble_eq_true rfl), (Nat.le_of_ble_eq_true rfl)⟩ dL_records_257 rfl (fun _ => rfl) (fun p_25 h => ?_)
      have h : Ok _ _ := h
      change J X K 13 False QQ 28 168 2064 (jl K p_25) 260 [(7, .int x7_3), (0, .ref (K.2.2 + 47)), (2, .ref (K.2.2 + 1)), (3, .ref (K.2.2 + 42)), (6, .int l6_243), (8, .int l8_243), (10, .int l10_243)] []
      refine J_iload (i := 7) (p := 0) C dL_records_260 rfl rfl ?_
      refine J_if_eq (t := 305) C dL_records_262 (by decide) rfl (fun c_26 => ?_) (fun c_26 => ?_)
      · have h := h.pos c_26
        refine J.widen (k' := 32) (sl' := 192) (Nat.le_of_ble_eq_true rfl) (Nat.le_of_ble_eq_true rfl) ?_
        refine J.sub [1, 2, 3, 4, 6] rfl ?_
        exact hj_305 p_25 l6_243 l10_243 h
      · have h := h.neg c_26
        refine J_aload_n (i := 0) (p := 1) C dL_records_265 rfl rfl rfl ?_
        refine J_iconst (v := 1) C (by decide) dL_records_266 rfl ?_
        refine Jl_cV (α := Int32 × Sto) (rest := []) (st9 := fun p_27 => [.int p_27.1]) (wd := fun p_27 => p_27.2) C hR hX cv_RL_189 (k11_acts_n hl (Ok.ofnox h) (fun c hc => hc)) rfl rfl (Nat.le_of_ble_eq_true rfl) (Nat.le_of_ble_eq_true rfl) (Nat.le_of_ble_eq_true rfl) ⟨(Nat.le_of_ble_eq_true rfl), (Nat.le_of_ble_eq_true rfl)⟩ dL_records_267 rfl (fun E n9 w9 hx => hx.elim) (fun _ => rfl) (fun p_27 h => ?_)
        have h : Ok _ _ := h
        change J X K 13 False QQ 28 168 2064 (jl K (p_25.1, p_27.2)) 270 [(7, .int x7_3), (0, .ref (K.2.2 + 47)), (2, .ref (K.2.2 + 1)), (3, .ref (K.2.2 + 42)), (6, .int l6_243), (8, .int l8_243), (10, .int l10_243)] [.int p_27.1]
        refine J_iload (i := 6) (p := 4) C dL_records_270 rfl rfl ?_
        refine J_iconst (v := 1) C (by decide) dL_records_272 rfl ?_
        refine J_iadd C dL_records_273 rfl ?_
        refine J_icmp_ne (t := 305) C dL_records_274 (by decide) rfl (fun c_28 => ?_) (fun c_28 => ?_)
        · have h := h.neg c_28
          refine J.widen (k' := 32) (sl' := 192) (Nat.le_of_ble_eq_true rfl) (Nat.le_of_ble_eq_true rfl) ?_
          refine J.sub [1, 2, 3, 4, 6] rfl ?_
          exact hj_305 (p_25.1, p_27.2) l6_243 l10_243 h
        · have h := h.pos (Decidable.not_not.mp c_28)
          refine J_aload_n (i := 0) (p := 1) C dL_records_277 rfl rfl rfl ?_
          refine J_bipush (v := 10) C (by decide) dL_records_278 rfl ?_
          refine J_iconst (v := 1) C (by decide) dL_records_280 rfl ?_
          refine J_iconst (v := 0) C (by decide) dL_records_281 rfl ?_
          refine J_iconst (v := 0) C (by decide) dL_records_282 rfl ?_
          refine Jl_cH (α := Int32 × LawS) (rest := []) (st9 := fun p_29 => [.int p_29.1]) C hR hX ch_RL_174 (kL_done hl  (Ok.ofbnd h)) rfl rfl (Nat.le_of_ble_eq_true rfl) (Nat.le_of_ble_eq_true rfl) (Nat.le_of_ble_eq_true rfl) ⟨(Nat.le_of_ble_eq_true rfl), (Nat.le_of_ble_eq_true rfl)⟩ dL_records_283 rfl (fun _ => rfl) (fun p_29 h => ?_)
          have h : Ok _ _ := h
          change J X K 13 False QQ 32 192 2064 (jl K p_29.2) 286 [(7, .int x7_3), (0, .ref (K.2.2 + 47)), (2, .ref (K.2.2 + 1)), (3, .ref (K.2.2 + 42)), (6, .int l6_243), (8, .int l8_243), (10, .int l10_243)] [.int p_29.1]
          refine J_iconst (v := 1) C (by decide) dL_records_286 rfl ?_
          refine J_icmp_ne (t := 305) C dL_records_287 (by decide) rfl (fun c_30 => ?_) (fun c_30 => ?_)
          · have h := h.neg c_30
            refine J.sub [1, 2, 3, 4, 6] rfl ?_
            exact hj_305 p_29.2 l6_243 l10_243 h
          · have h := h.pos (Decidable.not_not.mp c_30)
            refine J_aload_n (i := 0) (p := 1) C dL_records_290 rfl rfl rfl ?_
            refine J_aload_n (i := 2) (p := 2) C dL_records_291 rfl rfl rfl ?_
            refine J_iconst (v := 0) C (by decide) dL_records_292 rfl ?_
            refine Jl_aald (r2 := 2) C rfl (by decide) dL_records_293 rfl ?_
            refine J_aload_n (i := 3) (p := 3) C dL_records_294 rfl rfl rfl ?_
            refine Jl_cS (α := Int32 × LawS) (rest := []) (st9 := fun p_31 => [.int p_31.1]) C hR hX cs_RL_178 (kL_isLike hl rfl (Ok.ofbnd h)) rfl rfl (Nat.le_of_ble_eq_true rfl) (Nat.le_of_ble_eq_true rfl) (Nat.le_of_ble_eq_true rfl) ⟨(Nat.le_of_ble_eq_true rfl), (Nat.le_of_ble_eq_true rfl)⟩ dL_records_295 rfl (fun _ => rfl) (fun p_31 h => ?_)
            have h : Ok _ _ := h
            change J X K 13 False QQ 32 192 2064 (jl K p_31.2) 298 [(7, .int x7_3), (0, .ref (K.2.2 + 47)), (2, .ref (K.2.2 + 1)), (3, .ref (K.2.2 + 42)), (6, .int l6_243), (8, .int l8_243), (10, .int l10_243)] [.int p_31.1]
            refine J_if_eq (t := 305) C dL_records_298 (by decide) rfl (fun c_32 => ?_) (fun c_32 => ?_)
            · have h := h.pos c_32
              refine J.sub [1, 2, 3, 4, 6] rfl ?_
              exact hj_305 p_31.2 l6_243 l10_243 h
            · have h := h.neg c_32
              refine J_iconst (v := 1) C (by decide) dL_records_301 rfl ?_
              refine J_goto (t := 306) C dL_records_302 (by decide) ?_
              refine J.sub [1, 2, 3, 4, 6] rfl ?_
              exact hj_306 p_31.2 l6_243 l10_243 (1 : Int32) h
    · have h := h.neg c_24
      refine J_iload (i := 7) (p := 0) C dL_records_250 rfl rfl ?_
      obtain ⟨g_33, h⟩ := Ok.ofgd h
      rw [← hQQ]
      exact J_zret C hret (narB g_33).1 (Nat.le_of_ble_eq_true rfl) (Nat.le_of_ble_eq_true rfl) ⟨_, h.osome, rfl, rfl, rfl⟩ dL_records_252
  have hj_242 : (∀ (τ_242 : LawS) (l6_242 : Int32) (l8_242 : Int32) (l10_242 : Int32), Ok (fL_records_j242 τ_242 l6_242 l8_242 l10_242) Qf → J X K 13 False QQ 28 168 2064 (jl K τ_242) 242 [(0, .ref (K.2.2 + 47)), (2, .ref (K.2.2 + 1)), (3, .ref (K.2.2 + 42)), (6, .int l6_242), (8, .int l8_242), (10, .int l10_242)] []) := by
    intro τ_242 l6_242 l8_242 l10_242 h
    unfold fL_records_j242 at h
    refine J_iconst (v := 0) C (by decide) dL_records_242 rfl ?_
    exact hj_243 τ_242 l6_242 l8_242 l10_242 (0 : Int32) h
  have hj_117 : (∀ (τ_117 : LawS) (l6_117 : Int32) (l7_117 : Int32) (l8_117 : Int32) (l9_117 : Int32) (l10_117 : Int32) (l11_117 : Int32), Ok (fL_records_j117 τ_117 l6_117 l7_117 l8_117 l9_117 l10_117 l11_117) Qf → J X K 13 False QQ 8 48 2064 (jl K τ_117) 117 [(0, .ref (K.2.2 + 47)), (1, .ref (K.2.2 + 0)), (2, .ref (K.2.2 + 1)), (3, .ref (K.2.2 + 42)), (6, .int l6_117), (7, .int l7_117), (8, .int l8_117), (9, .int l9_117), (10, .int l10_117), (11, .int l11_117)] []) := by
    intro τ_117 l6_117 l7_117 l8_117 l9_117 l10_117 l11_117 h
    unfold fL_records_j117 at h
    refine loop_room (S := LawS × Int32 × Int32) (P := fun m_117 s_117 => ∀ k_117 : Nat, k_117 + m_117 * 4 ≤ 24 → J X K 13 False QQ k_117 (6 * k_117) 2064 (jl K s_117.1) 117 [(0, .ref (K.2.2 + 47)), (1, .ref (K.2.2 + 0)), (2, .ref (K.2.2 + 1)), (3, .ref (K.2.2 + 42)), (6, .int l6_117), (7, .int l7_117), (8, .int l8_117), (9, .int l9_117), (10, .int s_117.2.1), (11, .int s_117.2.2)] []) ?_ 4 (τ_117, l10_117, l11_117) (Ok.ofbnd h) 8 (by omega)
    intro m_117 B_117 hB_117 hE_117 s_117 h k_117 hk_117
    obtain ⟨τ_117, l10_117, l11_117⟩ := s_117
    have h : Ok (fL_records_b117 τ_117 l6_117 l7_117 l8_117 l9_117 l10_117 l11_117) B_117 := h
    change J X K 13 False QQ k_117 (6 * k_117) 2064 (jl K τ_117) 117 [(0, .ref (K.2.2 + 47)), (1, .ref (K.2.2 + 0)), (2, .ref (K.2.2 + 1)), (3, .ref (K.2.2 + 42)), (6, .int l6_117), (7, .int l7_117), (8, .int l8_117), (9, .int l9_117), (10, .int l10_117), (11, .int l11_117)] []
    have hj_198 : (∀ (τ_198 : LawS) (l11_198 : Int32) (s0_198 : Int32) (s1_198 : Int32), Ok (fL_records_j198 l6_117 l7_117 l8_117 l9_117 τ_198 l11_198 s0_198 s1_198) B_117 → J X K 13 False QQ (k_117 + 4) (6 * (k_117 + 4)) 2064 (jl K τ_198) 198 [(0, .ref (K.2.2 + 47)), (1, .ref (K.2.2 + 0)), (2, .ref (K.2.2 + 1)), (3, .ref (K.2.2 + 42)), (6, .int l6_117), (7, .int l7_117), (8, .int l8_117), (9, .int l9_117), (11, .int l11_198)] [.int s1_198, .int s0_198]) := by
      intro τ_198 l11_198 s0_198 s1_198 h
      unfold fL_records_j198 at h
      refine Jl_cS (α := Int32) (rest := [.int s0_198]) (st9 := fun p_34 => [.int p_34, .int s0_198]) C hR hX cs_RL_63 (kL_one hl  (Ok.ofbnd h)) rfl rfl (Nat.le_of_ble_eq_true rfl) (Nat.le_of_ble_eq_true rfl) (Nat.le_of_ble_eq_true rfl) ⟨(by omega), (by omega)⟩ dL_records_198 rfl (fun _ => rfl) (fun p_34 h => ?_)
      have h : Ok _ _ := h
      change J X K 13 False QQ (k_117 + 4) (6 * (k_117 + 4)) 2064 (jl K τ_198) 201 [(0, .ref (K.2.2 + 47)), (1, .ref (K.2.2 + 0)), (2, .ref (K.2.2 + 1)), (3, .ref (K.2.2 + 42)), (6, .int l6_117), (7, .int l7_117), (8, .int l8_117), (9, .int l9_117), (11, .int l11_198)] [.int p_34, .int s0_198]
      refine J_iadd C dL_records_201 rfl ?_
      obtain ⟨x10_4, e_x10_4, h⟩ := Ok.nm h
      refine J_istoreE (i := 10) (lv' := [(10, .int x10_4), (0, .ref (K.2.2 + 47)), (1, .ref (K.2.2 + 0)), (2, .ref (K.2.2 + 1)), (3, .ref (K.2.2 + 42)), (6, .int l6_117), (7, .int l7_117), (8, .int l8_117), (9, .int l9_117), (11, .int l11_198)]) C e_x10_4 dL_records_202 (Nat.le_of_ble_eq_true rfl) rfl rfl ?_
      obtain ⟨x11_5, e_x11_5, h⟩ := Ok.nm h
      refine J_iincE (i := 11) (p := 9) (lv' := [(11, .int x11_5), (10, .int x10_4), (0, .ref (K.2.2 + 47)), (1, .ref (K.2.2 + 0)), (2, .ref (K.2.2 + 1)), (3, .ref (K.2.2 + 42)), (6, .int l6_117), (7, .int l7_117), (8, .int l8_117), (9, .int l9_117)]) C e_x11_5 dL_records_204 rfl (by decide) (Nat.le_of_ble_eq_true rfl) rfl rfl ?_
      refine J_goto (t := 117) C dL_records_207 (by decide) ?_
      refine J.sub [2, 3, 4, 5, 6, 7, 8, 9, 1, 0] rfl ?_
      exact hB_117 (τ_198, x10_4, x11_5) h.osome (k_117 + 4) (by omega)
    have hj_184 : (∀ (τ_184 : LawS) (l10_184 : Int32) (l11_184 : Int32) (s0_184 : Int32), Ok (fL_records_j184 l6_117 l7_117 l8_117 l9_117 τ_184 l10_184 l11_184 s0_184) B_117 → J X K 13 False QQ (k_117 + 4) (6 * (k_117 + 4)) 2064 (jl K τ_184) 184 [(0, .ref (K.2.2 + 47)), (1, .ref (K.2.2 + 0)), (2, .ref (K.2.2 + 1)), (3, .ref (K.2.2 + 42)), (6, .int l6_117), (7, .int l7_117), (8, .int l8_117), (9, .int l9_117), (10, .int l10_184), (11, .int l11_184)] [.int s0_184]) := by
      intro τ_184 l10_184 l11_184 s0_184 h
      unfold fL_records_j184 at h
      obtain ⟨x12_6, e_x12_6, h⟩ := Ok.nm h
      refine J_istoreE (i := 12) (lv' := [(12, .int x12_6), (0, .ref (K.2.2 + 47)), (1, .ref (K.2.2 + 0)), (2, .ref (K.2.2 + 1)), (3, .ref (K.2.2 + 42)), (6, .int l6_117), (7, .int l7_117), (8, .int l8_117), (9, .int l9_117), (10, .int l10_184), (11, .int l11_184)]) C e_x12_6 dL_records_184 (Nat.le_of_ble_eq_true rfl) rfl rfl ?_
      refine J_iload (i := 10) (p := 9) C dL_records_186 rfl rfl ?_
      refine J_iload (i := 12) (p := 0) C dL_records_188 rfl rfl ?_
      refine J_if_lt (t := 197) C dL_records_190 (by decide) rfl (fun c_35 => ?_) (fun c_35 => ?_)
      · have h := h.pos c_35
        refine J_iconst (v := 0) C (by decide) dL_records_197 rfl ?_
        refine J.sub [1, 2, 3, 4, 5, 6, 7, 8, 10] rfl ?_
        exact hj_198 τ_184 l11_184 l10_184 (0 : Int32) h
      · have h := h.neg c_35
        refine J_iconst (v := 1) C (by decide) dL_records_193 rfl ?_
        refine J_goto (t := 198) C dL_records_194 (by decide) ?_
        refine J.sub [1, 2, 3, 4, 5, 6, 7, 8, 10] rfl ?_
        exact hj_198 τ_184 l11_184 l10_184 (1 : Int32) h
    unfold fL_records_b117 at h
    refine J_iload (i := 11) (p := 9) C dL_records_117 rfl rfl ?_
    refine J_if_le (t := 210) C dL_records_119 (by decide) rfl (fun c_36 => ?_) (fun c_36 => ?_)
    · have h := h.pos c_36
      have h := hE_117 (τ_117, l10_117) h.osome
      try dsimp only at h
      refine J.widen (k' := 24) (sl' := 144) (by omega) (by omega) ?_
      refine J_iload (i := 7) (p := 5) C dL_records_210 rfl rfl ?_
      refine J_if_eq (t := 242) C dL_records_212 (by decide) rfl (fun c_37 => ?_) (fun c_37 => ?_)
      · have h := h.pos c_37
        refine J.widen (k' := 28) (sl' := 168) (Nat.le_of_ble_eq_true rfl) (Nat.le_of_ble_eq_true rfl) ?_
        refine J.sub [0, 2, 3, 4, 6, 8] rfl ?_
        exact hj_242 τ_117 l6_117 l8_117 l10_117 h
      · have h := h.neg c_37
        refine J_aload_n (i := 0) (p := 0) C dL_records_215 rfl rfl rfl ?_
        refine J_iconst (v := 0) C (by decide) dL_records_216 rfl ?_
        refine Jl_cV (α := Int32 × Sto) (rest := []) (st9 := fun p_38 => [.int p_38.1]) (wd := fun p_38 => p_38.2) C hR hX cv_RL_200 (k11_record hl (Ok.ofbnd h)) rfl rfl (Nat.le_of_ble_eq_true rfl) (Nat.le_of_ble_eq_true rfl) (Nat.le_of_ble_eq_true rfl) ⟨(Nat.le_of_ble_eq_true rfl), (Nat.le_of_ble_eq_true rfl)⟩ dL_records_217 rfl (fun E n9 w9 hx => hx.elim) (fun _ => rfl) (fun p_38 h => ?_)
        have h : Ok _ _ := h
        change J X K 13 False QQ 24 144 2064 (jl K (τ_117.1, p_38.2)) 220 [(0, .ref (K.2.2 + 47)), (1, .ref (K.2.2 + 0)), (2, .ref (K.2.2 + 1)), (3, .ref (K.2.2 + 42)), (6, .int l6_117), (7, .int l7_117), (8, .int l8_117), (9, .int l9_117), (10, .int l10_117), (11, .int l11_117)] [.int p_38.1]
        refine J_iload (i := 10) (p := 8) C dL_records_220 rfl rfl ?_
        refine J_icmp_ne (t := 242) C dL_records_222 (by decide) rfl (fun c_39 => ?_) (fun c_39 => ?_)
        · have h := h.neg c_39
          refine J.widen (k' := 28) (sl' := 168) (Nat.le_of_ble_eq_true rfl) (Nat.le_of_ble_eq_true rfl) ?_
          refine J.sub [0, 2, 3, 4, 6, 8] rfl ?_
          exact hj_242 (τ_117.1, p_38.2) l6_117 l8_117 l10_117 h
        · have h := h.pos (Decidable.not_not.mp c_39)
          refine J_aload_n (i := 0) (p := 0) C dL_records_225 rfl rfl rfl ?_
          refine J_bipush (v := 13) C (by decide) dL_records_226 rfl ?_
          refine J_iconst (v := 0) C (by decide) dL_records_228 rfl ?_
          refine J_iconst (v := 0) C (by decide) dL_records_229 rfl ?_
          refine J_iconst (v := 0) C (by decide) dL_records_230 rfl ?_
          refine Jl_cH (α := Int32 × LawS) (rest := []) (st9 := fun p_40 => [.int p_40.1]) C hR hX ch_RL_174 (kL_done hl  (Ok.ofbnd h)) rfl rfl (Nat.le_of_ble_eq_true rfl) (Nat.le_of_ble_eq_true rfl) (Nat.le_of_ble_eq_true rfl) ⟨(Nat.le_of_ble_eq_true rfl), (Nat.le_of_ble_eq_true rfl)⟩ dL_records_231 rfl (fun _ => rfl) (fun p_40 h => ?_)
          have h : Ok _ _ := h
          change J X K 13 False QQ 28 168 2064 (jl K p_40.2) 234 [(0, .ref (K.2.2 + 47)), (1, .ref (K.2.2 + 0)), (2, .ref (K.2.2 + 1)), (3, .ref (K.2.2 + 42)), (6, .int l6_117), (7, .int l7_117), (8, .int l8_117), (9, .int l9_117), (10, .int l10_117), (11, .int l11_117)] [.int p_40.1]
          refine J_iconst (v := 1) C (by decide) dL_records_234 rfl ?_
          refine J_icmp_ne (t := 242) C dL_records_235 (by decide) rfl (fun c_41 => ?_) (fun c_41 => ?_)
          · have h := h.neg c_41
            refine J.sub [0, 2, 3, 4, 6, 8] rfl ?_
            exact hj_242 p_40.2 l6_117 l8_117 l10_117 h
          · have h := h.pos (Decidable.not_not.mp c_41)
            refine J_iconst (v := 1) C (by decide) dL_records_238 rfl ?_
            refine J_goto (t := 243) C dL_records_239 (by decide) ?_
            refine J.sub [0, 2, 3, 4, 6, 8] rfl ?_
            exact hj_243 p_40.2 l6_117 l8_117 l10_117 (1 : Int32) h
    · have h := h.neg c_36
      refine J_aload_n (i := 1) (p := 1) C dL_records_122 rfl rfl rfl ?_
      refine Jl_cS (α := Int32 × LawS) (rest := []) (st9 := fun p_42 => [.int p_42.1]) C hR hX cs_RL_8 (kL_next hl  (Ok.ofbnd h)) rfl rfl (Nat.le_of_ble_eq_true rfl) (Nat.le_of_ble_eq_true rfl) (Nat.le_of_ble_eq_true rfl) ⟨(by omega), (by omega)⟩ dL_records_123 rfl (fun _ => rfl) (fun p_42 h => ?_)
      have h : Ok _ _ := h
      change J X K 13 False QQ k_117 (6 * k_117) 2064 (jl K p_42.2) 126 [(0, .ref (K.2.2 + 47)), (1, .ref (K.2.2 + 0)), (2, .ref (K.2.2 + 1)), (3, .ref (K.2.2 + 42)), (6, .int l6_117), (7, .int l7_117), (8, .int l8_117), (9, .int l9_117), (10, .int l10_117), (11, .int l11_117)] [.int p_42.1]
      refine J_iconst (v := 2) C (by decide) dL_records_126 rfl ?_
      refine J_irem C (by decide) dL_records_127 rfl ?_
      refine J_if_ne (t := 150) C dL_records_128 (by decide) rfl (fun c_43 => ?_) (fun c_43 => ?_)
      · have h := h.neg c_43
        refine J_aload_n (i := 1) (p := 1) C dL_records_150 rfl rfl rfl ?_
        refine Jl_cS (α := Int32 × LawS) (rest := []) (st9 := fun p_44 => [.int p_44.1]) C hR hX cs_RL_8 (kL_next hl  (Ok.ofbnd h)) rfl rfl (Nat.le_of_ble_eq_true rfl) (Nat.le_of_ble_eq_true rfl) (Nat.le_of_ble_eq_true rfl) ⟨(by omega), (by omega)⟩ dL_records_151 rfl (fun _ => rfl) (fun p_44 h => ?_)
        have h : Ok _ _ := h
        change J X K 13 False QQ k_117 (6 * k_117) 2064 (jl K p_44.2) 154 [(0, .ref (K.2.2 + 47)), (1, .ref (K.2.2 + 0)), (2, .ref (K.2.2 + 1)), (3, .ref (K.2.2 + 42)), (6, .int l6_117), (7, .int l7_117), (8, .int l8_117), (9, .int l9_117), (10, .int l10_117), (11, .int l11_117)] [.int p_44.1]
        refine J_iconst (v := 3) C (by decide) dL_records_154 rfl ?_
        refine J_irem C (by decide) dL_records_155 rfl ?_
        refine J_if_ne (t := 170) C dL_records_156 (by decide) rfl (fun c_45 => ?_) (fun c_45 => ?_)
        · have h := h.neg c_45
          refine J_aload_n (i := 0) (p := 0) C dL_records_170 rfl rfl rfl ?_
          refine J_iconst (v := 1) C (by decide) dL_records_171 rfl ?_
          refine J_aload_n (i := 1) (p := 1) C dL_records_172 rfl rfl rfl ?_
          refine J_bipush (v := -4) C (by decide) dL_records_173 rfl ?_
          refine J_iconst (v := 4) C (by decide) dL_records_175 rfl ?_
          refine Jl_cS (α := Int32 × LawS) (rest := [.int (1 : Int32), .ref (K.2.2 + 47)]) (st9 := fun p_46 => [.int p_46.1, .int (1 : Int32), .ref (K.2.2 + 47)]) C hR hX cs_RL_137 (kL_from hl  (Ok.ofbnd h)) rfl rfl (Nat.le_of_ble_eq_true rfl) (Nat.le_of_ble_eq_true rfl) (Nat.le_of_ble_eq_true rfl) ⟨(by omega), (by omega)⟩ dL_records_176 rfl (fun _ => rfl) (fun p_46 h => ?_)
          have h : Ok _ _ := h
          change J X K 13 False QQ k_117 (6 * k_117) 2064 (jl K p_46.2) 179 [(0, .ref (K.2.2 + 47)), (1, .ref (K.2.2 + 0)), (2, .ref (K.2.2 + 1)), (3, .ref (K.2.2 + 42)), (6, .int l6_117), (7, .int l7_117), (8, .int l8_117), (9, .int l9_117), (10, .int l10_117), (11, .int l11_117)] [.int p_46.1, .int (1 : Int32), .ref (K.2.2 + 47)]
          refine J_iconst (v := 0) C (by decide) dL_records_179 rfl ?_
          refine J_iconst (v := 0) C (by decide) dL_records_180 rfl ?_
          refine Jl_cH (α := Int32 × LawS) (rest := []) (st9 := fun p_47 => [.int p_47.1]) C hR hX ch_RL_174 (kL_done hl  (Ok.ofbnd h)) rfl rfl (Nat.le_of_ble_eq_true rfl) (Nat.le_of_ble_eq_true rfl) (Nat.le_of_ble_eq_true rfl) ⟨(by omega), (by omega)⟩ dL_records_181 rfl (fun _ => rfl) (fun p_47 h => ?_)
          have h : Ok _ _ := h
          refine J.widen (k' := (k_117 + 4)) (sl' := (6 * (k_117 + 4))) (by omega) (by omega) ?_
          change J X K 13 False QQ (k_117 + 4) (6 * (k_117 + 4)) 2064 (jl K p_47.2) 184 [(0, .ref (K.2.2 + 47)), (1, .ref (K.2.2 + 0)), (2, .ref (K.2.2 + 1)), (3, .ref (K.2.2 + 42)), (6, .int l6_117), (7, .int l7_117), (8, .int l8_117), (9, .int l9_117), (10, .int l10_117), (11, .int l11_117)] [.int p_47.1]
          exact hj_184 p_47.2 l10_117 l11_117 p_47.1 h
        · have h := h.pos (Decidable.not_not.mp c_45)
          refine J_aload_n (i := 0) (p := 0) C dL_records_159 rfl rfl rfl ?_
          refine J_iconst (v := 4) C (by decide) dL_records_160 rfl ?_
          refine J_iconst (v := 0) C (by decide) dL_records_161 rfl ?_
          refine J_iconst (v := 0) C (by decide) dL_records_162 rfl ?_
          refine J_iconst (v := 0) C (by decide) dL_records_163 rfl ?_
          refine Jl_cH (α := Int32 × LawS) (rest := []) (st9 := fun p_48 => [.int p_48.1]) C hR hX ch_RL_174 (kL_done hl  (Ok.ofbnd h)) rfl rfl (Nat.le_of_ble_eq_true rfl) (Nat.le_of_ble_eq_true rfl) (Nat.le_of_ble_eq_true rfl) ⟨(by omega), (by omega)⟩ dL_records_164 rfl (fun _ => rfl) (fun p_48 h => ?_)
          have h : Ok _ _ := h
          refine J.widen (k' := (k_117 + 4)) (sl' := (6 * (k_117 + 4))) (by omega) (by omega) ?_
          change J X K 13 False QQ (k_117 + 4) (6 * (k_117 + 4)) 2064 (jl K p_48.2) 167 [(0, .ref (K.2.2 + 47)), (1, .ref (K.2.2 + 0)), (2, .ref (K.2.2 + 1)), (3, .ref (K.2.2 + 42)), (6, .int l6_117), (7, .int l7_117), (8, .int l8_117), (9, .int l9_117), (10, .int l10_117), (11, .int l11_117)] [.int p_48.1]
          refine J_goto (t := 184) C dL_records_167 (by decide) ?_
          exact hj_184 p_48.2 l10_117 l11_117 p_48.1 h
      · have h := h.pos (Decidable.not_not.mp c_43)
        refine J_aload_n (i := 0) (p := 0) C dL_records_131 rfl rfl rfl ?_
        refine J_bipush (v := 16) C (by decide) dL_records_132 rfl ?_
        refine J_iload (i := 9) (p := 7) C dL_records_134 rfl rfl ?_
        refine J_aload_n (i := 1) (p := 1) C dL_records_136 rfl rfl rfl ?_
        refine J_bipush (v := -3) C (by decide) dL_records_137 rfl ?_
        refine J_iconst (v := 3) C (by decide) dL_records_139 rfl ?_
        refine Jl_cS (α := Int32 × LawS) (rest := [.int l9_117, .int (16 : Int32), .ref (K.2.2 + 47)]) (st9 := fun p_49 => [.int p_49.1, .int l9_117, .int (16 : Int32), .ref (K.2.2 + 47)]) C hR hX cs_RL_137 (kL_from hl  (Ok.ofbnd h)) rfl rfl (Nat.le_of_ble_eq_true rfl) (Nat.le_of_ble_eq_true rfl) (Nat.le_of_ble_eq_true rfl) ⟨(by omega), (by omega)⟩ dL_records_140 rfl (fun _ => rfl) (fun p_49 h => ?_)
        have h : Ok _ _ := h
        change J X K 13 False QQ k_117 (6 * k_117) 2064 (jl K p_49.2) 143 [(0, .ref (K.2.2 + 47)), (1, .ref (K.2.2 + 0)), (2, .ref (K.2.2 + 1)), (3, .ref (K.2.2 + 42)), (6, .int l6_117), (7, .int l7_117), (8, .int l8_117), (9, .int l9_117), (10, .int l10_117), (11, .int l11_117)] [.int p_49.1, .int l9_117, .int (16 : Int32), .ref (K.2.2 + 47)]
        refine J_iconst (v := 0) C (by decide) dL_records_143 rfl ?_
        refine Jl_cH (α := Int32 × LawS) (rest := []) (st9 := fun p_50 => [.int p_50.1]) C hR hX ch_RL_174 (kL_done hl  (Ok.ofbnd h)) rfl rfl (Nat.le_of_ble_eq_true rfl) (Nat.le_of_ble_eq_true rfl) (Nat.le_of_ble_eq_true rfl) ⟨(by omega), (by omega)⟩ dL_records_144 rfl (fun _ => rfl) (fun p_50 h => ?_)
        have h : Ok _ _ := h
        refine J.widen (k' := (k_117 + 4)) (sl' := (6 * (k_117 + 4))) (by omega) (by omega) ?_
        change J X K 13 False QQ (k_117 + 4) (6 * (k_117 + 4)) 2064 (jl K p_50.2) 147 [(0, .ref (K.2.2 + 47)), (1, .ref (K.2.2 + 0)), (2, .ref (K.2.2 + 1)), (3, .ref (K.2.2 + 42)), (6, .int l6_117), (7, .int l7_117), (8, .int l8_117), (9, .int l9_117), (10, .int l10_117), (11, .int l11_117)] [.int p_50.1]
        refine J_goto (t := 184) C dL_records_147 (by decide) ?_
        exact hj_184 p_50.2 l10_117 l11_117 p_50.1 h
  have hj_104 : (∀ (τ_104 : LawS) (l6_104 : Int32) (l7_104 : Int32) (l8_104 : Int32) (l9_104 : Int32) (s0_104 : Int32), Ok (fL_records_j104 τ_104 l6_104 l7_104 l8_104 l9_104 s0_104) Qf → J X K 13 False QQ 8 48 2064 (jl K τ_104) 104 [(0, .ref (K.2.2 + 47)), (1, .ref (K.2.2 + 0)), (2, .ref (K.2.2 + 1)), (3, .ref (K.2.2 + 42)), (6, .int l6_104), (7, .int l7_104), (8, .int l8_104), (9, .int l9_104)] [.int s0_104]) := by
    intro τ_104 l6_104 l7_104 l8_104 l9_104 s0_104 h
    unfold fL_records_j104 at h
    refine Jl_cS (α := Int32) (rest := []) (st9 := fun p_56 => [.int p_56]) C hR hX cs_RL_63 (kL_one hl  (Ok.ofbnd h)) rfl rfl (Nat.le_of_ble_eq_true rfl) (Nat.le_of_ble_eq_true rfl) (Nat.le_of_ble_eq_true rfl) ⟨(Nat.le_of_ble_eq_true rfl), (Nat.le_of_ble_eq_true rfl)⟩ dL_records_104 rfl (fun _ => rfl) (fun p_56 h => ?_)
    have h : Ok _ _ := h
    change J X K 13 False QQ 8 48 2064 (jl K τ_104) 107 [(0, .ref (K.2.2 + 47)), (1, .ref (K.2.2 + 0)), (2, .ref (K.2.2 + 1)), (3, .ref (K.2.2 + 42)), (6, .int l6_104), (7, .int l7_104), (8, .int l8_104), (9, .int l9_104)] [.int p_56]
    obtain ⟨x10_7, e_x10_7, h⟩ := Ok.nm h
    refine J_istoreE (i := 10) (lv' := [(10, .int x10_7), (0, .ref (K.2.2 + 47)), (1, .ref (K.2.2 + 0)), (2, .ref (K.2.2 + 1)), (3, .ref (K.2.2 + 42)), (6, .int l6_104), (7, .int l7_104), (8, .int l8_104), (9, .int l9_104)]) C e_x10_7 dL_records_107 (Nat.le_of_ble_eq_true rfl) rfl rfl ?_
    refine J_aload_n (i := 1) (p := 2) C dL_records_109 rfl rfl rfl ?_
    refine Jl_cS (α := Int32 × LawS) (rest := []) (st9 := fun p_57 => [.int p_57.1]) C hR hX cs_RL_8 (kL_next hl  (Ok.ofbnd h)) rfl rfl (Nat.le_of_ble_eq_true rfl) (Nat.le_of_ble_eq_true rfl) (Nat.le_of_ble_eq_true rfl) ⟨(Nat.le_of_ble_eq_true rfl), (Nat.le_of_ble_eq_true rfl)⟩ dL_records_110 rfl (fun _ => rfl) (fun p_57 h => ?_)
    have h : Ok _ _ := h
    change J X K 13 False QQ 8 48 2064 (jl K p_57.2) 113 [(10, .int x10_7), (0, .ref (K.2.2 + 47)), (1, .ref (K.2.2 + 0)), (2, .ref (K.2.2 + 1)), (3, .ref (K.2.2 + 42)), (6, .int l6_104), (7, .int l7_104), (8, .int l8_104), (9, .int l9_104)] [.int p_57.1]
    refine J_iconst (v := 4) C (by decide) dL_records_113 rfl ?_
    refine J_irem C (by decide) dL_records_114 rfl ?_
    obtain ⟨x11_8, e_x11_8, h⟩ := Ok.nm h
    refine J_istoreE (i := 11) (lv' := [(11, .int x11_8), (10, .int x10_7), (0, .ref (K.2.2 + 47)), (1, .ref (K.2.2 + 0)), (2, .ref (K.2.2 + 1)), (3, .ref (K.2.2 + 42)), (6, .int l6_104), (7, .int l7_104), (8, .int l8_104), (9, .int l9_104)]) C e_x11_8 dL_records_115 (Nat.le_of_ble_eq_true rfl) rfl rfl ?_
    refine J.sub [2, 3, 4, 5, 6, 7, 8, 9, 1, 0] rfl ?_
    exact hj_117 p_57.2 l6_104 l7_104 l8_104 l9_104 x10_7 x11_8 h
  have hj_74 : (∀ (τ_74 : LawS) (l6_74 : Int32) (s0_74 : Int32), Ok (fL_records_j74 τ_74 l6_74 s0_74) Qf → J X K 13 False QQ 4 24 2064 (jl K τ_74) 74 [(0, .ref (K.2.2 + 47)), (1, .ref (K.2.2 + 0)), (2, .ref (K.2.2 + 1)), (3, .ref (K.2.2 + 42)), (6, .int l6_74)] [.int s0_74]) := by
    intro τ_74 l6_74 s0_74 h
    unfold fL_records_j74 at h
    obtain ⟨x7_9, e_x7_9, h⟩ := Ok.nm h
    refine J_istoreE (i := 7) (lv' := [(7, .int x7_9), (0, .ref (K.2.2 + 47)), (1, .ref (K.2.2 + 0)), (2, .ref (K.2.2 + 1)), (3, .ref (K.2.2 + 42)), (6, .int l6_74)]) C e_x7_9 dL_records_74 (Nat.le_of_ble_eq_true rfl) rfl rfl ?_
    refine J_aload_n (i := 0) (p := 1) C dL_records_76 rfl rfl rfl ?_
    refine J_iconst (v := 0) C (by decide) dL_records_77 rfl ?_
    refine J_iconst (v := 0) C (by decide) dL_records_78 rfl ?_
    refine J_iconst (v := 0) C (by decide) dL_records_79 rfl ?_
    refine J_iconst (v := 0) C (by decide) dL_records_80 rfl ?_
    refine Jl_cH (α := Int32 × LawS) (rest := []) (st9 := fun p_58 => [.int p_58.1]) C hR hX ch_RL_174 (kL_done hl  (Ok.ofbnd h)) rfl rfl (Nat.le_of_ble_eq_true rfl) (Nat.le_of_ble_eq_true rfl) (Nat.le_of_ble_eq_true rfl) ⟨(Nat.le_of_ble_eq_true rfl), (Nat.le_of_ble_eq_true rfl)⟩ dL_records_81 rfl (fun _ => rfl) (fun p_58 h => ?_)
    have h : Ok _ _ := h
    change J X K 13 False QQ 8 48 2064 (jl K p_58.2) 84 [(7, .int x7_9), (0, .ref (K.2.2 + 47)), (1, .ref (K.2.2 + 0)), (2, .ref (K.2.2 + 1)), (3, .ref (K.2.2 + 42)), (6, .int l6_74)] [.int p_58.1]
    obtain ⟨x8_10, e_x8_10, h⟩ := Ok.nm h
    refine J_istoreE (i := 8) (lv' := [(8, .int x8_10), (7, .int x7_9), (0, .ref (K.2.2 + 47)), (1, .ref (K.2.2 + 0)), (2, .ref (K.2.2 + 1)), (3, .ref (K.2.2 + 42)), (6, .int l6_74)]) C e_x8_10 dL_records_84 (Nat.le_of_ble_eq_true rfl) rfl rfl ?_
    refine J_aload_n (i := 1) (p := 3) C dL_records_86 rfl rfl rfl ?_
    refine Jl_cS (α := Int32 × LawS) (rest := []) (st9 := fun p_59 => [.int p_59.1]) C hR hX cs_RL_8 (kL_next hl  (Ok.ofbnd h)) rfl rfl (Nat.le_of_ble_eq_true rfl) (Nat.le_of_ble_eq_true rfl) (Nat.le_of_ble_eq_true rfl) ⟨(Nat.le_of_ble_eq_true rfl), (Nat.le_of_ble_eq_true rfl)⟩ dL_records_87 rfl (fun _ => rfl) (fun p_59 h => ?_)
    have h : Ok _ _ := h
    change J X K 13 False QQ 8 48 2064 (jl K p_59.2) 90 [(8, .int x8_10), (7, .int x7_9), (0, .ref (K.2.2 + 47)), (1, .ref (K.2.2 + 0)), (2, .ref (K.2.2 + 1)), (3, .ref (K.2.2 + 42)), (6, .int l6_74)] [.int p_59.1]
    refine J_iconst (v := 5) C (by decide) dL_records_90 rfl ?_
    refine J_irem C (by decide) dL_records_91 rfl ?_
    obtain ⟨x9_11, e_x9_11, h⟩ := Ok.nm h
    refine J_istoreE (i := 9) (lv' := [(9, .int x9_11), (8, .int x8_10), (7, .int x7_9), (0, .ref (K.2.2 + 47)), (1, .ref (K.2.2 + 0)), (2, .ref (K.2.2 + 1)), (3, .ref (K.2.2 + 42)), (6, .int l6_74)]) C e_x9_11 dL_records_92 (Nat.le_of_ble_eq_true rfl) rfl rfl ?_
    refine J_iload (i := 8) (p := 1) C dL_records_94 rfl rfl ?_
    refine J_if_lt (t := 103) C dL_records_96 (by decide) rfl (fun c_60 => ?_) (fun c_60 => ?_)
    · have h := h.pos c_60
      refine J_iconst (v := 0) C (by decide) dL_records_103 rfl ?_
      refine J.sub [3, 4, 5, 6, 7, 2, 1, 0] rfl ?_
      exact hj_104 p_59.2 l6_74 x7_9 x8_10 x9_11 (0 : Int32) h
    · have h := h.neg c_60
      refine J_iconst (v := 1) C (by decide) dL_records_99 rfl ?_
      refine J_goto (t := 104) C dL_records_100 (by decide) ?_
      refine J.sub [3, 4, 5, 6, 7, 2, 1, 0] rfl ?_
      exact hj_104 p_59.2 l6_74 x7_9 x8_10 x9_11 (1 : Int32) h
  have hj_73 : (∀ (τ_73 : LawS) (l6_73 : Int32), Ok (fL_records_j73 τ_73 l6_73) Qf → J X K 13 False QQ 4 24 2064 (jl K τ_73) 73 [(0, .ref (K.2.2 + 47)), (1, .ref (K.2.2 + 0)), (2, .ref (K.2.2 + 1)), (3, .ref (K.2.2 + 42)), (6, .int l6_73)] []) := by
    intro τ_73 l6_73 h
    unfold fL_records_j73 at h
    refine J_iconst (v := 0) C (by decide) dL_records_73 rfl ?_
    exact hj_74 τ_73 l6_73 (0 : Int32) h
  have hj_34 : (∀ (τ_34 : LawS) (s0_34 : Int32), Ok (fL_records_j34 τ_34 s0_34) Qf → J X K 13 False QQ 0 0 2064 (jl K τ_34) 34 [] [.int s0_34]) := by
    intro τ_34 s0_34 h
    unfold fL_records_j34 at h
    obtain ⟨g_61, h⟩ := Ok.ofgd h
    rw [← hQQ]
    exact J_zret C hret (narB g_61).1 (Nat.le_of_ble_eq_true rfl) (Nat.le_of_ble_eq_true rfl) ⟨_, h.osome, rfl, rfl, rfl⟩ dL_records_34
  have hj_24 : (∀ (τ_24 : LawS) (l5_24 : Int32), Ok (fL_records_j24 τ_24 l5_24) Qf → J X K 13 False QQ 0 0 2064 (jl K τ_24) 24 [(5, .int l5_24)] []) := by
    intro τ_24 l5_24 h
    unfold fL_records_j24 at h
    refine J_iload (i := 5) (p := 0) C dL_records_24 rfl rfl ?_
    refine J_if_ne (t := 33) C dL_records_26 (by decide) rfl (fun c_62 => ?_) (fun c_62 => ?_)
    · have h := h.neg c_62
      refine J_iconst (v := 0) C (by decide) dL_records_33 rfl ?_
      refine J.sub [] rfl ?_
      exact hj_34 τ_24 (0 : Int32) h
    · have h := h.pos (Decidable.not_not.mp c_62)
      refine J_iconst (v := 1) C (by decide) dL_records_29 rfl ?_
      refine J_goto (t := 34) C dL_records_30 (by decide) ?_
      refine J.sub [] rfl ?_
      exact hj_34 τ_24 (1 : Int32) h
  unfold fL_records at h
  refine J_aload_n (i := 1) (p := 1) C dL_records_0 rfl rfl rfl ?_
  refine J_aload (i := 4) (p := 4) C dL_records_1 rfl rfl ?_
  refine Jl_cS (α := Int32 × LawS) (rest := []) (st9 := fun p_63 => [.int p_63.1]) C hR hX cs_RL_161 (kL_draws hl  (Ok.ofbnd h)) rfl rfl (Nat.le_of_ble_eq_true rfl) (Nat.le_of_ble_eq_true rfl) (Nat.le_of_ble_eq_true rfl) ⟨(Nat.le_of_ble_eq_true rfl), (Nat.le_of_ble_eq_true rfl)⟩ dL_records_3 rfl (fun _ => rfl) (fun p_63 h => ?_)
  have h : Ok _ _ := h
  change J X K 13 False QQ 0 0 2064 (jl K p_63.2) 6 [(0, .ref (K.2.2 + 47)), (1, .ref (K.2.2 + 0)), (2, .ref (K.2.2 + 1)), (3, .ref (K.2.2 + 42)), (4, .ref (K.2.2 + 43))] [.int p_63.1]
  obtain ⟨x5_12, e_x5_12, h⟩ := Ok.nm h
  refine J_istoreE (i := 5) (lv' := [(5, .int x5_12), (0, .ref (K.2.2 + 47)), (1, .ref (K.2.2 + 0)), (2, .ref (K.2.2 + 1)), (3, .ref (K.2.2 + 42)), (4, .ref (K.2.2 + 43))]) C e_x5_12 dL_records_6 (Nat.le_of_ble_eq_true rfl) rfl rfl ?_
  refine J_iload (i := 5) (p := 0) C dL_records_8 rfl rfl ?_
  refine J_if_eq (t := 24) C dL_records_10 (by decide) rfl (fun c_64 => ?_) (fun c_64 => ?_)
  · have h := h.pos c_64
    refine J.sub [0] rfl ?_
    exact hj_24 p_63.2 x5_12 h
  · have h := h.neg c_64
    refine J_aload_n (i := 0) (p := 1) C dL_records_13 rfl rfl rfl ?_
    refine J_aload (i := 4) (p := 5) C dL_records_14 rfl rfl ?_
    refine J_iload (i := 5) (p := 0) C dL_records_16 rfl rfl ?_
    refine Jl_cS (α := Int32 × LawS) (rest := []) (st9 := fun p_65 => [.int p_65.1]) C hR hX cs_RL_165 (kL_feeds hl rfl (Ok.ofbnd h)) rfl rfl (Nat.le_of_ble_eq_true rfl) (Nat.le_of_ble_eq_true rfl) (Nat.le_of_ble_eq_true rfl) ⟨(Nat.le_of_ble_eq_true rfl), (Nat.le_of_ble_eq_true rfl)⟩ dL_records_18 rfl (fun _ => rfl) (fun p_65 h => ?_)
    have h : Ok _ _ := h
    change J X K 13 False QQ 0 0 2064 (jl K p_65.2) 21 [(5, .int x5_12), (0, .ref (K.2.2 + 47)), (1, .ref (K.2.2 + 0)), (2, .ref (K.2.2 + 1)), (3, .ref (K.2.2 + 42)), (4, .ref (K.2.2 + 43))] [.int p_65.1]
    refine J_if_ne (t := 35) C dL_records_21 (by decide) rfl (fun c_66 => ?_) (fun c_66 => ?_)
    · have h := h.neg c_66
      refine J_aload_n (i := 0) (p := 1) C dL_records_35 rfl rfl rfl ?_
      refine J_aload_n (i := 2) (p := 3) C dL_records_36 rfl rfl rfl ?_
      refine J_iconst (v := 0) C (by decide) dL_records_37 rfl ?_
      refine Jl_aald (r2 := 2) C rfl (by decide) dL_records_38 rfl ?_
      refine Jl_cS (α := LawS) (rest := []) (st9 := fun p_67 => []) C hR hX cs_RL_151 (kL_sees hl rfl (Ok.ofbnd h)) rfl rfl (Nat.le_of_ble_eq_true rfl) (Nat.le_of_ble_eq_true rfl) (Nat.le_of_ble_eq_true rfl) ⟨(Nat.le_of_ble_eq_true rfl), (Nat.le_of_ble_eq_true rfl)⟩ dL_records_39 rfl (fun _ => rfl) (fun p_67 h => ?_)
      have h : Ok _ _ := h
      change J X K 13 False QQ 0 0 2064 (jl K p_67) 42 [(5, .int x5_12), (0, .ref (K.2.2 + 47)), (1, .ref (K.2.2 + 0)), (2, .ref (K.2.2 + 1)), (3, .ref (K.2.2 + 42)), (4, .ref (K.2.2 + 43))] []
      refine J_aload_n (i := 0) (p := 1) C dL_records_42 rfl rfl rfl ?_
      refine J_iconst (v := 1) C (by decide) dL_records_43 rfl ?_
      refine Jl_cV (α := Int32 × Sto) (rest := []) (st9 := fun p_68 => [.int p_68.1]) (wd := fun p_68 => p_68.2) C hR hX cv_RL_189 (k11_acts_n hl (Ok.ofnox h) (fun c hc => hc)) rfl rfl (Nat.le_of_ble_eq_true rfl) (Nat.le_of_ble_eq_true rfl) (Nat.le_of_ble_eq_true rfl) ⟨(Nat.le_of_ble_eq_true rfl), (Nat.le_of_ble_eq_true rfl)⟩ dL_records_44 rfl (fun E n9 w9 hx => hx.elim) (fun _ => rfl) (fun p_68 h => ?_)
      have h : Ok _ _ := h
      change J X K 13 False QQ 0 0 2064 (jl K (p_67.1, p_68.2)) 47 [(5, .int x5_12), (0, .ref (K.2.2 + 47)), (1, .ref (K.2.2 + 0)), (2, .ref (K.2.2 + 1)), (3, .ref (K.2.2 + 42)), (4, .ref (K.2.2 + 43))] [.int p_68.1]
      obtain ⟨x6_13, e_x6_13, h⟩ := Ok.nm h
      refine J_istoreE (i := 6) (lv' := [(6, .int x6_13), (5, .int x5_12), (0, .ref (K.2.2 + 47)), (1, .ref (K.2.2 + 0)), (2, .ref (K.2.2 + 1)), (3, .ref (K.2.2 + 42)), (4, .ref (K.2.2 + 43))]) C e_x6_13 dL_records_47 (Nat.le_of_ble_eq_true rfl) rfl rfl ?_
      refine J_aload_n (i := 0) (p := 2) C dL_records_49 rfl rfl rfl ?_
      refine J_bipush (v := 13) C (by decide) dL_records_50 rfl ?_
      refine J_iconst (v := 1) C (by decide) dL_records_52 rfl ?_
      refine J_iconst (v := 0) C (by decide) dL_records_53 rfl ?_
      refine J_iconst (v := 0) C (by decide) dL_records_54 rfl ?_
      refine Jl_cH (α := Int32 × LawS) (rest := []) (st9 := fun p_69 => [.int p_69.1]) C hR hX ch_RL_174 (kL_done hl  (Ok.ofbnd h)) rfl rfl (Nat.le_of_ble_eq_true rfl) (Nat.le_of_ble_eq_true rfl) (Nat.le_of_ble_eq_true rfl) ⟨(Nat.le_of_ble_eq_true rfl), (Nat.le_of_ble_eq_true rfl)⟩ dL_records_55 rfl (fun _ => rfl) (fun p_69 h => ?_)
      have h : Ok _ _ := h
      change J X K 13 False QQ 4 24 2064 (jl K p_69.2) 58 [(6, .int x6_13), (5, .int x5_12), (0, .ref (K.2.2 + 47)), (1, .ref (K.2.2 + 0)), (2, .ref (K.2.2 + 1)), (3, .ref (K.2.2 + 42)), (4, .ref (K.2.2 + 43))] [.int p_69.1]
      refine J_if_ne (t := 73) C dL_records_58 (by decide) rfl (fun c_70 => ?_) (fun c_70 => ?_)
      · have h := h.neg c_70
        refine J.sub [2, 3, 4, 5, 0] rfl ?_
        exact hj_73 p_69.2 x6_13 h
      · have h := h.pos (Decidable.not_not.mp c_70)
        refine J_aload_n (i := 0) (p := 2) C dL_records_61 rfl rfl rfl ?_
        refine J_iconst (v := 1) C (by decide) dL_records_62 rfl ?_
        refine Jl_cV (α := Int32 × Sto) (rest := []) (st9 := fun p_71 => [.int p_71.1]) (wd := fun p_71 => p_71.2) C hR hX cv_RL_200 (k11_record hl (Ok.ofbnd h)) rfl rfl (Nat.le_of_ble_eq_true rfl) (Nat.le_of_ble_eq_true rfl) (Nat.le_of_ble_eq_true rfl) ⟨(Nat.le_of_ble_eq_true rfl), (Nat.le_of_ble_eq_true rfl)⟩ dL_records_63 rfl (fun E n9 w9 hx => hx.elim) (fun _ => rfl) (fun p_71 h => ?_)
        have h : Ok _ _ := h
        change J X K 13 False QQ 4 24 2064 (jl K (p_69.2.1, p_71.2)) 66 [(6, .int x6_13), (5, .int x5_12), (0, .ref (K.2.2 + 47)), (1, .ref (K.2.2 + 0)), (2, .ref (K.2.2 + 1)), (3, .ref (K.2.2 + 42)), (4, .ref (K.2.2 + 43))] [.int p_71.1]
        refine J_if_lt (t := 73) C dL_records_66 (by decide) rfl (fun c_72 => ?_) (fun c_72 => ?_)
        · have h := h.pos c_72
          refine J.sub [2, 3, 4, 5, 0] rfl ?_
          exact hj_73 (p_69.2.1, p_71.2) x6_13 h
        · have h := h.neg c_72
          refine J_iconst (v := 1) C (by decide) dL_records_69 rfl ?_
          refine J_goto (t := 74) C dL_records_70 (by decide) ?_
          refine J.sub [2, 3, 4, 5, 0] rfl ?_
          exact hj_74 (p_69.2.1, p_71.2) x6_13 (1 : Int32) h
    · have h := h.pos (Decidable.not_not.mp c_66)
      refine J.sub [0] rfl ?_
      exact hj_24 p_65.2 x5_12 h
set_option maxHeartbeats 4000000 in
set_option maxRecDepth 100000 in
theorem jL_plays {l : Launch} {K : JK} (hl : l.stackTraces = false) {τ : LawS}   {Qf : Int32 × LawS → Prop} (h : Ok (fL_plays τ) Qf) {X : JX} (hX : X.2.1 = l) (hR : X.2.2.2.1 = jR 12 11989 240706) (C : Cx X K 12 RL cL_plays) (hret : X.2.2.2.2.2.2.2.2.1.sig.returnType = (some .boolean)) : J X K 12 False (jQ X K 11989 240706 (PL Qf (fun p => some (.int p.1)) (fun p => jl K p.2)) PN False) 2017 180874 2064 (jl K τ) 9 [(0, .ref (K.2.2 + 0)), (1, .ref (K.2.2 + 1)), (2, .ref (K.2.2 + 43)), (3, .ref (K.2.2 + 44)), (4, .ref (K.2.2 + 45)), (5, .ref (K.2.2 + 46)), (6, .ref (K.2.2 + 47))] [] := by
  generalize hQQ : jQ X K 11989 240706 (PL Qf (fun p => some (.int p.1)) (fun p => jl K p.2)) PN False = QQ
  have hj_581 : (∀ (τ_581 : LawS) (s0_581 : Int32), Ok (fL_plays_j581 τ_581 s0_581) Qf → J X K 12 False QQ 11989 240706 2064 (jl K τ_581) 581 [] [.int s0_581]) := by
    intro τ_581 s0_581 h
    unfold fL_plays_j581 at h
    obtain ⟨g_1, h⟩ := Ok.ofgd h
    rw [← hQQ]
    exact J_zret C hret (narB g_1).1 (Nat.le_of_ble_eq_true rfl) (Nat.le_of_ble_eq_true rfl) ⟨_, h.osome, rfl, rfl, rfl⟩ dL_plays_581
  have hj_580 : (∀ (τ_580 : LawS), Ok (fL_plays_j580 τ_580) Qf → J X K 12 False QQ 11989 240706 2064 (jl K τ_580) 580 [] []) := by
    intro τ_580 h
    unfold fL_plays_j580 at h
    refine J_iconst (v := 0) C (by decide) dL_plays_580 rfl ?_
    exact hj_581 τ_580 (0 : Int32) h
  have hj_561 : (∀ (τ_561 : LawS) (s0_561 : Int32), Ok (fL_plays_j561 τ_561 s0_561) Qf → J X K 12 False QQ 11989 240706 2064 (jl K τ_561) 561 [(6, .ref (K.2.2 + 47))] [.int s0_561]) := by
    intro τ_561 s0_561 h
    unfold fL_plays_j561 at h
    obtain ⟨x9_1, e_x9_1, h⟩ := Ok.nm h
    refine J_istoreE (i := 9) (lv' := [(9, .int x9_1), (6, .ref (K.2.2 + 47))]) C e_x9_1 dL_plays_561 (Nat.le_of_ble_eq_true rfl) rfl rfl ?_
    refine J_iload (i := 9) (p := 0) C dL_plays_563 rfl rfl ?_
    refine J_if_eq (t := 580) C dL_plays_565 (by decide) rfl (fun c_2 => ?_) (fun c_2 => ?_)
    · have h := h.pos c_2
      refine J.sub [] rfl ?_
      exact hj_580 τ_561 h
    · have h := h.neg c_2
      refine J_aload (i := 6) (p := 1) C dL_plays_568 rfl rfl ?_
      refine Jl_cV (α := Int32 × Sto) (rest := []) (st9 := fun p_3 => [.int p_3.1]) (wd := fun p_3 => p_3.2) C hR hX cv_RL_236 (k11_errors hl (Ok.ofbnd h)) rfl rfl (Nat.le_of_ble_eq_true rfl) (Nat.le_of_ble_eq_true rfl) (Nat.le_of_ble_eq_true rfl) ⟨(Nat.le_of_ble_eq_true rfl), (Nat.le_of_ble_eq_true rfl)⟩ dL_plays_570 rfl (fun E n9 w9 hx => hx.elim) (fun _ => rfl) (fun p_3 h => ?_)
      have h : Ok _ _ := h
      change J X K 12 False QQ 11989 240706 2064 (jl K (τ_561.1, p_3.2)) 573 [(9, .int x9_1), (6, .ref (K.2.2 + 47))] [.int p_3.1]
      refine J_if_ne (t := 580) C dL_plays_573 (by decide) rfl (fun c_4 => ?_) (fun c_4 => ?_)
      · have h := h.neg c_4
        refine J.sub [] rfl ?_
        exact hj_580 (τ_561.1, p_3.2) h
      · have h := h.pos (Decidable.not_not.mp c_4)
        refine J_iconst (v := 1) C (by decide) dL_plays_576 rfl ?_
        refine J_goto (t := 581) C dL_plays_577 (by decide) ?_
        refine J.sub [] rfl ?_
        exact hj_581 (τ_561.1, p_3.2) (1 : Int32) h
  have hj_560 : (∀ (τ_560 : LawS), Ok (fL_plays_j560 τ_560) Qf → J X K 12 False QQ 11989 240706 2064 (jl K τ_560) 560 [(6, .ref (K.2.2 + 47))] []) := by
    intro τ_560 h
    unfold fL_plays_j560 at h
    refine J_iconst (v := 0) C (by decide) dL_plays_560 rfl ?_
    exact hj_561 τ_560 (0 : Int32) h
  have hj_416 : (∀ (τ_416 : LawS) (l9_416 : Int32), Ok (fL_plays_j416 τ_416 l9_416) Qf → J X K 12 False QQ 11957 240514 2064 (jl K τ_416) 416 [(6, .ref (K.2.2 + 47)), (9, .int l9_416)] []) := by
    intro τ_416 l9_416 h
    unfold fL_plays_j416 at h
    refine J_aload (i := 6) (p := 0) C dL_plays_416 rfl rfl ?_
    refine J_iconst (v := 0) C (by decide) dL_plays_418 rfl ?_
    refine Jl_cV (α := Int32 × Sto) (rest := []) (st9 := fun p_5 => [.int p_5.1]) (wd := fun p_5 => p_5.2) C hR hX cv_RL_134 (k11_count_n hl (Ok.ofnox h) (fun c hc => hc)) rfl rfl (Nat.le_of_ble_eq_true rfl) (Nat.le_of_ble_eq_true rfl) (Nat.le_of_ble_eq_true rfl) ⟨(Nat.le_of_ble_eq_true rfl), (Nat.le_of_ble_eq_true rfl)⟩ dL_plays_419 rfl (fun E n9 w9 hx => hx.elim) (fun _ => rfl) (fun p_5 h => ?_)
    have h : Ok _ _ := h
    change J X K 12 False QQ 11957 240514 2064 (jl K (τ_416.1, p_5.2)) 422 [(6, .ref (K.2.2 + 47)), (9, .int l9_416)] [.int p_5.1]
    obtain ⟨x10_2, e_x10_2, h⟩ := Ok.nm h
    refine J_istoreE (i := 10) (lv' := [(10, .int x10_2), (6, .ref (K.2.2 + 47)), (9, .int l9_416)]) C e_x10_2 dL_plays_422 (Nat.le_of_ble_eq_true rfl) rfl rfl ?_
    refine J_iload (i := 9) (p := 2) C dL_plays_424 rfl rfl ?_
    refine J_if_eq (t := 560) C dL_plays_426 (by decide) rfl (fun c_6 => ?_) (fun c_6 => ?_)
    · have h := h.pos c_6
      refine J.widen (k' := 11989) (sl' := 240706) (Nat.le_of_ble_eq_true rfl) (Nat.le_of_ble_eq_true rfl) ?_
      refine J.sub [1] rfl ?_
      exact hj_560 (τ_416.1, p_5.2) h
    · have h := h.neg c_6
      refine J_aload (i := 6) (p := 1) C dL_plays_429 rfl rfl ?_
      refine J_iconst (v := 2) C (by decide) dL_plays_431 rfl ?_
      refine J_iconst (v := 0) C (by decide) dL_plays_432 rfl ?_
      refine J_iload (i := 10) (p := 0) C dL_plays_433 rfl rfl ?_
      refine J_iconst (v := 1) C (by decide) dL_plays_435 rfl ?_
      refine J_iadd C dL_plays_436 rfl ?_
      refine J_iconst (v := 0) C (by decide) dL_plays_437 rfl ?_
      refine Jl_cH (α := Int32 × LawS) (rest := []) (st9 := fun p_7 => [.int p_7.1]) C hR hX ch_RL_174 (kL_done hl  (Ok.ofbnd h)) rfl rfl (Nat.le_of_ble_eq_true rfl) (Nat.le_of_ble_eq_true rfl) (Nat.le_of_ble_eq_true rfl) ⟨(Nat.le_of_ble_eq_true rfl), (Nat.le_of_ble_eq_true rfl)⟩ dL_plays_438 rfl (fun _ => rfl) (fun p_7 h => ?_)
      have h : Ok _ _ := h
      change J X K 12 False QQ 11961 240538 2064 (jl K p_7.2) 441 [(10, .int x10_2), (6, .ref (K.2.2 + 47)), (9, .int l9_416)] [.int p_7.1]
      refine J_ldc (v := -1000001) C ci_RL_117 dL_plays_441 rfl ?_
      refine J_icmp_ne (t := 560) C dL_plays_443 (by decide) rfl (fun c_8 => ?_) (fun c_8 => ?_)
      · have h := h.neg c_8
        refine J.widen (k' := 11989) (sl' := 240706) (Nat.le_of_ble_eq_true rfl) (Nat.le_of_ble_eq_true rfl) ?_
        refine J.sub [1] rfl ?_
        exact hj_560 p_7.2 h
      · have h := h.pos (Decidable.not_not.mp c_8)
        refine J_aload (i := 6) (p := 1) C dL_plays_446 rfl rfl ?_
        refine J_iconst (v := 2) C (by decide) dL_plays_448 rfl ?_
        refine J_iconst (v := 0) C (by decide) dL_plays_449 rfl ?_
        refine J_iconst (v := -1) C (by decide) dL_plays_450 rfl ?_
        refine J_iconst (v := 0) C (by decide) dL_plays_451 rfl ?_
        refine Jl_cH (α := Int32 × LawS) (rest := []) (st9 := fun p_9 => [.int p_9.1]) C hR hX ch_RL_174 (kL_done hl  (Ok.ofbnd h)) rfl rfl (Nat.le_of_ble_eq_true rfl) (Nat.le_of_ble_eq_true rfl) (Nat.le_of_ble_eq_true rfl) ⟨(Nat.le_of_ble_eq_true rfl), (Nat.le_of_ble_eq_true rfl)⟩ dL_plays_452 rfl (fun _ => rfl) (fun p_9 h => ?_)
        have h : Ok _ _ := h
        change J X K 12 False QQ 11965 240562 2064 (jl K p_9.2) 455 [(10, .int x10_2), (6, .ref (K.2.2 + 47)), (9, .int l9_416)] [.int p_9.1]
        refine J_ldc (v := -1000001) C ci_RL_117 dL_plays_455 rfl ?_
        refine J_icmp_ne (t := 560) C dL_plays_457 (by decide) rfl (fun c_10 => ?_) (fun c_10 => ?_)
        · have h := h.neg c_10
          refine J.widen (k' := 11989) (sl' := 240706) (Nat.le_of_ble_eq_true rfl) (Nat.le_of_ble_eq_true rfl) ?_
          refine J.sub [1] rfl ?_
          exact hj_560 p_9.2 h
        · have h := h.pos (Decidable.not_not.mp c_10)
          refine J_aload (i := 6) (p := 1) C dL_plays_460 rfl rfl ?_
          refine J_iconst (v := 1) C (by decide) dL_plays_462 rfl ?_
          refine J_bipush (v := 101) C (by decide) dL_plays_463 rfl ?_
          refine J_iconst (v := 0) C (by decide) dL_plays_465 rfl ?_
          refine J_iconst (v := 0) C (by decide) dL_plays_466 rfl ?_
          refine Jl_cH (α := Int32 × LawS) (rest := []) (st9 := fun p_11 => [.int p_11.1]) C hR hX ch_RL_174 (kL_done hl  (Ok.ofbnd h)) rfl rfl (Nat.le_of_ble_eq_true rfl) (Nat.le_of_ble_eq_true rfl) (Nat.le_of_ble_eq_true rfl) ⟨(Nat.le_of_ble_eq_true rfl), (Nat.le_of_ble_eq_true rfl)⟩ dL_plays_467 rfl (fun _ => rfl) (fun p_11 h => ?_)
          have h : Ok _ _ := h
          change J X K 12 False QQ 11969 240586 2064 (jl K p_11.2) 470 [(10, .int x10_2), (6, .ref (K.2.2 + 47)), (9, .int l9_416)] [.int p_11.1]
          refine J_ldc (v := -1000002) C ci_RL_120 dL_plays_470 rfl ?_
          refine J_icmp_ne (t := 560) C dL_plays_472 (by decide) rfl (fun c_12 => ?_) (fun c_12 => ?_)
          · have h := h.neg c_12
            refine J.widen (k' := 11989) (sl' := 240706) (Nat.le_of_ble_eq_true rfl) (Nat.le_of_ble_eq_true rfl) ?_
            refine J.sub [1] rfl ?_
            exact hj_560 p_11.2 h
          · have h := h.pos (Decidable.not_not.mp c_12)
            refine J_aload (i := 6) (p := 1) C dL_plays_475 rfl rfl ?_
            refine J_bipush (v := 26) C (by decide) dL_plays_477 rfl ?_
            refine J_iload (i := 10) (p := 0) C dL_plays_479 rfl rfl ?_
            refine J_iconst (v := 0) C (by decide) dL_plays_481 rfl ?_
            refine J_iconst (v := 0) C (by decide) dL_plays_482 rfl ?_
            refine Jl_cH (α := Int32 × LawS) (rest := []) (st9 := fun p_13 => [.int p_13.1]) C hR hX ch_RL_174 (kL_done hl  (Ok.ofbnd h)) rfl rfl (Nat.le_of_ble_eq_true rfl) (Nat.le_of_ble_eq_true rfl) (Nat.le_of_ble_eq_true rfl) ⟨(Nat.le_of_ble_eq_true rfl), (Nat.le_of_ble_eq_true rfl)⟩ dL_plays_483 rfl (fun _ => rfl) (fun p_13 h => ?_)
            have h : Ok _ _ := h
            change J X K 12 False QQ 11973 240610 2064 (jl K p_13.2) 486 [(10, .int x10_2), (6, .ref (K.2.2 + 47)), (9, .int l9_416)] [.int p_13.1]
            refine J_ldc (v := -1000001) C ci_RL_117 dL_plays_486 rfl ?_
            refine J_icmp_ne (t := 560) C dL_plays_488 (by decide) rfl (fun c_14 => ?_) (fun c_14 => ?_)
            · have h := h.neg c_14
              refine J.widen (k' := 11989) (sl' := 240706) (Nat.le_of_ble_eq_true rfl) (Nat.le_of_ble_eq_true rfl) ?_
              refine J.sub [1] rfl ?_
              exact hj_560 p_13.2 h
            · have h := h.pos (Decidable.not_not.mp c_14)
              refine J_aload (i := 6) (p := 1) C dL_plays_491 rfl rfl ?_
              refine J_bipush (v := 27) C (by decide) dL_plays_493 rfl ?_
              refine J_iload (i := 10) (p := 0) C dL_plays_495 rfl rfl ?_
              refine J_iconst (v := 1) C (by decide) dL_plays_497 rfl ?_
              refine J_iadd C dL_plays_498 rfl ?_
              refine J_iconst (v := 0) C (by decide) dL_plays_499 rfl ?_
              refine J_iconst (v := 0) C (by decide) dL_plays_500 rfl ?_
              refine Jl_cH (α := Int32 × LawS) (rest := []) (st9 := fun p_15 => [.int p_15.1]) C hR hX ch_RL_174 (kL_done hl  (Ok.ofbnd h)) rfl rfl (Nat.le_of_ble_eq_true rfl) (Nat.le_of_ble_eq_true rfl) (Nat.le_of_ble_eq_true rfl) ⟨(Nat.le_of_ble_eq_true rfl), (Nat.le_of_ble_eq_true rfl)⟩ dL_plays_501 rfl (fun _ => rfl) (fun p_15 h => ?_)
              have h : Ok _ _ := h
              change J X K 12 False QQ 11977 240634 2064 (jl K p_15.2) 504 [(10, .int x10_2), (6, .ref (K.2.2 + 47)), (9, .int l9_416)] [.int p_15.1]
              refine J_ldc (v := -1000001) C ci_RL_117 dL_plays_504 rfl ?_
              refine J_icmp_ne (t := 560) C dL_plays_506 (by decide) rfl (fun c_16 => ?_) (fun c_16 => ?_)
              · have h := h.neg c_16
                refine J.widen (k' := 11989) (sl' := 240706) (Nat.le_of_ble_eq_true rfl) (Nat.le_of_ble_eq_true rfl) ?_
                refine J.sub [1] rfl ?_
                exact hj_560 p_15.2 h
              · have h := h.pos (Decidable.not_not.mp c_16)
                refine J_aload (i := 6) (p := 1) C dL_plays_509 rfl rfl ?_
                refine J_bipush (v := 16) C (by decide) dL_plays_511 rfl ?_
                refine J_iconst (v := 5) C (by decide) dL_plays_513 rfl ?_
                refine J_iconst (v := 0) C (by decide) dL_plays_514 rfl ?_
                refine J_iconst (v := 0) C (by decide) dL_plays_515 rfl ?_
                refine Jl_cH (α := Int32 × LawS) (rest := []) (st9 := fun p_17 => [.int p_17.1]) C hR hX ch_RL_174 (kL_done hl  (Ok.ofbnd h)) rfl rfl (Nat.le_of_ble_eq_true rfl) (Nat.le_of_ble_eq_true rfl) (Nat.le_of_ble_eq_true rfl) ⟨(Nat.le_of_ble_eq_true rfl), (Nat.le_of_ble_eq_true rfl)⟩ dL_plays_516 rfl (fun _ => rfl) (fun p_17 h => ?_)
                have h : Ok _ _ := h
                change J X K 12 False QQ 11981 240658 2064 (jl K p_17.2) 519 [(10, .int x10_2), (6, .ref (K.2.2 + 47)), (9, .int l9_416)] [.int p_17.1]
                refine J_ldc (v := -1000002) C ci_RL_120 dL_plays_519 rfl ?_
                refine J_icmp_ne (t := 560) C dL_plays_521 (by decide) rfl (fun c_18 => ?_) (fun c_18 => ?_)
                · have h := h.neg c_18
                  refine J.widen (k' := 11989) (sl' := 240706) (Nat.le_of_ble_eq_true rfl) (Nat.le_of_ble_eq_true rfl) ?_
                  refine J.sub [1] rfl ?_
                  exact hj_560 p_17.2 h
                · have h := h.pos (Decidable.not_not.mp c_18)
                  refine J_aload (i := 6) (p := 1) C dL_plays_524 rfl rfl ?_
                  refine J_bipush (v := 24) C (by decide) dL_plays_526 rfl ?_
                  refine J_iconst (v := 0) C (by decide) dL_plays_528 rfl ?_
                  refine J_iconst (v := 0) C (by decide) dL_plays_529 rfl ?_
                  refine J_iconst (v := 0) C (by decide) dL_plays_530 rfl ?_
                  refine Jl_cH (α := Int32 × LawS) (rest := []) (st9 := fun p_19 => [.int p_19.1]) C hR hX ch_RL_174 (kL_done hl  (Ok.ofbnd h)) rfl rfl (Nat.le_of_ble_eq_true rfl) (Nat.le_of_ble_eq_true rfl) (Nat.le_of_ble_eq_true rfl) ⟨(Nat.le_of_ble_eq_true rfl), (Nat.le_of_ble_eq_true rfl)⟩ dL_plays_531 rfl (fun _ => rfl) (fun p_19 h => ?_)
                  have h : Ok _ _ := h
                  change J X K 12 False QQ 11985 240682 2064 (jl K p_19.2) 534 [(10, .int x10_2), (6, .ref (K.2.2 + 47)), (9, .int l9_416)] [.int p_19.1]
                  refine J_ldc (v := -1000002) C ci_RL_120 dL_plays_534 rfl ?_
                  refine J_icmp_ne (t := 560) C dL_plays_536 (by decide) rfl (fun c_20 => ?_) (fun c_20 => ?_)
                  · have h := h.neg c_20
                    refine J.widen (k' := 11989) (sl' := 240706) (Nat.le_of_ble_eq_true rfl) (Nat.le_of_ble_eq_true rfl) ?_
                    refine J.sub [1] rfl ?_
                    exact hj_560 p_19.2 h
                  · have h := h.pos (Decidable.not_not.mp c_20)
                    refine J_aload (i := 6) (p := 1) C dL_plays_539 rfl rfl ?_
                    refine J_bipush (v := 10) C (by decide) dL_plays_541 rfl ?_
                    refine J_sipush (v := 151) C (by decide) dL_plays_543 rfl ?_
                    refine J_iconst (v := 0) C (by decide) dL_plays_546 rfl ?_
                    refine J_iconst (v := 0) C (by decide) dL_plays_547 rfl ?_
                    refine Jl_cH (α := Int32 × LawS) (rest := []) (st9 := fun p_21 => [.int p_21.1]) C hR hX ch_RL_174 (kL_done hl  (Ok.ofbnd h)) rfl rfl (Nat.le_of_ble_eq_true rfl) (Nat.le_of_ble_eq_true rfl) (Nat.le_of_ble_eq_true rfl) ⟨(Nat.le_of_ble_eq_true rfl), (Nat.le_of_ble_eq_true rfl)⟩ dL_plays_548 rfl (fun _ => rfl) (fun p_21 h => ?_)
                    have h : Ok _ _ := h
                    change J X K 12 False QQ 11989 240706 2064 (jl K p_21.2) 551 [(10, .int x10_2), (6, .ref (K.2.2 + 47)), (9, .int l9_416)] [.int p_21.1]
                    refine J_ldc (v := -1000002) C ci_RL_120 dL_plays_551 rfl ?_
                    refine J_icmp_ne (t := 560) C dL_plays_553 (by decide) rfl (fun c_22 => ?_) (fun c_22 => ?_)
                    · have h := h.neg c_22
                      refine J.sub [1] rfl ?_
                      exact hj_560 p_21.2 h
                    · have h := h.pos (Decidable.not_not.mp c_22)
                      refine J_iconst (v := 1) C (by decide) dL_plays_556 rfl ?_
                      refine J_goto (t := 561) C dL_plays_557 (by decide) ?_
                      refine J.sub [1] rfl ?_
                      exact hj_561 p_21.2 (1 : Int32) h
  have hj_102 : (∀ (τ_102 : LawS) (l9_102 : Int32) (l10_102 : Int32), Ok (fL_plays_j102 τ_102 l9_102 l10_102) Qf → J X K 12 False QQ 2029 180946 2064 (jl K τ_102) 102 [(0, .ref (K.2.2 + 0)), (1, .ref (K.2.2 + 1)), (2, .ref (K.2.2 + 43)), (3, .ref (K.2.2 + 44)), (4, .ref (K.2.2 + 45)), (5, .ref (K.2.2 + 46)), (6, .ref (K.2.2 + 47)), (7, .ref (K.2.2 + 41)), (8, .ref (K.2.2 + 42)), (9, .int l9_102), (10, .int l10_102)] []) := by
    intro τ_102 l9_102 l10_102 h
    unfold fL_plays_j102 at h
    refine loop_room (S := LawS × Int32 × Int32) (P := fun m_102 s_102 => ∀ k_102 : Nat, k_102 + m_102 * 584 ≤ 11957 → J X K 12 False QQ k_102 (6 * k_102 + 168772) 2064 (jl K s_102.1) 102 [(0, .ref (K.2.2 + 0)), (1, .ref (K.2.2 + 1)), (2, .ref (K.2.2 + 43)), (3, .ref (K.2.2 + 44)), (4, .ref (K.2.2 + 45)), (5, .ref (K.2.2 + 46)), (6, .ref (K.2.2 + 47)), (7, .ref (K.2.2 + 41)), (8, .ref (K.2.2 + 42)), (9, .int s_102.2.1), (10, .int s_102.2.2)] []) ?_ 17 (τ_102, l9_102, l10_102) (Ok.ofbnd h) 2029 (by omega)
    intro m_102 B_102 hB_102 hE_102 s_102 h k_102 hk_102
    obtain ⟨τ_102, l9_102, l10_102⟩ := s_102
    have h : Ok (fL_plays_b102 τ_102 l9_102 l10_102) B_102 := h
    change J X K 12 False QQ k_102 (6 * k_102 + 168772) 2064 (jl K τ_102) 102 [(0, .ref (K.2.2 + 0)), (1, .ref (K.2.2 + 1)), (2, .ref (K.2.2 + 43)), (3, .ref (K.2.2 + 44)), (4, .ref (K.2.2 + 45)), (5, .ref (K.2.2 + 46)), (6, .ref (K.2.2 + 47)), (7, .ref (K.2.2 + 41)), (8, .ref (K.2.2 + 42)), (9, .int l9_102), (10, .int l10_102)] []
    have hj_408 : (∀ (τ_408 : LawS) (l10_408 : Int32) (s0_408 : Int32), Ok (fL_plays_j408 τ_408 l10_408 s0_408) B_102 → J X K 12 False QQ (k_102 + 584) (6 * (k_102 + 584) + 168772) 2064 (jl K τ_408) 408 [(0, .ref (K.2.2 + 0)), (1, .ref (K.2.2 + 1)), (2, .ref (K.2.2 + 43)), (3, .ref (K.2.2 + 44)), (4, .ref (K.2.2 + 45)), (5, .ref (K.2.2 + 46)), (6, .ref (K.2.2 + 47)), (7, .ref (K.2.2 + 41)), (8, .ref (K.2.2 + 42)), (10, .int l10_408)] [.int s0_408]) := by
      intro τ_408 l10_408 s0_408 h
      unfold fL_plays_j408 at h
      obtain ⟨x9_3, e_x9_3, h⟩ := Ok.nm h
      refine J_istoreE (i := 9) (lv' := [(9, .int x9_3), (0, .ref (K.2.2 + 0)), (1, .ref (K.2.2 + 1)), (2, .ref (K.2.2 + 43)), (3, .ref (K.2.2 + 44)), (4, .ref (K.2.2 + 45)), (5, .ref (K.2.2 + 46)), (6, .ref (K.2.2 + 47)), (7, .ref (K.2.2 + 41)), (8, .ref (K.2.2 + 42)), (10, .int l10_408)]) C e_x9_3 dL_plays_408 (Nat.le_of_ble_eq_true rfl) rfl rfl ?_
      obtain ⟨x10_4, e_x10_4, h⟩ := Ok.nm h
      refine J_iincE (i := 10) (p := 10) (lv' := [(10, .int x10_4), (9, .int x9_3), (0, .ref (K.2.2 + 0)), (1, .ref (K.2.2 + 1)), (2, .ref (K.2.2 + 43)), (3, .ref (K.2.2 + 44)), (4, .ref (K.2.2 + 45)), (5, .ref (K.2.2 + 46)), (6, .ref (K.2.2 + 47)), (7, .ref (K.2.2 + 41)), (8, .ref (K.2.2 + 42))]) C e_x10_4 dL_plays_410 rfl (by decide) (Nat.le_of_ble_eq_true rfl) rfl rfl ?_
      refine J_goto (t := 102) C dL_plays_413 (by decide) ?_
      refine J.sub [2, 3, 4, 5, 6, 7, 8, 9, 10, 1, 0] rfl ?_
      exact hB_102 (τ_408, x9_3, x10_4) h.osome (k_102 + 584) (by omega)
    have hj_407 : (∀ (τ_407 : LawS) (l10_407 : Int32), Ok (fL_plays_j407 τ_407 l10_407) B_102 → J X K 12 False QQ (k_102 + 584) (6 * (k_102 + 584) + 168772) 2064 (jl K τ_407) 407 [(0, .ref (K.2.2 + 0)), (1, .ref (K.2.2 + 1)), (2, .ref (K.2.2 + 43)), (3, .ref (K.2.2 + 44)), (4, .ref (K.2.2 + 45)), (5, .ref (K.2.2 + 46)), (6, .ref (K.2.2 + 47)), (7, .ref (K.2.2 + 41)), (8, .ref (K.2.2 + 42)), (10, .int l10_407)] []) := by
      intro τ_407 l10_407 h
      unfold fL_plays_j407 at h
      refine J_iconst (v := 0) C (by decide) dL_plays_407 rfl ?_
      exact hj_408 τ_407 l10_407 (0 : Int32) h
    have hj_387 : (∀ (τ_387 : LawS) (l9_387 : Int32) (l10_387 : Int32), Ok (fL_plays_j387 τ_387 l9_387 l10_387) B_102 → J X K 12 False QQ (k_102 + 584) (6 * (k_102 + 584) + 168772) 2064 (jl K τ_387) 387 [(0, .ref (K.2.2 + 0)), (1, .ref (K.2.2 + 1)), (2, .ref (K.2.2 + 43)), (3, .ref (K.2.2 + 44)), (4, .ref (K.2.2 + 45)), (5, .ref (K.2.2 + 46)), (6, .ref (K.2.2 + 47)), (7, .ref (K.2.2 + 41)), (8, .ref (K.2.2 + 42)), (9, .int l9_387), (10, .int l10_387)] []) := by
      intro τ_387 l9_387 l10_387 h
      unfold fL_plays_j387 at h
      refine J_iload (i := 9) (p := 9) C dL_plays_387 rfl rfl ?_
      refine J_if_eq (t := 407) C dL_plays_389 (by decide) rfl (fun c_23 => ?_) (fun c_23 => ?_)
      · have h := h.pos c_23
        refine J.sub [0, 1, 2, 3, 4, 5, 6, 7, 8, 10] rfl ?_
        exact hj_407 τ_387 l10_387 h
      · have h := h.neg c_23
        refine J_aload (i := 6) (p := 6) C dL_plays_392 rfl rfl ?_
        refine J_aload_n (i := 0) (p := 0) C dL_plays_394 rfl rfl rfl ?_
        refine J_aload (i := 8) (p := 8) C dL_plays_395 rfl rfl ?_
        refine Jl_cS (α := Int32 × LawS) (rest := []) (st9 := fun p_24 => [.int p_24.1]) C hR hX cs_RL_233 (kL_holds hl  (Ok.ofbnd h)) rfl rfl (Nat.le_of_ble_eq_true rfl) (Nat.le_of_ble_eq_true rfl) (Nat.le_of_ble_eq_true rfl) ⟨(by omega), (by omega)⟩ dL_plays_397 rfl (fun _ => rfl) (fun p_24 h => ?_)
        have h : Ok _ _ := h
        change J X K 12 False QQ (k_102 + 584) (6 * (k_102 + 584) + 168772) 2064 (jl K p_24.2) 400 [(0, .ref (K.2.2 + 0)), (1, .ref (K.2.2 + 1)), (2, .ref (K.2.2 + 43)), (3, .ref (K.2.2 + 44)), (4, .ref (K.2.2 + 45)), (5, .ref (K.2.2 + 46)), (6, .ref (K.2.2 + 47)), (7, .ref (K.2.2 + 41)), (8, .ref (K.2.2 + 42)), (9, .int l9_387), (10, .int l10_387)] [.int p_24.1]
        refine J_if_eq (t := 407) C dL_plays_400 (by decide) rfl (fun c_25 => ?_) (fun c_25 => ?_)
        · have h := h.pos c_25
          refine J.sub [0, 1, 2, 3, 4, 5, 6, 7, 8, 10] rfl ?_
          exact hj_407 p_24.2 l10_387 h
        · have h := h.neg c_25
          refine J_iconst (v := 1) C (by decide) dL_plays_403 rfl ?_
          refine J_goto (t := 408) C dL_plays_404 (by decide) ?_
          refine J.sub [0, 1, 2, 3, 4, 5, 6, 7, 8, 10] rfl ?_
          exact hj_408 p_24.2 l10_387 (1 : Int32) h
    have hj_385 : (∀ (τ_385 : LawS) (l10_385 : Int32) (s0_385 : Int32), Ok (fL_plays_j385 τ_385 l10_385 s0_385) B_102 → J X K 12 False QQ (k_102 + 48) (6 * (k_102 + 48) + 168772) 2064 (jl K τ_385) 385 [(0, .ref (K.2.2 + 0)), (1, .ref (K.2.2 + 1)), (2, .ref (K.2.2 + 43)), (3, .ref (K.2.2 + 44)), (4, .ref (K.2.2 + 45)), (5, .ref (K.2.2 + 46)), (6, .ref (K.2.2 + 47)), (7, .ref (K.2.2 + 41)), (8, .ref (K.2.2 + 42)), (10, .int l10_385)] [.int s0_385]) := by
      intro τ_385 l10_385 s0_385 h
      unfold fL_plays_j385 at h
      obtain ⟨x9_5, e_x9_5, h⟩ := Ok.nm h
      refine J_istoreE (i := 9) (lv' := [(9, .int x9_5), (0, .ref (K.2.2 + 0)), (1, .ref (K.2.2 + 1)), (2, .ref (K.2.2 + 43)), (3, .ref (K.2.2 + 44)), (4, .ref (K.2.2 + 45)), (5, .ref (K.2.2 + 46)), (6, .ref (K.2.2 + 47)), (7, .ref (K.2.2 + 41)), (8, .ref (K.2.2 + 42)), (10, .int l10_385)]) C e_x9_5 dL_plays_385 (Nat.le_of_ble_eq_true rfl) rfl rfl ?_
      refine J.widen (k' := (k_102 + 584)) (sl' := (6 * (k_102 + 584) + 168772)) (by omega) (by omega) ?_
      refine J.sub [1, 2, 3, 4, 5, 6, 7, 8, 9, 0, 10] rfl ?_
      exact hj_387 τ_385 x9_5 l10_385 h
    have hj_341 : (∀ (τ_341 : LawS) (l10_341 : Int32) (s0_341 : Int32), Ok (fL_plays_j341 τ_341 l10_341 s0_341) B_102 → J X K 12 False QQ (k_102 + 12) (6 * (k_102 + 12) + 168772) 2064 (jl K τ_341) 341 [(0, .ref (K.2.2 + 0)), (1, .ref (K.2.2 + 1)), (2, .ref (K.2.2 + 43)), (3, .ref (K.2.2 + 44)), (4, .ref (K.2.2 + 45)), (5, .ref (K.2.2 + 46)), (6, .ref (K.2.2 + 47)), (7, .ref (K.2.2 + 41)), (8, .ref (K.2.2 + 42)), (10, .int l10_341)] [.int s0_341]) := by
      intro τ_341 l10_341 s0_341 h
      unfold fL_plays_j341 at h
      obtain ⟨x9_6, e_x9_6, h⟩ := Ok.nm h
      refine J_istoreE (i := 9) (lv' := [(9, .int x9_6), (0, .ref (K.2.2 + 0)), (1, .ref (K.2.2 + 1)), (2, .ref (K.2.2 + 43)), (3, .ref (K.2.2 + 44)), (4, .ref (K.2.2 + 45)), (5, .ref (K.2.2 + 46)), (6, .ref (K.2.2 + 47)), (7, .ref (K.2.2 + 41)), (8, .ref (K.2.2 + 42)), (10, .int l10_341)]) C e_x9_6 dL_plays_341 (Nat.le_of_ble_eq_true rfl) rfl rfl ?_
      refine J_goto (t := 387) C dL_plays_343 (by decide) ?_
      refine J.widen (k' := (k_102 + 584)) (sl' := (6 * (k_102 + 584) + 168772)) (by omega) (by omega) ?_
      refine J.sub [1, 2, 3, 4, 5, 6, 7, 8, 9, 0, 10] rfl ?_
      exact hj_387 τ_341 x9_6 l10_341 h
    have hj_340 : (∀ (τ_340 : LawS) (l10_340 : Int32), Ok (fL_plays_j340 τ_340 l10_340) B_102 → J X K 12 False QQ (k_102 + 12) (6 * (k_102 + 12) + 168772) 2064 (jl K τ_340) 340 [(0, .ref (K.2.2 + 0)), (1, .ref (K.2.2 + 1)), (2, .ref (K.2.2 + 43)), (3, .ref (K.2.2 + 44)), (4, .ref (K.2.2 + 45)), (5, .ref (K.2.2 + 46)), (6, .ref (K.2.2 + 47)), (7, .ref (K.2.2 + 41)), (8, .ref (K.2.2 + 42)), (10, .int l10_340)] []) := by
      intro τ_340 l10_340 h
      unfold fL_plays_j340 at h
      refine J_iconst (v := 0) C (by decide) dL_plays_340 rfl ?_
      exact hj_341 τ_340 l10_340 (0 : Int32) h
    have hj_154 : (∀ (τ_154 : LawS) (l10_154 : Int32) (l11_154 : Int32), Ok (fL_plays_j154 τ_154 l10_154 l11_154) B_102 → J X K 12 False QQ (k_102 + 4) (6 * (k_102 + 4) + 168772) 2064 (jl K τ_154) 154 [(0, .ref (K.2.2 + 0)), (1, .ref (K.2.2 + 1)), (2, .ref (K.2.2 + 43)), (3, .ref (K.2.2 + 44)), (4, .ref (K.2.2 + 45)), (5, .ref (K.2.2 + 46)), (6, .ref (K.2.2 + 47)), (7, .ref (K.2.2 + 41)), (8, .ref (K.2.2 + 42)), (10, .int l10_154), (11, .int l11_154)] []) := by
      intro τ_154 l10_154 l11_154 h
      unfold fL_plays_j154 at h
      refine J_iload (i := 11) (p := 10) C dL_plays_154 rfl rfl ?_
      refine J_iconst (v := 2) C (by decide) dL_plays_156 rfl ?_
      refine J_icmp_ge (t := 178) C dL_plays_157 (by decide) rfl (fun c_26 => ?_) (fun c_26 => ?_)
      · have h := h.pos c_26
        refine J_iload (i := 11) (p := 10) C dL_plays_178 rfl rfl ?_
        refine J_iconst (v := 2) C (by decide) dL_plays_180 rfl ?_
        refine J_icmp_ne (t := 203) C dL_plays_181 (by decide) rfl (fun c_27 => ?_) (fun c_27 => ?_)
        · have h := h.neg c_27
          refine J_iload (i := 11) (p := 10) C dL_plays_203 rfl rfl ?_
          refine J_iconst (v := 5) C (by decide) dL_plays_205 rfl ?_
          refine J_icmp_ge (t := 226) C dL_plays_206 (by decide) rfl (fun c_28 => ?_) (fun c_28 => ?_)
          · have h := h.pos c_28
            refine J_iload (i := 11) (p := 10) C dL_plays_226 rfl rfl ?_
            refine J_iconst (v := 5) C (by decide) dL_plays_228 rfl ?_
            refine J_icmp_ne (t := 247) C dL_plays_229 (by decide) rfl (fun c_29 => ?_) (fun c_29 => ?_)
            · have h := h.neg c_29
              refine J_iload (i := 11) (p := 10) C dL_plays_247 rfl rfl ?_
              refine J_bipush (v := 8) C (by decide) dL_plays_249 rfl ?_
              refine J_icmp_ge (t := 267) C dL_plays_251 (by decide) rfl (fun c_30 => ?_) (fun c_30 => ?_)
              · have h := h.pos c_30
                refine J_iload (i := 11) (p := 10) C dL_plays_267 rfl rfl ?_
                refine J_bipush (v := 8) C (by decide) dL_plays_269 rfl ?_
                refine J_icmp_ne (t := 346) C dL_plays_271 (by decide) rfl (fun c_31 => ?_) (fun c_31 => ?_)
                · have h := h.neg c_31
                  refine J_aload_n (i := 0) (p := 0) C dL_plays_346 rfl rfl rfl ?_
                  refine Jl_cS (α := Int32 × LawS) (rest := []) (st9 := fun p_32 => [.int p_32.1]) C hR hX cs_RL_8 (kL_next hl  (Ok.ofbnd h)) rfl rfl (Nat.le_of_ble_eq_true rfl) (Nat.le_of_ble_eq_true rfl) (Nat.le_of_ble_eq_true rfl) ⟨(by omega), (by omega)⟩ dL_plays_347 rfl (fun _ => rfl) (fun p_32 h => ?_)
                  have h : Ok _ _ := h
                  change J X K 12 False QQ (k_102 + 4) (6 * (k_102 + 4) + 168772) 2064 (jl K p_32.2) 350 [(0, .ref (K.2.2 + 0)), (1, .ref (K.2.2 + 1)), (2, .ref (K.2.2 + 43)), (3, .ref (K.2.2 + 44)), (4, .ref (K.2.2 + 45)), (5, .ref (K.2.2 + 46)), (6, .ref (K.2.2 + 47)), (7, .ref (K.2.2 + 41)), (8, .ref (K.2.2 + 42)), (10, .int l10_154), (11, .int l11_154)] [.int p_32.1]
                  refine J_iconst (v := 2) C (by decide) dL_plays_350 rfl ?_
                  refine J_irem C (by decide) dL_plays_351 rfl ?_
                  refine J_if_ne (t := 368) C dL_plays_352 (by decide) rfl (fun c_33 => ?_) (fun c_33 => ?_)
                  · have h := h.neg c_33
                    refine J_aload (i := 6) (p := 6) C dL_plays_368 rfl rfl ?_
                    refine J_aload_n (i := 0) (p := 0) C dL_plays_370 rfl rfl rfl ?_
                    refine J_aload_n (i := 2) (p := 2) C dL_plays_371 rfl rfl rfl ?_
                    refine Jl_cS (α := Int32 × LawS) (rest := []) (st9 := fun p_34 => [.int p_34.1]) C hR hX cs_RL_193 (kL_acts hl  (Ok.ofbnd h)) rfl rfl (Nat.le_of_ble_eq_true rfl) (Nat.le_of_ble_eq_true rfl) (Nat.le_of_ble_eq_true rfl) ⟨(by omega), (by omega)⟩ dL_plays_372 rfl (fun _ => rfl) (fun p_34 h => ?_)
                    have h : Ok _ _ := h
                    refine J.widen (k' := (k_102 + 12)) (sl' := (6 * (k_102 + 12) + 168772)) (by omega) (by omega) ?_
                    change J X K 12 False QQ (k_102 + 12) (6 * (k_102 + 12) + 168772) 2064 (jl K p_34.2) 375 [(0, .ref (K.2.2 + 0)), (1, .ref (K.2.2 + 1)), (2, .ref (K.2.2 + 43)), (3, .ref (K.2.2 + 44)), (4, .ref (K.2.2 + 45)), (5, .ref (K.2.2 + 46)), (6, .ref (K.2.2 + 47)), (7, .ref (K.2.2 + 41)), (8, .ref (K.2.2 + 42)), (10, .int l10_154), (11, .int l11_154)] [.int p_34.1]
                    refine J_ldc (v := -1000009) C ci_RL_192 dL_plays_375 rfl ?_
                    refine J_icmp_le (t := 384) C dL_plays_377 (by decide) rfl (fun c_35 => ?_) (fun c_35 => ?_)
                    · have h := h.pos c_35
                      refine J_iconst (v := 0) C (by decide) dL_plays_384 rfl ?_
                      refine J.widen (k' := (k_102 + 48)) (sl' := (6 * (k_102 + 48) + 168772)) (by omega) (by omega) ?_
                      refine J.sub [0, 1, 2, 3, 4, 5, 6, 7, 8, 9] rfl ?_
                      exact hj_385 p_34.2 l10_154 (0 : Int32) h
                    · have h := h.neg c_35
                      refine J_iconst (v := 1) C (by decide) dL_plays_380 rfl ?_
                      refine J_goto (t := 385) C dL_plays_381 (by decide) ?_
                      refine J.widen (k' := (k_102 + 48)) (sl' := (6 * (k_102 + 48) + 168772)) (by omega) (by omega) ?_
                      refine J.sub [0, 1, 2, 3, 4, 5, 6, 7, 8, 9] rfl ?_
                      exact hj_385 p_34.2 l10_154 (1 : Int32) h
                  · have h := h.pos (Decidable.not_not.mp c_33)
                    refine J_aload (i := 6) (p := 6) C dL_plays_355 rfl rfl ?_
                    refine J_aload_n (i := 0) (p := 0) C dL_plays_357 rfl rfl rfl ?_
                    refine J_aload_n (i := 1) (p := 1) C dL_plays_358 rfl rfl rfl ?_
                    refine J_aload (i := 8) (p := 8) C dL_plays_359 rfl rfl ?_
                    refine J_aload_n (i := 2) (p := 2) C dL_plays_361 rfl rfl rfl ?_
                    refine Jl_cS (α := Int32 × LawS) (rest := []) (st9 := fun p_36 => [.int p_36.1]) C hR hX cs_RL_230 (kL_records hl  (Ok.ofbnd h)) rfl rfl (Nat.le_of_ble_eq_true rfl) (Nat.le_of_ble_eq_true rfl) (Nat.le_of_ble_eq_true rfl) ⟨(by omega), (by omega)⟩ dL_plays_362 rfl (fun _ => rfl) (fun p_36 h => ?_)
                    have h : Ok _ _ := h
                    refine J.widen (k' := (k_102 + 48)) (sl' := (6 * (k_102 + 48) + 168772)) (by omega) (by omega) ?_
                    change J X K 12 False QQ (k_102 + 48) (6 * (k_102 + 48) + 168772) 2064 (jl K p_36.2) 365 [(0, .ref (K.2.2 + 0)), (1, .ref (K.2.2 + 1)), (2, .ref (K.2.2 + 43)), (3, .ref (K.2.2 + 44)), (4, .ref (K.2.2 + 45)), (5, .ref (K.2.2 + 46)), (6, .ref (K.2.2 + 47)), (7, .ref (K.2.2 + 41)), (8, .ref (K.2.2 + 42)), (10, .int l10_154), (11, .int l11_154)] [.int p_36.1]
                    refine J_goto (t := 385) C dL_plays_365 (by decide) ?_
                    refine J.sub [0, 1, 2, 3, 4, 5, 6, 7, 8, 9] rfl ?_
                    exact hj_385 p_36.2 l10_154 p_36.1 h
                · have h := h.pos (Decidable.not_not.mp c_31)
                  refine J_aload (i := 6) (p := 6) C dL_plays_274 rfl rfl ?_
                  refine Jl_cV (α := Int32 × Sto) (rest := []) (st9 := fun p_37 => [.int p_37.1]) (wd := fun p_37 => p_37.2) C hR hX cv_RL_220 (k11_keep hl (Ok.ofbnd h)) rfl rfl (Nat.le_of_ble_eq_true rfl) (Nat.le_of_ble_eq_true rfl) (Nat.le_of_ble_eq_true rfl) ⟨(by omega), (by omega)⟩ dL_plays_276 rfl (fun E n9 w9 hx => hx.elim) (fun _ => rfl) (fun p_37 h => ?_)
                  have h : Ok _ _ := h
                  change J X K 12 False QQ (k_102 + 4) (6 * (k_102 + 4) + 168772) 2064 (jl K (τ_154.1, p_37.2)) 279 [(0, .ref (K.2.2 + 0)), (1, .ref (K.2.2 + 1)), (2, .ref (K.2.2 + 43)), (3, .ref (K.2.2 + 44)), (4, .ref (K.2.2 + 45)), (5, .ref (K.2.2 + 46)), (6, .ref (K.2.2 + 47)), (7, .ref (K.2.2 + 41)), (8, .ref (K.2.2 + 42)), (10, .int l10_154), (11, .int l11_154)] [.int p_37.1]
                  refine J_aload (i := 6) (p := 6) C dL_plays_279 rfl rfl ?_
                  refine J_iconst (v := 1) C (by decide) dL_plays_281 rfl ?_
                  refine Jl_cV (α := Int32 × Sto) (rest := [.int p_37.1]) (st9 := fun p_38 => [.int p_38.1, .int p_37.1]) (wd := fun p_38 => p_38.2) C hR hX cv_RL_134 (k11_count_n hl (Ok.ofnox h) (fun c hc => hc)) rfl rfl (Nat.le_of_ble_eq_true rfl) (Nat.le_of_ble_eq_true rfl) (Nat.le_of_ble_eq_true rfl) ⟨(by omega), (by omega)⟩ dL_plays_282 rfl (fun E n9 w9 hx => hx.elim) (fun _ => rfl) (fun p_38 h => ?_)
                  have h : Ok _ _ := h
                  change J X K 12 False QQ (k_102 + 4) (6 * (k_102 + 4) + 168772) 2064 (jl K (τ_154.1, p_38.2)) 285 [(0, .ref (K.2.2 + 0)), (1, .ref (K.2.2 + 1)), (2, .ref (K.2.2 + 43)), (3, .ref (K.2.2 + 44)), (4, .ref (K.2.2 + 45)), (5, .ref (K.2.2 + 46)), (6, .ref (K.2.2 + 47)), (7, .ref (K.2.2 + 41)), (8, .ref (K.2.2 + 42)), (10, .int l10_154), (11, .int l11_154)] [.int p_38.1, .int p_37.1]
                  refine J_icmp_ne (t := 340) C dL_plays_285 (by decide) rfl (fun c_39 => ?_) (fun c_39 => ?_)
                  · have h := h.neg c_39
                    refine J.widen (k' := (k_102 + 12)) (sl' := (6 * (k_102 + 12) + 168772)) (by omega) (by omega) ?_
                    refine J.sub [0, 1, 2, 3, 4, 5, 6, 7, 8, 9] rfl ?_
                    exact hj_340 (τ_154.1, p_38.2) l10_154 h
                  · have h := h.pos (Decidable.not_not.mp c_39)
                    refine J_aload (i := 6) (p := 6) C dL_plays_288 rfl rfl ?_
                    refine Jl_cV (α := Int32 × Sto) (rest := []) (st9 := fun p_40 => [.int p_40.1]) (wd := fun p_40 => p_40.2) C hR hX cv_RL_223 (k11_differences hl (Ok.ofbnd h)) rfl rfl (Nat.le_of_ble_eq_true rfl) (Nat.le_of_ble_eq_true rfl) (Nat.le_of_ble_eq_true rfl) ⟨(by omega), (by omega)⟩ dL_plays_290 rfl (fun E n9 w9 hx => hx.elim) (fun _ => rfl) (fun p_40 h => ?_)
                    have h : Ok _ _ := h
                    change J X K 12 False QQ (k_102 + 4) (6 * (k_102 + 4) + 168772) 2064 (jl K (τ_154.1, p_40.2)) 293 [(0, .ref (K.2.2 + 0)), (1, .ref (K.2.2 + 1)), (2, .ref (K.2.2 + 43)), (3, .ref (K.2.2 + 44)), (4, .ref (K.2.2 + 45)), (5, .ref (K.2.2 + 46)), (6, .ref (K.2.2 + 47)), (7, .ref (K.2.2 + 41)), (8, .ref (K.2.2 + 42)), (10, .int l10_154), (11, .int l11_154)] [.int p_40.1]
                    refine J_if_ne (t := 340) C dL_plays_293 (by decide) rfl (fun c_41 => ?_) (fun c_41 => ?_)
                    · have h := h.neg c_41
                      refine J.widen (k' := (k_102 + 12)) (sl' := (6 * (k_102 + 12) + 168772)) (by omega) (by omega) ?_
                      refine J.sub [0, 1, 2, 3, 4, 5, 6, 7, 8, 9] rfl ?_
                      exact hj_340 (τ_154.1, p_40.2) l10_154 h
                    · have h := h.pos (Decidable.not_not.mp c_41)
                      refine J_aload (i := 6) (p := 6) C dL_plays_296 rfl rfl ?_
                      refine Jl_cV (α := UInt32 × Sto) (rest := []) (st9 := fun p_42 => [.float p_42.1]) (wd := fun p_42 => p_42.2) C hR hX cv_RL_226 (k11_sameShare hl (Ok.ofbnd h)) rfl rfl (Nat.le_of_ble_eq_true rfl) (Nat.le_of_ble_eq_true rfl) (Nat.le_of_ble_eq_true rfl) ⟨(by omega), (by omega)⟩ dL_plays_298 rfl (fun E n9 w9 hx => hx.elim) (fun _ => rfl) (fun p_42 h => ?_)
                      have h : Ok _ _ := h
                      change J X K 12 False QQ (k_102 + 4) (6 * (k_102 + 4) + 168772) 2064 (jl K (τ_154.1, p_42.2)) 301 [(0, .ref (K.2.2 + 0)), (1, .ref (K.2.2 + 1)), (2, .ref (K.2.2 + 43)), (3, .ref (K.2.2 + 44)), (4, .ref (K.2.2 + 45)), (5, .ref (K.2.2 + 46)), (6, .ref (K.2.2 + 47)), (7, .ref (K.2.2 + 41)), (8, .ref (K.2.2 + 42)), (10, .int l10_154), (11, .int l11_154)] [.float p_42.1]
                      refine J_fconst1 C dL_plays_301 rfl ?_
                      refine J_fcmp C dL_plays_302 rfl ?_
                      refine J_if_ne (t := 340) C dL_plays_303 (by decide) rfl (fun c_43 => ?_) (fun c_43 => ?_)
                      · have h := h.neg c_43
                        refine J.widen (k' := (k_102 + 12)) (sl' := (6 * (k_102 + 12) + 168772)) (by omega) (by omega) ?_
                        refine J.sub [0, 1, 2, 3, 4, 5, 6, 7, 8, 9] rfl ?_
                        exact hj_340 (τ_154.1, p_42.2) l10_154 h
                      · have h := h.pos (Decidable.not_not.mp c_43)
                        refine J_aload (i := 6) (p := 6) C dL_plays_306 rfl rfl ?_
                        refine J_aload_n (i := 0) (p := 0) C dL_plays_308 rfl rfl rfl ?_
                        refine J_aload_n (i := 2) (p := 2) C dL_plays_309 rfl rfl rfl ?_
                        refine Jl_cS (α := Int32 × LawS) (rest := []) (st9 := fun p_44 => [.int p_44.1]) C hR hX cs_RL_193 (kL_acts hl  (Ok.ofbnd h)) rfl rfl (Nat.le_of_ble_eq_true rfl) (Nat.le_of_ble_eq_true rfl) (Nat.le_of_ble_eq_true rfl) ⟨(by omega), (by omega)⟩ dL_plays_310 rfl (fun _ => rfl) (fun p_44 h => ?_)
                        have h : Ok _ _ := h
                        refine J.widen (k' := (k_102 + 12)) (sl' := (6 * (k_102 + 12) + 168772)) (by omega) (by omega) ?_
                        change J X K 12 False QQ (k_102 + 12) (6 * (k_102 + 12) + 168772) 2064 (jl K p_44.2) 313 [(0, .ref (K.2.2 + 0)), (1, .ref (K.2.2 + 1)), (2, .ref (K.2.2 + 43)), (3, .ref (K.2.2 + 44)), (4, .ref (K.2.2 + 45)), (5, .ref (K.2.2 + 46)), (6, .ref (K.2.2 + 47)), (7, .ref (K.2.2 + 41)), (8, .ref (K.2.2 + 42)), (10, .int l10_154), (11, .int l11_154)] [.int p_44.1]
                        refine J_ldc (v := -1000009) C ci_RL_192 dL_plays_313 rfl ?_
                        refine J_icmp_le (t := 340) C dL_plays_315 (by decide) rfl (fun c_45 => ?_) (fun c_45 => ?_)
                        · have h := h.pos c_45
                          refine J.sub [0, 1, 2, 3, 4, 5, 6, 7, 8, 9] rfl ?_
                          exact hj_340 p_44.2 l10_154 h
                        · have h := h.neg c_45
                          refine J_aload (i := 6) (p := 6) C dL_plays_318 rfl rfl ?_
                          refine Jl_cV (α := Int32 × Sto) (rest := []) (st9 := fun p_46 => [.int p_46.1]) (wd := fun p_46 => p_46.2) C hR hX cv_RL_223 (k11_differences hl (Ok.ofbnd h)) rfl rfl (Nat.le_of_ble_eq_true rfl) (Nat.le_of_ble_eq_true rfl) (Nat.le_of_ble_eq_true rfl) ⟨(by omega), (by omega)⟩ dL_plays_320 rfl (fun E n9 w9 hx => hx.elim) (fun _ => rfl) (fun p_46 h => ?_)
                          have h : Ok _ _ := h
                          change J X K 12 False QQ (k_102 + 12) (6 * (k_102 + 12) + 168772) 2064 (jl K (p_44.2.1, p_46.2)) 323 [(0, .ref (K.2.2 + 0)), (1, .ref (K.2.2 + 1)), (2, .ref (K.2.2 + 43)), (3, .ref (K.2.2 + 44)), (4, .ref (K.2.2 + 45)), (5, .ref (K.2.2 + 46)), (6, .ref (K.2.2 + 47)), (7, .ref (K.2.2 + 41)), (8, .ref (K.2.2 + 42)), (10, .int l10_154), (11, .int l11_154)] [.int p_46.1]
                          refine J_if_lt (t := 340) C dL_plays_323 (by decide) rfl (fun c_47 => ?_) (fun c_47 => ?_)
                          · have h := h.pos c_47
                            refine J.sub [0, 1, 2, 3, 4, 5, 6, 7, 8, 9] rfl ?_
                            exact hj_340 (p_44.2.1, p_46.2) l10_154 h
                          · have h := h.neg c_47
                            refine J_aload (i := 6) (p := 6) C dL_plays_326 rfl rfl ?_
                            refine Jl_cV (α := UInt32 × Sto) (rest := []) (st9 := fun p_48 => [.float p_48.1]) (wd := fun p_48 => p_48.2) C hR hX cv_RL_226 (k11_sameShare hl (Ok.ofbnd h)) rfl rfl (Nat.le_of_ble_eq_true rfl) (Nat.le_of_ble_eq_true rfl) (Nat.le_of_ble_eq_true rfl) ⟨(by omega), (by omega)⟩ dL_plays_328 rfl (fun E n9 w9 hx => hx.elim) (fun _ => rfl) (fun p_48 h => ?_)
                            have h : Ok _ _ := h
                            change J X K 12 False QQ (k_102 + 12) (6 * (k_102 + 12) + 168772) 2064 (jl K (p_44.2.1, p_48.2)) 331 [(0, .ref (K.2.2 + 0)), (1, .ref (K.2.2 + 1)), (2, .ref (K.2.2 + 43)), (3, .ref (K.2.2 + 44)), (4, .ref (K.2.2 + 45)), (5, .ref (K.2.2 + 46)), (6, .ref (K.2.2 + 47)), (7, .ref (K.2.2 + 41)), (8, .ref (K.2.2 + 42)), (10, .int l10_154), (11, .int l11_154)] [.float p_48.1]
                            refine J_fconst1 C dL_plays_331 rfl ?_
                            refine J_fcmp C dL_plays_332 rfl ?_
                            refine J_if_gt (t := 340) C dL_plays_333 (by decide) rfl (fun c_49 => ?_) (fun c_49 => ?_)
                            · have h := h.pos c_49
                              refine J.sub [0, 1, 2, 3, 4, 5, 6, 7, 8, 9] rfl ?_
                              exact hj_340 (p_44.2.1, p_48.2) l10_154 h
                            · have h := h.neg c_49
                              refine J_iconst (v := 1) C (by decide) dL_plays_336 rfl ?_
                              refine J_goto (t := 341) C dL_plays_337 (by decide) ?_
                              refine J.sub [0, 1, 2, 3, 4, 5, 6, 7, 8, 9] rfl ?_
                              exact hj_341 (p_44.2.1, p_48.2) l10_154 (1 : Int32) h
              · have h := h.neg c_30
                refine J_aload (i := 6) (p := 6) C dL_plays_254 rfl rfl ?_
                refine J_aload_n (i := 0) (p := 0) C dL_plays_256 rfl rfl rfl ?_
                refine J_aload (i := 4) (p := 4) C dL_plays_257 rfl rfl ?_
                refine Jl_cS (α := Int32 × LawS) (rest := []) (st9 := fun p_50 => [.int p_50.1]) C hR hX cs_RL_196 (kL_moves hl  (Ok.ofbnd h)) rfl rfl (Nat.le_of_ble_eq_true rfl) (Nat.le_of_ble_eq_true rfl) (Nat.le_of_ble_eq_true rfl) ⟨(by omega), (by omega)⟩ dL_plays_259 rfl (fun _ => rfl) (fun p_50 h => ?_)
                have h : Ok _ _ := h
                refine J.widen (k' := (k_102 + 8)) (sl' := (6 * (k_102 + 8) + 168772)) (by omega) (by omega) ?_
                change J X K 12 False QQ (k_102 + 8) (6 * (k_102 + 8) + 168772) 2064 (jl K p_50.2) 262 [(0, .ref (K.2.2 + 0)), (1, .ref (K.2.2 + 1)), (2, .ref (K.2.2 + 43)), (3, .ref (K.2.2 + 44)), (4, .ref (K.2.2 + 45)), (5, .ref (K.2.2 + 46)), (6, .ref (K.2.2 + 47)), (7, .ref (K.2.2 + 41)), (8, .ref (K.2.2 + 42)), (10, .int l10_154), (11, .int l11_154)] [.int p_50.1]
                obtain ⟨x9_7, e_x9_7, h⟩ := Ok.nm h
                refine J_istoreE (i := 9) (lv' := [(9, .int x9_7), (0, .ref (K.2.2 + 0)), (1, .ref (K.2.2 + 1)), (2, .ref (K.2.2 + 43)), (3, .ref (K.2.2 + 44)), (4, .ref (K.2.2 + 45)), (5, .ref (K.2.2 + 46)), (6, .ref (K.2.2 + 47)), (7, .ref (K.2.2 + 41)), (8, .ref (K.2.2 + 42)), (10, .int l10_154), (11, .int l11_154)]) C e_x9_7 dL_plays_262 (Nat.le_of_ble_eq_true rfl) rfl rfl ?_
                refine J_goto (t := 387) C dL_plays_264 (by decide) ?_
                refine J.widen (k' := (k_102 + 584)) (sl' := (6 * (k_102 + 584) + 168772)) (by omega) (by omega) ?_
                refine J.sub [1, 2, 3, 4, 5, 6, 7, 8, 9, 0, 10] rfl ?_
                exact hj_387 p_50.2 x9_7 l10_154 h
            · have h := h.pos (Decidable.not_not.mp c_29)
              refine J_aload (i := 6) (p := 6) C dL_plays_232 rfl rfl ?_
              refine J_aload_n (i := 0) (p := 0) C dL_plays_234 rfl rfl rfl ?_
              refine J_aload_n (i := 1) (p := 1) C dL_plays_235 rfl rfl rfl ?_
              refine J_aload (i := 8) (p := 8) C dL_plays_236 rfl rfl ?_
              refine J_aload_n (i := 2) (p := 2) C dL_plays_238 rfl rfl rfl ?_
              refine Jl_cS (α := Int32 × LawS) (rest := []) (st9 := fun p_51 => [.int p_51.1]) C hR hX cs_RL_216 (kL_branches hl  (Ok.ofbnd h)) rfl rfl (Nat.le_of_ble_eq_true rfl) (Nat.le_of_ble_eq_true rfl) (Nat.le_of_ble_eq_true rfl) ⟨(by omega), (by omega)⟩ dL_plays_239 rfl (fun _ => rfl) (fun p_51 h => ?_)
              have h : Ok _ _ := h
              refine J.widen (k' := (k_102 + 52)) (sl' := (6 * (k_102 + 52) + 168772)) (by omega) (by omega) ?_
              change J X K 12 False QQ (k_102 + 52) (6 * (k_102 + 52) + 168772) 2064 (jl K p_51.2) 242 [(0, .ref (K.2.2 + 0)), (1, .ref (K.2.2 + 1)), (2, .ref (K.2.2 + 43)), (3, .ref (K.2.2 + 44)), (4, .ref (K.2.2 + 45)), (5, .ref (K.2.2 + 46)), (6, .ref (K.2.2 + 47)), (7, .ref (K.2.2 + 41)), (8, .ref (K.2.2 + 42)), (10, .int l10_154), (11, .int l11_154)] [.int p_51.1]
              obtain ⟨x9_8, e_x9_8, h⟩ := Ok.nm h
              refine J_istoreE (i := 9) (lv' := [(9, .int x9_8), (0, .ref (K.2.2 + 0)), (1, .ref (K.2.2 + 1)), (2, .ref (K.2.2 + 43)), (3, .ref (K.2.2 + 44)), (4, .ref (K.2.2 + 45)), (5, .ref (K.2.2 + 46)), (6, .ref (K.2.2 + 47)), (7, .ref (K.2.2 + 41)), (8, .ref (K.2.2 + 42)), (10, .int l10_154), (11, .int l11_154)]) C e_x9_8 dL_plays_242 (Nat.le_of_ble_eq_true rfl) rfl rfl ?_
              refine J_goto (t := 387) C dL_plays_244 (by decide) ?_
              refine J.widen (k' := (k_102 + 584)) (sl' := (6 * (k_102 + 584) + 168772)) (by omega) (by omega) ?_
              refine J.sub [1, 2, 3, 4, 5, 6, 7, 8, 9, 0, 10] rfl ?_
              exact hj_387 p_51.2 x9_8 l10_154 h
          · have h := h.neg c_28
            refine J_aload (i := 6) (p := 6) C dL_plays_209 rfl rfl ?_
            refine J_aload_n (i := 0) (p := 0) C dL_plays_211 rfl rfl rfl ?_
            refine J_aload_n (i := 1) (p := 1) C dL_plays_212 rfl rfl rfl ?_
            refine J_aload (i := 8) (p := 8) C dL_plays_213 rfl rfl ?_
            refine J_aload_n (i := 2) (p := 2) C dL_plays_215 rfl rfl rfl ?_
            refine J_aload (i := 4) (p := 4) C dL_plays_216 rfl rfl ?_
            refine Jl_cS (α := Int32 × LawS) (rest := []) (st9 := fun p_52 => [.int p_52.1]) C hR hX cs_RL_212 (kL_goesBack hl  (Ok.ofbnd h)) rfl rfl (Nat.le_of_ble_eq_true rfl) (Nat.le_of_ble_eq_true rfl) (Nat.le_of_ble_eq_true rfl) ⟨(by omega), (by omega)⟩ dL_plays_218 rfl (fun _ => rfl) (fun p_52 h => ?_)
            have h : Ok _ _ := h
            refine J.widen (k' := (k_102 + 584)) (sl' := (6 * (k_102 + 584) + 168772)) (by omega) (by omega) ?_
            change J X K 12 False QQ (k_102 + 584) (6 * (k_102 + 584) + 168772) 2064 (jl K p_52.2) 221 [(0, .ref (K.2.2 + 0)), (1, .ref (K.2.2 + 1)), (2, .ref (K.2.2 + 43)), (3, .ref (K.2.2 + 44)), (4, .ref (K.2.2 + 45)), (5, .ref (K.2.2 + 46)), (6, .ref (K.2.2 + 47)), (7, .ref (K.2.2 + 41)), (8, .ref (K.2.2 + 42)), (10, .int l10_154), (11, .int l11_154)] [.int p_52.1]
            obtain ⟨x9_9, e_x9_9, h⟩ := Ok.nm h
            refine J_istoreE (i := 9) (lv' := [(9, .int x9_9), (0, .ref (K.2.2 + 0)), (1, .ref (K.2.2 + 1)), (2, .ref (K.2.2 + 43)), (3, .ref (K.2.2 + 44)), (4, .ref (K.2.2 + 45)), (5, .ref (K.2.2 + 46)), (6, .ref (K.2.2 + 47)), (7, .ref (K.2.2 + 41)), (8, .ref (K.2.2 + 42)), (10, .int l10_154), (11, .int l11_154)]) C e_x9_9 dL_plays_221 (Nat.le_of_ble_eq_true rfl) rfl rfl ?_
            refine J_goto (t := 387) C dL_plays_223 (by decide) ?_
            refine J.sub [1, 2, 3, 4, 5, 6, 7, 8, 9, 0, 10] rfl ?_
            exact hj_387 p_52.2 x9_9 l10_154 h
        · have h := h.pos (Decidable.not_not.mp c_27)
          refine J_aload (i := 6) (p := 6) C dL_plays_184 rfl rfl ?_
          refine J_aload_n (i := 0) (p := 0) C dL_plays_186 rfl rfl rfl ?_
          refine J_aload (i := 7) (p := 7) C dL_plays_187 rfl rfl ?_
          refine J_aload (i := 8) (p := 8) C dL_plays_189 rfl rfl ?_
          refine J_aload_n (i := 2) (p := 2) C dL_plays_191 rfl rfl rfl ?_
          refine J_aload_n (i := 3) (p := 3) C dL_plays_192 rfl rfl rfl ?_
          refine J_aload (i := 5) (p := 5) C dL_plays_193 rfl rfl ?_
          refine Jl_cS (α := Int32 × LawS) (rest := []) (st9 := fun p_53 => [.int p_53.1]) C hR hX cs_RL_208 (kL_replacesAll hl  (Ok.ofbnd h)) rfl rfl (Nat.le_of_ble_eq_true rfl) (Nat.le_of_ble_eq_true rfl) (Nat.le_of_ble_eq_true rfl) ⟨(by omega), (by omega)⟩ dL_plays_195 rfl (fun _ => rfl) (fun p_53 h => ?_)
          have h : Ok _ _ := h
          refine J.widen (k' := (k_102 + 20)) (sl' := (6 * (k_102 + 20) + 168772)) (by omega) (by omega) ?_
          change J X K 12 False QQ (k_102 + 20) (6 * (k_102 + 20) + 168772) 2064 (jl K p_53.2) 198 [(0, .ref (K.2.2 + 0)), (1, .ref (K.2.2 + 1)), (2, .ref (K.2.2 + 43)), (3, .ref (K.2.2 + 44)), (4, .ref (K.2.2 + 45)), (5, .ref (K.2.2 + 46)), (6, .ref (K.2.2 + 47)), (7, .ref (K.2.2 + 41)), (8, .ref (K.2.2 + 42)), (10, .int l10_154), (11, .int l11_154)] [.int p_53.1]
          obtain ⟨x9_10, e_x9_10, h⟩ := Ok.nm h
          refine J_istoreE (i := 9) (lv' := [(9, .int x9_10), (0, .ref (K.2.2 + 0)), (1, .ref (K.2.2 + 1)), (2, .ref (K.2.2 + 43)), (3, .ref (K.2.2 + 44)), (4, .ref (K.2.2 + 45)), (5, .ref (K.2.2 + 46)), (6, .ref (K.2.2 + 47)), (7, .ref (K.2.2 + 41)), (8, .ref (K.2.2 + 42)), (10, .int l10_154), (11, .int l11_154)]) C e_x9_10 dL_plays_198 (Nat.le_of_ble_eq_true rfl) rfl rfl ?_
          refine J_goto (t := 387) C dL_plays_200 (by decide) ?_
          refine J.widen (k' := (k_102 + 584)) (sl' := (6 * (k_102 + 584) + 168772)) (by omega) (by omega) ?_
          refine J.sub [1, 2, 3, 4, 5, 6, 7, 8, 9, 0, 10] rfl ?_
          exact hj_387 p_53.2 x9_10 l10_154 h
      · have h := h.neg c_26
        refine J_aload (i := 6) (p := 6) C dL_plays_160 rfl rfl ?_
        refine J_aload_n (i := 0) (p := 0) C dL_plays_162 rfl rfl rfl ?_
        refine J_aload (i := 7) (p := 7) C dL_plays_163 rfl rfl ?_
        refine J_aload (i := 8) (p := 8) C dL_plays_165 rfl rfl ?_
        refine J_aload_n (i := 2) (p := 2) C dL_plays_167 rfl rfl rfl ?_
        refine J_aload (i := 4) (p := 4) C dL_plays_168 rfl rfl ?_
        refine Jl_cS (α := Int32 × LawS) (rest := []) (st9 := fun p_54 => [.int p_54.1]) C hR hX cs_RL_204 (kL_replaces hl  (Ok.ofbnd h)) rfl rfl (Nat.le_of_ble_eq_true rfl) (Nat.le_of_ble_eq_true rfl) (Nat.le_of_ble_eq_true rfl) ⟨(by omega), (by omega)⟩ dL_plays_170 rfl (fun _ => rfl) (fun p_54 h => ?_)
        have h : Ok _ _ := h
        refine J.widen (k' := (k_102 + 8)) (sl' := (6 * (k_102 + 8) + 168772)) (by omega) (by omega) ?_
        change J X K 12 False QQ (k_102 + 8) (6 * (k_102 + 8) + 168772) 2064 (jl K p_54.2) 173 [(0, .ref (K.2.2 + 0)), (1, .ref (K.2.2 + 1)), (2, .ref (K.2.2 + 43)), (3, .ref (K.2.2 + 44)), (4, .ref (K.2.2 + 45)), (5, .ref (K.2.2 + 46)), (6, .ref (K.2.2 + 47)), (7, .ref (K.2.2 + 41)), (8, .ref (K.2.2 + 42)), (10, .int l10_154), (11, .int l11_154)] [.int p_54.1]
        obtain ⟨x9_11, e_x9_11, h⟩ := Ok.nm h
        refine J_istoreE (i := 9) (lv' := [(9, .int x9_11), (0, .ref (K.2.2 + 0)), (1, .ref (K.2.2 + 1)), (2, .ref (K.2.2 + 43)), (3, .ref (K.2.2 + 44)), (4, .ref (K.2.2 + 45)), (5, .ref (K.2.2 + 46)), (6, .ref (K.2.2 + 47)), (7, .ref (K.2.2 + 41)), (8, .ref (K.2.2 + 42)), (10, .int l10_154), (11, .int l11_154)]) C e_x9_11 dL_plays_173 (Nat.le_of_ble_eq_true rfl) rfl rfl ?_
        refine J_goto (t := 387) C dL_plays_175 (by decide) ?_
        refine J.widen (k' := (k_102 + 584)) (sl' := (6 * (k_102 + 584) + 168772)) (by omega) (by omega) ?_
        refine J.sub [1, 2, 3, 4, 5, 6, 7, 8, 9, 0, 10] rfl ?_
        exact hj_387 p_54.2 x9_11 l10_154 h
    unfold fL_plays_b102 at h
    refine J_iload (i := 10) (p := 10) C dL_plays_102 rfl rfl ?_
    refine J_bipush (v := 16) C (by decide) dL_plays_104 rfl ?_
    refine J_icmp_ge (t := 416) C dL_plays_106 (by decide) rfl (fun c_55 => ?_) (fun c_55 => ?_)
    · have h := h.pos c_55
      have h := hE_102 (Sum.inl (τ_102, l9_102)) h.osome
      try dsimp only at h
      refine J.widen (k' := 11957) (sl' := 240514) (by omega) (by omega) ?_
      refine J.sub [6, 9] rfl ?_
      exact hj_416 τ_102 l9_102 h
    · have h := h.neg c_55
      refine J_iload (i := 9) (p := 9) C dL_plays_109 rfl rfl ?_
      refine J_if_eq (t := 416) C dL_plays_111 (by decide) rfl (fun c_56 => ?_) (fun c_56 => ?_)
      · have h := h.pos c_56
        have h := hE_102 (Sum.inl (τ_102, l9_102)) h.osome
        try dsimp only at h
        refine J.widen (k' := 11957) (sl' := 240514) (by omega) (by omega) ?_
        refine J.sub [6, 9] rfl ?_
        exact hj_416 τ_102 l9_102 h
      · have h := h.neg c_56
        refine J_aload_n (i := 0) (p := 0) C dL_plays_114 rfl rfl rfl ?_
        refine Jl_cS (α := Int32 × LawS) (rest := []) (st9 := fun p_57 => [.int p_57.1]) C hR hX cs_RL_8 (kL_next hl  (Ok.ofbnd h)) rfl rfl (Nat.le_of_ble_eq_true rfl) (Nat.le_of_ble_eq_true rfl) (Nat.le_of_ble_eq_true rfl) ⟨(by omega), (by omega)⟩ dL_plays_115 rfl (fun _ => rfl) (fun p_57 h => ?_)
        have h : Ok _ _ := h
        change J X K 12 False QQ k_102 (6 * k_102 + 168772) 2064 (jl K p_57.2) 118 [(0, .ref (K.2.2 + 0)), (1, .ref (K.2.2 + 1)), (2, .ref (K.2.2 + 43)), (3, .ref (K.2.2 + 44)), (4, .ref (K.2.2 + 45)), (5, .ref (K.2.2 + 46)), (6, .ref (K.2.2 + 47)), (7, .ref (K.2.2 + 41)), (8, .ref (K.2.2 + 42)), (9, .int l9_102), (10, .int l10_102)] [.int p_57.1]
        refine J_bipush (v := 10) C (by decide) dL_plays_118 rfl ?_
        refine J_irem C (by decide) dL_plays_120 rfl ?_
        obtain ⟨x11_12, e_x11_12, h⟩ := Ok.nm h
        refine J_istoreE (i := 11) (lv' := [(11, .int x11_12), (0, .ref (K.2.2 + 0)), (1, .ref (K.2.2 + 1)), (2, .ref (K.2.2 + 43)), (3, .ref (K.2.2 + 44)), (4, .ref (K.2.2 + 45)), (5, .ref (K.2.2 + 46)), (6, .ref (K.2.2 + 47)), (7, .ref (K.2.2 + 41)), (8, .ref (K.2.2 + 42)), (9, .int l9_102), (10, .int l10_102)]) C e_x11_12 dL_plays_121 (Nat.le_of_ble_eq_true rfl) rfl rfl ?_
        refine J_aload (i := 6) (p := 7) C dL_plays_123 rfl rfl ?_
        refine J_iconst (v := 0) C (by decide) dL_plays_125 rfl ?_
        refine Jl_cV (α := Int32 × Sto) (rest := []) (st9 := fun p_58 => [.int p_58.1]) (wd := fun p_58 => p_58.2) C hR hX cv_RL_134 (k11_count_n hl (Ok.ofnox h) (fun c hc => hc)) rfl rfl (Nat.le_of_ble_eq_true rfl) (Nat.le_of_ble_eq_true rfl) (Nat.le_of_ble_eq_true rfl) ⟨(by omega), (by omega)⟩ dL_plays_126 rfl (fun E n9 w9 hx => hx.elim) (fun _ => rfl) (fun p_58 h => ?_)
        have h : Ok _ _ := h
        change J X K 12 False QQ k_102 (6 * k_102 + 168772) 2064 (jl K (p_57.2.1, p_58.2)) 129 [(11, .int x11_12), (0, .ref (K.2.2 + 0)), (1, .ref (K.2.2 + 1)), (2, .ref (K.2.2 + 43)), (3, .ref (K.2.2 + 44)), (4, .ref (K.2.2 + 45)), (5, .ref (K.2.2 + 46)), (6, .ref (K.2.2 + 47)), (7, .ref (K.2.2 + 41)), (8, .ref (K.2.2 + 42)), (9, .int l9_102), (10, .int l10_102)] [.int p_58.1]
        refine J_sipush (v := 350) C (by decide) dL_plays_129 rfl ?_
        refine J_icmp_le (t := 154) C dL_plays_132 (by decide) rfl (fun c_59 => ?_) (fun c_59 => ?_)
        · have h := h.pos c_59
          refine J.widen (k' := (k_102 + 4)) (sl' := (6 * (k_102 + 4) + 168772)) (by omega) (by omega) ?_
          refine J.sub [1, 2, 3, 4, 5, 6, 7, 8, 9, 11, 0] rfl ?_
          exact hj_154 (p_57.2.1, p_58.2) l10_102 x11_12 h
        · have h := h.neg c_59
          refine J_aload (i := 6) (p := 7) C dL_plays_135 rfl rfl ?_
          refine J_iconst (v := 3) C (by decide) dL_plays_137 rfl ?_
          refine J_bipush (v := 100) C (by decide) dL_plays_138 rfl ?_
          refine J_sipush (v := 300) C (by decide) dL_plays_140 rfl ?_
          refine J_iconst (v := 0) C (by decide) dL_plays_143 rfl ?_
          refine Jl_cH (α := Int32 × LawS) (rest := []) (st9 := fun p_60 => [.int p_60.1]) C hR hX ch_RL_174 (kL_done hl  (Ok.ofbnd h)) rfl rfl (Nat.le_of_ble_eq_true rfl) (Nat.le_of_ble_eq_true rfl) (Nat.le_of_ble_eq_true rfl) ⟨(by omega), (by omega)⟩ dL_plays_144 rfl (fun _ => rfl) (fun p_60 h => ?_)
          have h : Ok _ _ := h
          refine J.widen (k' := (k_102 + 4)) (sl' := (6 * (k_102 + 4) + 168772)) (by omega) (by omega) ?_
          change J X K 12 False QQ (k_102 + 4) (6 * (k_102 + 4) + 168772) 2064 (jl K p_60.2) 147 [(11, .int x11_12), (0, .ref (K.2.2 + 0)), (1, .ref (K.2.2 + 1)), (2, .ref (K.2.2 + 43)), (3, .ref (K.2.2 + 44)), (4, .ref (K.2.2 + 45)), (5, .ref (K.2.2 + 46)), (6, .ref (K.2.2 + 47)), (7, .ref (K.2.2 + 41)), (8, .ref (K.2.2 + 42)), (9, .int l9_102), (10, .int l10_102)] [.int p_60.1]
          refine J_ldc (v := -1000009) C ci_RL_192 dL_plays_147 rfl ?_
          refine J_icmp_ne (t := 154) C dL_plays_149 (by decide) rfl (fun c_61 => ?_) (fun c_61 => ?_)
          · have h := h.neg c_61
            refine J.sub [1, 2, 3, 4, 5, 6, 7, 8, 9, 11, 0] rfl ?_
            exact hj_154 p_60.2 l10_102 x11_12 h
          · have h := h.pos (Decidable.not_not.mp c_61)
            have h := hE_102 (Sum.inr p_60.2) h.osome
            try dsimp only at h
            refine J.widen (k' := 11957) (sl' := 240514) (by omega) (by omega) ?_
            refine J_iconst (v := 0) C (by decide) dL_plays_152 rfl ?_
            rw [← hQQ]
            exact J_zret C hret rfl (Nat.le_of_ble_eq_true rfl) (Nat.le_of_ble_eq_true rfl) ⟨_, h.osome, rfl, rfl, rfl⟩ dL_plays_153
  have hj_97 : (∀ (τ_97 : LawS) (s0_97 : Int32), Ok (fL_plays_j97 τ_97 s0_97) Qf → J X K 12 False QQ 2029 180946 2064 (jl K τ_97) 97 [(0, .ref (K.2.2 + 0)), (1, .ref (K.2.2 + 1)), (2, .ref (K.2.2 + 43)), (3, .ref (K.2.2 + 44)), (4, .ref (K.2.2 + 45)), (5, .ref (K.2.2 + 46)), (6, .ref (K.2.2 + 47)), (7, .ref (K.2.2 + 41)), (8, .ref (K.2.2 + 42))] [.int s0_97]) := by
    intro τ_97 s0_97 h
    unfold fL_plays_j97 at h
    obtain ⟨x9_13, e_x9_13, h⟩ := Ok.nm h
    refine J_istoreE (i := 9) (lv' := [(9, .int x9_13), (0, .ref (K.2.2 + 0)), (1, .ref (K.2.2 + 1)), (2, .ref (K.2.2 + 43)), (3, .ref (K.2.2 + 44)), (4, .ref (K.2.2 + 45)), (5, .ref (K.2.2 + 46)), (6, .ref (K.2.2 + 47)), (7, .ref (K.2.2 + 41)), (8, .ref (K.2.2 + 42))]) C e_x9_13 dL_plays_97 (Nat.le_of_ble_eq_true rfl) rfl rfl ?_
    refine J_iconst (v := 0) C (by decide) dL_plays_99 rfl ?_
    obtain ⟨x10_14, e_x10_14, h⟩ := Ok.nm h
    refine J_istoreE (i := 10) (lv' := [(10, .int x10_14), (9, .int x9_13), (0, .ref (K.2.2 + 0)), (1, .ref (K.2.2 + 1)), (2, .ref (K.2.2 + 43)), (3, .ref (K.2.2 + 44)), (4, .ref (K.2.2 + 45)), (5, .ref (K.2.2 + 46)), (6, .ref (K.2.2 + 47)), (7, .ref (K.2.2 + 41)), (8, .ref (K.2.2 + 42))]) C e_x10_14 dL_plays_100 (Nat.le_of_ble_eq_true rfl) rfl rfl ?_
    refine J.sub [2, 3, 4, 5, 6, 7, 8, 9, 10, 1, 0] rfl ?_
    exact hj_102 τ_97 x9_13 x10_14 h
  have hj_96 : (∀ (τ_96 : LawS), Ok (fL_plays_j96 τ_96) Qf → J X K 12 False QQ 2029 180946 2064 (jl K τ_96) 96 [(0, .ref (K.2.2 + 0)), (1, .ref (K.2.2 + 1)), (2, .ref (K.2.2 + 43)), (3, .ref (K.2.2 + 44)), (4, .ref (K.2.2 + 45)), (5, .ref (K.2.2 + 46)), (6, .ref (K.2.2 + 47)), (7, .ref (K.2.2 + 41)), (8, .ref (K.2.2 + 42))] []) := by
    intro τ_96 h
    unfold fL_plays_j96 at h
    refine J_iconst (v := 0) C (by decide) dL_plays_96 rfl ?_
    exact hj_97 τ_96 (0 : Int32) h
  unfold fL_plays at h
  refine J_aload_n (i := 1) (p := 1) C dL_plays_9 rfl rfl rfl ?_
  refine J_bipush (v := 39) C (by decide) dL_plays_10 rfl ?_
  refine Jl_aald (r2 := 41) C rfl (by decide) dL_plays_12 rfl ?_
  refine J_astore (i := 7) (lv' := [(7, .ref (K.2.2 + 41)), (0, .ref (K.2.2 + 0)), (1, .ref (K.2.2 + 1)), (2, .ref (K.2.2 + 43)), (3, .ref (K.2.2 + 44)), (4, .ref (K.2.2 + 45)), (5, .ref (K.2.2 + 46)), (6, .ref (K.2.2 + 47))]) C dL_plays_13 (Nat.le_of_ble_eq_true rfl) rfl rfl ?_
  refine J_aload_n (i := 1) (p := 2) C dL_plays_15 rfl rfl rfl ?_
  refine J_bipush (v := 40) C (by decide) dL_plays_16 rfl ?_
  refine Jl_aald (r2 := 42) C rfl (by decide) dL_plays_18 rfl ?_
  refine J_astore (i := 8) (lv' := [(8, .ref (K.2.2 + 42)), (7, .ref (K.2.2 + 41)), (0, .ref (K.2.2 + 0)), (1, .ref (K.2.2 + 1)), (2, .ref (K.2.2 + 43)), (3, .ref (K.2.2 + 44)), (4, .ref (K.2.2 + 45)), (5, .ref (K.2.2 + 46)), (6, .ref (K.2.2 + 47))]) C dL_plays_19 (Nat.le_of_ble_eq_true rfl) rfl rfl ?_
  refine J_aload (i := 6) (p := 8) C dL_plays_21 rfl rfl ?_
  refine J_iconst (v := 0) C (by decide) dL_plays_23 rfl ?_
  refine Jl_cV (α := Int32 × Sto) (rest := []) (st9 := fun p_62 => [.int p_62.1]) (wd := fun p_62 => p_62.2) C hR hX cv_RL_134 (k11_count_n hl (Ok.ofnox h) (fun c hc => hc)) rfl rfl (Nat.le_of_ble_eq_true rfl) (Nat.le_of_ble_eq_true rfl) (Nat.le_of_ble_eq_true rfl) ⟨(Nat.le_of_ble_eq_true rfl), (Nat.le_of_ble_eq_true rfl)⟩ dL_plays_24 rfl (fun E n9 w9 hx => hx.elim) (fun _ => rfl) (fun p_62 h => ?_)
  have h : Ok _ _ := h
  change J X K 12 False QQ 2017 180874 2064 (jl K (τ.1, p_62.2)) 27 [(8, .ref (K.2.2 + 42)), (7, .ref (K.2.2 + 41)), (0, .ref (K.2.2 + 0)), (1, .ref (K.2.2 + 1)), (2, .ref (K.2.2 + 43)), (3, .ref (K.2.2 + 44)), (4, .ref (K.2.2 + 45)), (5, .ref (K.2.2 + 46)), (6, .ref (K.2.2 + 47))] [.int p_62.1]
  refine J_if_ne (t := 96) C dL_plays_27 (by decide) rfl (fun c_63 => ?_) (fun c_63 => ?_)
  · have h := h.neg c_63
    refine J.widen (k' := 2029) (sl' := 180946) (Nat.le_of_ble_eq_true rfl) (Nat.le_of_ble_eq_true rfl) ?_
    refine J.sub [2, 3, 4, 5, 6, 7, 8, 1, 0] rfl ?_
    exact hj_96 (τ.1, p_62.2) h
  · have h := h.pos (Decidable.not_not.mp c_63)
    refine J_aload (i := 6) (p := 8) C dL_plays_30 rfl rfl ?_
    refine J_iconst (v := 1) C (by decide) dL_plays_32 rfl ?_
    refine Jl_cV (α := Int32 × Sto) (rest := []) (st9 := fun p_64 => [.int p_64.1]) (wd := fun p_64 => p_64.2) C hR hX cv_RL_134 (k11_count_n hl (Ok.ofnox h) (fun c hc => hc)) rfl rfl (Nat.le_of_ble_eq_true rfl) (Nat.le_of_ble_eq_true rfl) (Nat.le_of_ble_eq_true rfl) ⟨(Nat.le_of_ble_eq_true rfl), (Nat.le_of_ble_eq_true rfl)⟩ dL_plays_33 rfl (fun E n9 w9 hx => hx.elim) (fun _ => rfl) (fun p_64 h => ?_)
    have h : Ok _ _ := h
    change J X K 12 False QQ 2017 180874 2064 (jl K (τ.1, p_64.2)) 36 [(8, .ref (K.2.2 + 42)), (7, .ref (K.2.2 + 41)), (0, .ref (K.2.2 + 0)), (1, .ref (K.2.2 + 1)), (2, .ref (K.2.2 + 43)), (3, .ref (K.2.2 + 44)), (4, .ref (K.2.2 + 45)), (5, .ref (K.2.2 + 46)), (6, .ref (K.2.2 + 47))] [.int p_64.1]
    refine J_iconst (v := 1) C (by decide) dL_plays_36 rfl ?_
    refine J_icmp_ne (t := 96) C dL_plays_37 (by decide) rfl (fun c_65 => ?_) (fun c_65 => ?_)
    · have h := h.neg c_65
      refine J.widen (k' := 2029) (sl' := 180946) (Nat.le_of_ble_eq_true rfl) (Nat.le_of_ble_eq_true rfl) ?_
      refine J.sub [2, 3, 4, 5, 6, 7, 8, 1, 0] rfl ?_
      exact hj_96 (τ.1, p_64.2) h
    · have h := h.pos (Decidable.not_not.mp c_65)
      refine J_aload (i := 6) (p := 8) C dL_plays_40 rfl rfl ?_
      refine J_iconst (v := 0) C (by decide) dL_plays_42 rfl ?_
      refine Jl_cV (α := Int32 × Sto) (rest := []) (st9 := fun p_66 => [.int p_66.1]) (wd := fun p_66 => p_66.2) C hR hX cv_RL_141 (k11_cursorAt_n hl (Ok.ofnox h) (fun c hc => hc)) rfl rfl (Nat.le_of_ble_eq_true rfl) (Nat.le_of_ble_eq_true rfl) (Nat.le_of_ble_eq_true rfl) ⟨(Nat.le_of_ble_eq_true rfl), (Nat.le_of_ble_eq_true rfl)⟩ dL_plays_43 rfl (fun E n9 w9 hx => hx.elim) (fun _ => rfl) (fun p_66 h => ?_)
      have h : Ok _ _ := h
      change J X K 12 False QQ 2017 180874 2064 (jl K (τ.1, p_66.2)) 46 [(8, .ref (K.2.2 + 42)), (7, .ref (K.2.2 + 41)), (0, .ref (K.2.2 + 0)), (1, .ref (K.2.2 + 1)), (2, .ref (K.2.2 + 43)), (3, .ref (K.2.2 + 44)), (4, .ref (K.2.2 + 45)), (5, .ref (K.2.2 + 46)), (6, .ref (K.2.2 + 47))] [.int p_66.1]
      refine J_if_ne (t := 96) C dL_plays_46 (by decide) rfl (fun c_67 => ?_) (fun c_67 => ?_)
      · have h := h.neg c_67
        refine J.widen (k' := 2029) (sl' := 180946) (Nat.le_of_ble_eq_true rfl) (Nat.le_of_ble_eq_true rfl) ?_
        refine J.sub [2, 3, 4, 5, 6, 7, 8, 1, 0] rfl ?_
        exact hj_96 (τ.1, p_66.2) h
      · have h := h.pos (Decidable.not_not.mp c_67)
        refine J_aload (i := 6) (p := 8) C dL_plays_49 rfl rfl ?_
        refine J_bipush (v := 9) C (by decide) dL_plays_51 rfl ?_
        refine J_iconst (v := 0) C (by decide) dL_plays_53 rfl ?_
        refine J_iconst (v := 0) C (by decide) dL_plays_54 rfl ?_
        refine J_iconst (v := 0) C (by decide) dL_plays_55 rfl ?_
        refine Jl_cH (α := Int32 × LawS) (rest := []) (st9 := fun p_68 => [.int p_68.1]) C hR hX ch_RL_174 (kL_done hl  (Ok.ofbnd h)) rfl rfl (Nat.le_of_ble_eq_true rfl) (Nat.le_of_ble_eq_true rfl) (Nat.le_of_ble_eq_true rfl) ⟨(Nat.le_of_ble_eq_true rfl), (Nat.le_of_ble_eq_true rfl)⟩ dL_plays_56 rfl (fun _ => rfl) (fun p_68 h => ?_)
        have h : Ok _ _ := h
        change J X K 12 False QQ 2021 180898 2064 (jl K p_68.2) 59 [(8, .ref (K.2.2 + 42)), (7, .ref (K.2.2 + 41)), (0, .ref (K.2.2 + 0)), (1, .ref (K.2.2 + 1)), (2, .ref (K.2.2 + 43)), (3, .ref (K.2.2 + 44)), (4, .ref (K.2.2 + 45)), (5, .ref (K.2.2 + 46)), (6, .ref (K.2.2 + 47))] [.int p_68.1]
        refine J_ldc (v := -1000003) C ci_RL_123 dL_plays_59 rfl ?_
        refine J_icmp_ne (t := 96) C dL_plays_61 (by decide) rfl (fun c_69 => ?_) (fun c_69 => ?_)
        · have h := h.neg c_69
          refine J.widen (k' := 2029) (sl' := 180946) (Nat.le_of_ble_eq_true rfl) (Nat.le_of_ble_eq_true rfl) ?_
          refine J.sub [2, 3, 4, 5, 6, 7, 8, 1, 0] rfl ?_
          exact hj_96 p_68.2 h
        · have h := h.pos (Decidable.not_not.mp c_69)
          refine J_aload (i := 6) (p := 8) C dL_plays_64 rfl rfl ?_
          refine J_bipush (v := 10) C (by decide) dL_plays_66 rfl ?_
          refine J_iconst (v := 1) C (by decide) dL_plays_68 rfl ?_
          refine J_iconst (v := 0) C (by decide) dL_plays_69 rfl ?_
          refine J_iconst (v := 0) C (by decide) dL_plays_70 rfl ?_
          refine Jl_cH (α := Int32 × LawS) (rest := []) (st9 := fun p_70 => [.int p_70.1]) C hR hX ch_RL_174 (kL_done hl  (Ok.ofbnd h)) rfl rfl (Nat.le_of_ble_eq_true rfl) (Nat.le_of_ble_eq_true rfl) (Nat.le_of_ble_eq_true rfl) ⟨(Nat.le_of_ble_eq_true rfl), (Nat.le_of_ble_eq_true rfl)⟩ dL_plays_71 rfl (fun _ => rfl) (fun p_70 h => ?_)
          have h : Ok _ _ := h
          change J X K 12 False QQ 2025 180922 2064 (jl K p_70.2) 74 [(8, .ref (K.2.2 + 42)), (7, .ref (K.2.2 + 41)), (0, .ref (K.2.2 + 0)), (1, .ref (K.2.2 + 1)), (2, .ref (K.2.2 + 43)), (3, .ref (K.2.2 + 44)), (4, .ref (K.2.2 + 45)), (5, .ref (K.2.2 + 46)), (6, .ref (K.2.2 + 47))] [.int p_70.1]
          refine J_if_ne (t := 96) C dL_plays_74 (by decide) rfl (fun c_71 => ?_) (fun c_71 => ?_)
          · have h := h.neg c_71
            refine J.widen (k' := 2029) (sl' := 180946) (Nat.le_of_ble_eq_true rfl) (Nat.le_of_ble_eq_true rfl) ?_
            refine J.sub [2, 3, 4, 5, 6, 7, 8, 1, 0] rfl ?_
            exact hj_96 p_70.2 h
          · have h := h.pos (Decidable.not_not.mp c_71)
            refine J_aload (i := 6) (p := 8) C dL_plays_77 rfl rfl ?_
            refine J_bipush (v := 12) C (by decide) dL_plays_79 rfl ?_
            refine J_iconst (v := 0) C (by decide) dL_plays_81 rfl ?_
            refine J_iconst (v := 0) C (by decide) dL_plays_82 rfl ?_
            refine J_iconst (v := 0) C (by decide) dL_plays_83 rfl ?_
            refine Jl_cH (α := Int32 × LawS) (rest := []) (st9 := fun p_72 => [.int p_72.1]) C hR hX ch_RL_174 (kL_done hl  (Ok.ofbnd h)) rfl rfl (Nat.le_of_ble_eq_true rfl) (Nat.le_of_ble_eq_true rfl) (Nat.le_of_ble_eq_true rfl) ⟨(Nat.le_of_ble_eq_true rfl), (Nat.le_of_ble_eq_true rfl)⟩ dL_plays_84 rfl (fun _ => rfl) (fun p_72 h => ?_)
            have h : Ok _ _ := h
            change J X K 12 False QQ 2029 180946 2064 (jl K p_72.2) 87 [(8, .ref (K.2.2 + 42)), (7, .ref (K.2.2 + 41)), (0, .ref (K.2.2 + 0)), (1, .ref (K.2.2 + 1)), (2, .ref (K.2.2 + 43)), (3, .ref (K.2.2 + 44)), (4, .ref (K.2.2 + 45)), (5, .ref (K.2.2 + 46)), (6, .ref (K.2.2 + 47))] [.int p_72.1]
            refine J_ldc (v := -1000004) C ci_RL_126 dL_plays_87 rfl ?_
            refine J_icmp_ne (t := 96) C dL_plays_89 (by decide) rfl (fun c_73 => ?_) (fun c_73 => ?_)
            · have h := h.neg c_73
              refine J.sub [2, 3, 4, 5, 6, 7, 8, 1, 0] rfl ?_
              exact hj_96 p_72.2 h
            · have h := h.pos (Decidable.not_not.mp c_73)
              refine J_iconst (v := 1) C (by decide) dL_plays_92 rfl ?_
              refine J_goto (t := 97) C dL_plays_93 (by decide) ?_
              refine J.sub [2, 3, 4, 5, 6, 7, 8, 1, 0] rfl ?_
              exact hj_97 p_72.2 (1 : Int32) h
