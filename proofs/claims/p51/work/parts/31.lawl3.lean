def fL_acts_j351 (τ_351 : LawS) (s0_351 : Int32) : Option (Int32 × LawS) :=
  some (s0_351, τ_351)
def fL_acts_j338 (τ_338 : LawS) : Option (Int32 × LawS) :=
  fL_acts_j351 τ_338 (0 : Int32)
def fL_acts_j258 (τ_258 : LawS) (s1_258 : Int32) (s2_258 : Int32) (s3_258 : Int32) (s4_258 : Int32) : Option (Int32 × LawS) :=
  bnd (fL_done τ_258 s1_258 s2_258 s3_258 s4_258) fun p_1 =>
  some (p_1.1, p_1.2)
def fL_acts_j220 (τ_220 : LawS) (l3_220 : Int32) (l6_220 : Int32) (l7_220 : Int32) : Option (Int32 × LawS) :=
  if l3_220 = (5 : Int32) then
    bnd (fL_next τ_220) fun p_17 =>
    if (p_17.1 - p_17.1 / (2 : Int32) * (2 : Int32)) = 0 then
      bnd (fL_from p_17.2 (1 : Int32) (8 : Int32)) fun p_20 =>
      fL_acts_j258 p_20.2 (5 : Int32) l6_220 l7_220 p_20.1
    else
      bnd (fL_from p_17.2 (1 : Int32) (8 : Int32)) fun p_19 =>
      fL_acts_j258 p_19.2 (5 : Int32) l6_220 l7_220 (-p_19.1)
  else
    if l3_220 = (6 : Int32) then
      bnd (fL_from τ_220 (1 : Int32) (9 : Int32)) fun p_15 =>
      bnd (fL_done p_15.2 (6 : Int32) l6_220 p_15.1 (0 : Int32)) fun p_16 =>
      some (p_16.1, p_16.2)
    else
      if l3_220 = (7 : Int32) then
        bnd (fL_done τ_220 (7 : Int32) l6_220 l7_220 (0 : Int32)) fun p_14 =>
        some (p_14.1, p_14.2)
      else
        if l3_220 = (8 : Int32) then
          bnd (nox (f11_count τ_220.2 (5 : Int32))) fun p_7 =>
          if p_7.1 = 0 then
            fL_acts_j338 (τ_220.1, p_7.2)
          else
            bnd (nox (f11_count p_7.2 (5 : Int32))) fun p_9 =>
            if (3 : Int32) < p_9.1 then
              fL_acts_j338 (τ_220.1, p_9.2)
            else
              bnd (fL_done (τ_220.1, p_9.2) (22 : Int32) (0 : Int32) (0 : Int32) (0 : Int32)) fun p_11 =>
              if 0 ≤ p_11.1 then
                bnd (fL_done p_11.2 (8 : Int32) (0 : Int32) (0 : Int32) (0 : Int32)) fun p_13 =>
                fL_acts_j351 p_13.2 p_13.1
              else
                fL_acts_j338 p_11.2
        else
          bnd (fL_done τ_220 l3_220 (0 : Int32) (0 : Int32) (0 : Int32)) fun p_6 =>
          some (p_6.1, p_6.2)
def fL_acts_j219 (τ_219 : LawS) (s0_219 : Int32) : Option (Int32 × LawS) :=
  some (s0_219, τ_219)
def fL_acts_j89 (τ_89 : LawS) (l3_89 : Int32) (l4_89 : Int32) (l6_89 : Int32) (l7_89 : Int32) (l8_89 : Int32) : Option (Int32 × LawS) :=
  if l3_89 = (1 : Int32) then
    bnd (fL_from τ_89 (-6 : Int32) (6 : Int32)) fun p_35 =>
    bnd (fL_done p_35.2 (1 : Int32) p_35.1 (0 : Int32) (0 : Int32)) fun p_36 =>
    some (p_36.1, p_36.2)
  else
    if l3_89 = (2 : Int32) then
      bnd (fL_next τ_89) fun p_33 =>
      bnd (fL_done p_33.2 (2 : Int32) l8_89 (imin l4_89 (l8_89 + (p_33.1 - p_33.1 / (5 : Int32) * (5 : Int32)))) (0 : Int32)) fun p_34 =>
      some (p_34.1, p_34.2)
    else
      if l3_89 = (3 : Int32) then
        bnd (fL_next τ_89) fun p_31 =>
        bnd (fL_done p_31.2 (3 : Int32) l8_89 (imin l4_89 (l8_89 + (p_31.1 - p_31.1 / (9 : Int32) * (9 : Int32)))) (0 : Int32)) fun p_32 =>
        some (p_32.1, p_32.2)
      else
        if l3_89 = (4 : Int32) then
          bnd (fL_next τ_89) fun p_25 =>
          if (p_25.1 - p_25.1 / (2 : Int32) * (2 : Int32)) = 0 then
            bnd (fL_next p_25.2) fun p_27 =>
            bnd (fL_done p_27.2 (25 : Int32) l6_89 ((l7_89 - l6_89) + (1 : Int32)) (p_27.1 - p_27.1 / (7 : Int32) * (7 : Int32))) fun p_28 =>
            if 0 ≤ p_28.1 then
              bnd (fL_done p_28.2 (4 : Int32) (0 : Int32) (0 : Int32) (0 : Int32)) fun p_30 =>
              fL_acts_j219 p_30.2 p_30.1
            else
              fL_acts_j219 p_28.2 (-1000009 : Int32)
          else
            fL_acts_j220 p_25.2 l3_89 l6_89 l7_89
        else
          fL_acts_j220 τ_89 l3_89 l6_89 l7_89
def fL_acts_j69 (τ_69 : LawS) (l3_69 : Int32) (l4_69 : Int32) (l6_69 : Int32) (l7_69 : Int32) (l8_69 : Int32) : Option (Int32 × LawS) :=
  bnd (fL_draws τ_69) fun p_37 =>
  stp p_37.1 fun x9_1 =>
  bnd (fL_feeds p_37.2 43 x9_1) fun p_38 =>
  if p_38.1 = 0 then
    some ((-1000009 : Int32), p_38.2)
  else
    fL_acts_j89 p_38.2 l3_69 l4_69 l6_69 l7_69 l8_69
def fL_acts (τ : LawS) : Option (Int32 × LawS) :=
  bnd (fL_next τ) fun p_40 =>
  stp (p_40.1 - p_40.1 / (9 : Int32) * (9 : Int32)) fun x3_2 =>
  bnd (nox (f11_count p_40.2.2 (0 : Int32))) fun p_41 =>
  stp p_41.1 fun x4_3 =>
  bnd (nox (f11_count p_41.2 (1 : Int32))) fun p_42 =>
  stp p_42.1 fun x5_4 =>
  bnd (fL_next (p_40.2.1, p_42.2)) fun p_43 =>
  gd (nz x5_4) <|
  stp (p_43.1 - p_43.1 / x5_4 * x5_4) fun x6_5 =>
  bnd (fL_next p_43.2) fun p_45 =>
  stp (imin (x5_4 - (1 : Int32)) (x6_5 + (p_45.1 - p_45.1 / (4 : Int32) * (4 : Int32)))) fun x7_6 =>
  bnd (fL_next p_45.2) fun p_46 =>
  gd (nz (x4_3 + (1 : Int32))) <|
  stp (p_46.1 - p_46.1 / (x4_3 + (1 : Int32)) * (x4_3 + (1 : Int32))) fun x8_7 =>
  if x3_2 = 0 then
    fL_acts_j69 p_46.2 x3_2 x4_3 x6_5 x7_6 x8_7
  else
    if x3_2 = (2 : Int32) then
      fL_acts_j69 p_46.2 x3_2 x4_3 x6_5 x7_6 x8_7
    else
      fL_acts_j89 p_46.2 x3_2 x4_3 x6_5 x7_6 x8_7
set_option maxHeartbeats 4000000 in
set_option maxRecDepth 100000 in
theorem kL_acts {l : Launch} {K : JK} (hl : l.stackTraces = false) {τ : LawS}   {Qf : Int32 × LawS → Prop} (h : Ok (fL_acts τ) Qf) : Con l K yL_acts (.code yL_acts cL_acts 10 (some .int) :: TB) 10 2 12 False [.ref (K.2.2 + 47), .ref (K.2.2 + 0), .ref (K.2.2 + 43)] 2064 (jl K τ) (PL Qf (fun p => some (.int p.1)) (fun p => jl K p.2)) PN := by
  refine Con.enter (own := RL) hl (by decide) rfl (Nat.le_of_ble_eq_true rfl) ?_
  intro X hX hR C hret hnt
  generalize hQQ : jQ X K 2 12 (PL Qf (fun p => some (.int p.1)) (fun p => jl K p.2)) PN False = QQ
  change J X K 10 False QQ 0 0 2064 (jl K τ) 0 [(0, .ref (K.2.2 + 47)), (1, .ref (K.2.2 + 0)), (2, .ref (K.2.2 + 43))] []
  have hj_351 : (∀ (τ_351 : LawS) (s0_351 : Int32), Ok (fL_acts_j351 τ_351 s0_351) Qf → J X K 10 False QQ 2 12 2064 (jl K τ_351) 351 [] [.int s0_351]) := by
    intro τ_351 s0_351 h
    unfold fL_acts_j351 at h
    rw [← hQQ]
    exact J_iret C hret (Nat.le_of_ble_eq_true rfl) (Nat.le_of_ble_eq_true rfl) ⟨_, h.osome, rfl, rfl, rfl⟩ dL_acts_351
  have hj_338 : (∀ (τ_338 : LawS), Ok (fL_acts_j338 τ_338) Qf → J X K 10 False QQ 1 6 2064 (jl K τ_338) 338 [] []) := by
    intro τ_338 h
    unfold fL_acts_j338 at h
    refine J_iconst (v := 0) C (by decide) dL_acts_338 rfl ?_
    refine J_goto (t := 351) C dL_acts_339 (by decide) ?_
    refine J.widen (k' := 2) (sl' := 12) (Nat.le_of_ble_eq_true rfl) (Nat.le_of_ble_eq_true rfl) ?_
    exact hj_351 τ_338 (0 : Int32) h
  have hj_258 : (∀ (τ_258 : LawS) (s1_258 : Int32) (s2_258 : Int32) (s3_258 : Int32) (s4_258 : Int32), Ok (fL_acts_j258 τ_258 s1_258 s2_258 s3_258 s4_258) Qf → J X K 10 False QQ 0 0 2064 (jl K τ_258) 258 [] [.int s4_258, .int s3_258, .int s2_258, .int s1_258, .ref (K.2.2 + 47)]) := by
    intro τ_258 s1_258 s2_258 s3_258 s4_258 h
    unfold fL_acts_j258 at h
    refine Jl_cH (rest := []) (st9 := fun p_1 => [.int p_1.1]) C hR hX ch_RL_174 (kL_done hl  (Ok.ofbnd h)) rfl rfl (Nat.le_of_ble_eq_true rfl) (Nat.le_of_ble_eq_true rfl) (Nat.le_of_ble_eq_true rfl) ⟨(Nat.le_of_ble_eq_true rfl), (Nat.le_of_ble_eq_true rfl)⟩ dL_acts_258 rfl (fun _ => rfl) (fun p_1 h => ?_)
    have h : Ok _ _ := h
    change J X K 10 False QQ 1 6 2064 (jl K p_1.2) 261 [] [.int p_1.1]
    rw [← hQQ]
    exact J_iret C hret (Nat.le_of_ble_eq_true rfl) (Nat.le_of_ble_eq_true rfl) ⟨_, h.osome, rfl, rfl, rfl⟩ dL_acts_261
  have hj_220 : (∀ (τ_220 : LawS) (l3_220 : Int32) (l6_220 : Int32) (l7_220 : Int32), Ok (fL_acts_j220 τ_220 l3_220 l6_220 l7_220) Qf → J X K 10 False QQ 0 0 2064 (jl K τ_220) 220 [(0, .ref (K.2.2 + 47)), (1, .ref (K.2.2 + 0)), (3, .int l3_220), (6, .int l6_220), (7, .int l7_220)] []) := by
    intro τ_220 l3_220 l6_220 l7_220 h
    unfold fL_acts_j220 at h
    refine J_iload_n (i := 3) (p := 2) C dL_acts_220 rfl rfl rfl ?_
    refine J_iconst (v := 5) C (by decide) dL_acts_221 rfl ?_
    refine J_icmp_ne (t := 262) C dL_acts_222 (by decide) rfl (fun c_2 => ?_) (fun c_2 => ?_)
    · have h := h.neg c_2
      refine J_iload_n (i := 3) (p := 2) C dL_acts_262 rfl rfl rfl ?_
      refine J_bipush (v := 6) C (by decide) dL_acts_263 rfl ?_
      refine J_icmp_ne (t := 285) C dL_acts_265 (by decide) rfl (fun c_3 => ?_) (fun c_3 => ?_)
      · have h := h.neg c_3
        refine J_iload_n (i := 3) (p := 2) C dL_acts_285 rfl rfl rfl ?_
        refine J_bipush (v := 7) C (by decide) dL_acts_286 rfl ?_
        refine J_icmp_ne (t := 303) C dL_acts_288 (by decide) rfl (fun c_4 => ?_) (fun c_4 => ?_)
        · have h := h.neg c_4
          refine J_iload_n (i := 3) (p := 2) C dL_acts_303 rfl rfl rfl ?_
          refine J_bipush (v := 8) C (by decide) dL_acts_304 rfl ?_
          refine J_icmp_ne (t := 352) C dL_acts_306 (by decide) rfl (fun c_5 => ?_) (fun c_5 => ?_)
          · have h := h.neg c_5
            refine J_aload_n (i := 0) (p := 0) C dL_acts_352 rfl rfl rfl ?_
            refine J_iload_n (i := 3) (p := 2) C dL_acts_353 rfl rfl rfl ?_
            refine J_iconst (v := 0) C (by decide) dL_acts_354 rfl ?_
            refine J_iconst (v := 0) C (by decide) dL_acts_355 rfl ?_
            refine J_iconst (v := 0) C (by decide) dL_acts_356 rfl ?_
            refine Jl_cH (rest := []) (st9 := fun p_6 => [.int p_6.1]) C hR hX ch_RL_174 (kL_done hl  (Ok.ofbnd h)) rfl rfl (Nat.le_of_ble_eq_true rfl) (Nat.le_of_ble_eq_true rfl) (Nat.le_of_ble_eq_true rfl) ⟨(Nat.le_of_ble_eq_true rfl), (Nat.le_of_ble_eq_true rfl)⟩ dL_acts_357 rfl (fun _ => rfl) (fun p_6 h => ?_)
            have h : Ok _ _ := h
            change J X K 10 False QQ 1 6 2064 (jl K p_6.2) 360 [(0, .ref (K.2.2 + 47)), (1, .ref (K.2.2 + 0)), (3, .int l3_220), (6, .int l6_220), (7, .int l7_220)] [.int p_6.1]
            rw [← hQQ]
            exact J_iret C hret (Nat.le_of_ble_eq_true rfl) (Nat.le_of_ble_eq_true rfl) ⟨_, h.osome, rfl, rfl, rfl⟩ dL_acts_360
          · have h := h.pos (Decidable.not_not.mp c_5)
            refine J_aload_n (i := 0) (p := 0) C dL_acts_309 rfl rfl rfl ?_
            refine J_iconst (v := 5) C (by decide) dL_acts_310 rfl ?_
            refine Jl_cV (rest := []) (st9 := fun p_7 => [.int p_7.1]) (wd := fun p_7 => p_7.2) C hR hX cv_RL_134 (k11_count_n hl (Ok.ofnox h) (fun c hc => hc)) rfl rfl (Nat.le_of_ble_eq_true rfl) (Nat.le_of_ble_eq_true rfl) (Nat.le_of_ble_eq_true rfl) ⟨(Nat.le_of_ble_eq_true rfl), (Nat.le_of_ble_eq_true rfl)⟩ dL_acts_311 rfl (fun E n9 w9 hx => hx.elim) (fun _ => rfl) (fun p_7 h => ?_)
            have h : Ok _ _ := h
            change J X K 10 False QQ 0 0 2064 (jl K (τ_220.1, p_7.2)) 314 [(0, .ref (K.2.2 + 47)), (1, .ref (K.2.2 + 0)), (3, .int l3_220), (6, .int l6_220), (7, .int l7_220)] [.int p_7.1]
            refine J_if_eq (t := 338) C dL_acts_314 (by decide) rfl (fun c_8 => ?_) (fun c_8 => ?_)
            · have h := h.pos c_8
              refine J.widen (k' := 1) (sl' := 6) (Nat.le_of_ble_eq_true rfl) (Nat.le_of_ble_eq_true rfl) ?_
              refine J.sub [] rfl ?_
              exact hj_338 (τ_220.1, p_7.2) h
            · have h := h.neg c_8
              refine J_aload_n (i := 0) (p := 0) C dL_acts_317 rfl rfl rfl ?_
              refine J_iconst (v := 5) C (by decide) dL_acts_318 rfl ?_
              refine Jl_cV (rest := []) (st9 := fun p_9 => [.int p_9.1]) (wd := fun p_9 => p_9.2) C hR hX cv_RL_134 (k11_count_n hl (Ok.ofnox h) (fun c hc => hc)) rfl rfl (Nat.le_of_ble_eq_true rfl) (Nat.le_of_ble_eq_true rfl) (Nat.le_of_ble_eq_true rfl) ⟨(Nat.le_of_ble_eq_true rfl), (Nat.le_of_ble_eq_true rfl)⟩ dL_acts_319 rfl (fun E n9 w9 hx => hx.elim) (fun _ => rfl) (fun p_9 h => ?_)
              have h : Ok _ _ := h
              change J X K 10 False QQ 0 0 2064 (jl K (τ_220.1, p_9.2)) 322 [(0, .ref (K.2.2 + 47)), (1, .ref (K.2.2 + 0)), (3, .int l3_220), (6, .int l6_220), (7, .int l7_220)] [.int p_9.1]
              refine J_iconst (v := 3) C (by decide) dL_acts_322 rfl ?_
              refine J_icmp_gt (t := 338) C dL_acts_323 (by decide) rfl (fun c_10 => ?_) (fun c_10 => ?_)
              · have h := h.pos c_10
                refine J.widen (k' := 1) (sl' := 6) (Nat.le_of_ble_eq_true rfl) (Nat.le_of_ble_eq_true rfl) ?_
                refine J.sub [] rfl ?_
                exact hj_338 (τ_220.1, p_9.2) h
              · have h := h.neg c_10
                refine J_aload_n (i := 0) (p := 0) C dL_acts_326 rfl rfl rfl ?_
                refine J_bipush (v := 22) C (by decide) dL_acts_327 rfl ?_
                refine J_iconst (v := 0) C (by decide) dL_acts_329 rfl ?_
                refine J_iconst (v := 0) C (by decide) dL_acts_330 rfl ?_
                refine J_iconst (v := 0) C (by decide) dL_acts_331 rfl ?_
                refine Jl_cH (rest := []) (st9 := fun p_11 => [.int p_11.1]) C hR hX ch_RL_174 (kL_done hl  (Ok.ofbnd h)) rfl rfl (Nat.le_of_ble_eq_true rfl) (Nat.le_of_ble_eq_true rfl) (Nat.le_of_ble_eq_true rfl) ⟨(Nat.le_of_ble_eq_true rfl), (Nat.le_of_ble_eq_true rfl)⟩ dL_acts_332 rfl (fun _ => rfl) (fun p_11 h => ?_)
                have h : Ok _ _ := h
                change J X K 10 False QQ 1 6 2064 (jl K p_11.2) 335 [(0, .ref (K.2.2 + 47)), (1, .ref (K.2.2 + 0)), (3, .int l3_220), (6, .int l6_220), (7, .int l7_220)] [.int p_11.1]
                refine J_if_ge (t := 342) C dL_acts_335 (by decide) rfl (fun c_12 => ?_) (fun c_12 => ?_)
                · have h := h.pos c_12
                  refine J_aload_n (i := 0) (p := 0) C dL_acts_342 rfl rfl rfl ?_
                  refine J_bipush (v := 8) C (by decide) dL_acts_343 rfl ?_
                  refine J_iconst (v := 0) C (by decide) dL_acts_345 rfl ?_
                  refine J_iconst (v := 0) C (by decide) dL_acts_346 rfl ?_
                  refine J_iconst (v := 0) C (by decide) dL_acts_347 rfl ?_
                  refine Jl_cH (rest := []) (st9 := fun p_13 => [.int p_13.1]) C hR hX ch_RL_174 (kL_done hl  (Ok.ofbnd h)) rfl rfl (Nat.le_of_ble_eq_true rfl) (Nat.le_of_ble_eq_true rfl) (Nat.le_of_ble_eq_true rfl) ⟨(Nat.le_of_ble_eq_true rfl), (Nat.le_of_ble_eq_true rfl)⟩ dL_acts_348 rfl (fun _ => rfl) (fun p_13 h => ?_)
                  have h : Ok _ _ := h
                  change J X K 10 False QQ 2 12 2064 (jl K p_13.2) 351 [(0, .ref (K.2.2 + 47)), (1, .ref (K.2.2 + 0)), (3, .int l3_220), (6, .int l6_220), (7, .int l7_220)] [.int p_13.1]
                  refine J.sub [] rfl ?_
                  exact hj_351 p_13.2 p_13.1 h
                · have h := h.neg c_12
                  refine J.sub [] rfl ?_
                  exact hj_338 p_11.2 h
        · have h := h.pos (Decidable.not_not.mp c_4)
          refine J_aload_n (i := 0) (p := 0) C dL_acts_291 rfl rfl rfl ?_
          refine J_bipush (v := 7) C (by decide) dL_acts_292 rfl ?_
          refine J_iload (i := 6) (p := 3) C dL_acts_294 rfl rfl ?_
          refine J_iload (i := 7) (p := 4) C dL_acts_296 rfl rfl ?_
          refine J_iconst (v := 0) C (by decide) dL_acts_298 rfl ?_
          refine Jl_cH (rest := []) (st9 := fun p_14 => [.int p_14.1]) C hR hX ch_RL_174 (kL_done hl  (Ok.ofbnd h)) rfl rfl (Nat.le_of_ble_eq_true rfl) (Nat.le_of_ble_eq_true rfl) (Nat.le_of_ble_eq_true rfl) ⟨(Nat.le_of_ble_eq_true rfl), (Nat.le_of_ble_eq_true rfl)⟩ dL_acts_299 rfl (fun _ => rfl) (fun p_14 h => ?_)
          have h : Ok _ _ := h
          change J X K 10 False QQ 1 6 2064 (jl K p_14.2) 302 [(0, .ref (K.2.2 + 47)), (1, .ref (K.2.2 + 0)), (3, .int l3_220), (6, .int l6_220), (7, .int l7_220)] [.int p_14.1]
          rw [← hQQ]
          exact J_iret C hret (Nat.le_of_ble_eq_true rfl) (Nat.le_of_ble_eq_true rfl) ⟨_, h.osome, rfl, rfl, rfl⟩ dL_acts_302
      · have h := h.pos (Decidable.not_not.mp c_3)
        refine J_aload_n (i := 0) (p := 0) C dL_acts_268 rfl rfl rfl ?_
        refine J_bipush (v := 6) C (by decide) dL_acts_269 rfl ?_
        refine J_iload (i := 6) (p := 3) C dL_acts_271 rfl rfl ?_
        refine J_aload_n (i := 1) (p := 1) C dL_acts_273 rfl rfl rfl ?_
        refine J_iconst (v := 1) C (by decide) dL_acts_274 rfl ?_
        refine J_bipush (v := 9) C (by decide) dL_acts_275 rfl ?_
        refine Jl_cS (rest := [.int l6_220, .int (6 : Int32), .ref (K.2.2 + 47)]) (st9 := fun p_15 => [.int p_15.1, .int l6_220, .int (6 : Int32), .ref (K.2.2 + 47)]) C hR hX cs_RL_137 (kL_from hl  (Ok.ofbnd h)) rfl rfl (Nat.le_of_ble_eq_true rfl) (Nat.le_of_ble_eq_true rfl) (Nat.le_of_ble_eq_true rfl) ⟨(Nat.le_of_ble_eq_true rfl), (Nat.le_of_ble_eq_true rfl)⟩ dL_acts_277 rfl (fun _ => rfl) (fun p_15 h => ?_)
        have h : Ok _ _ := h
        change J X K 10 False QQ 0 0 2064 (jl K p_15.2) 280 [(0, .ref (K.2.2 + 47)), (1, .ref (K.2.2 + 0)), (3, .int l3_220), (6, .int l6_220), (7, .int l7_220)] [.int p_15.1, .int l6_220, .int (6 : Int32), .ref (K.2.2 + 47)]
        refine J_iconst (v := 0) C (by decide) dL_acts_280 rfl ?_
        refine Jl_cH (rest := []) (st9 := fun p_16 => [.int p_16.1]) C hR hX ch_RL_174 (kL_done hl  (Ok.ofbnd h)) rfl rfl (Nat.le_of_ble_eq_true rfl) (Nat.le_of_ble_eq_true rfl) (Nat.le_of_ble_eq_true rfl) ⟨(Nat.le_of_ble_eq_true rfl), (Nat.le_of_ble_eq_true rfl)⟩ dL_acts_281 rfl (fun _ => rfl) (fun p_16 h => ?_)
        have h : Ok _ _ := h
        change J X K 10 False QQ 1 6 2064 (jl K p_16.2) 284 [(0, .ref (K.2.2 + 47)), (1, .ref (K.2.2 + 0)), (3, .int l3_220), (6, .int l6_220), (7, .int l7_220)] [.int p_16.1]
        rw [← hQQ]
        exact J_iret C hret (Nat.le_of_ble_eq_true rfl) (Nat.le_of_ble_eq_true rfl) ⟨_, h.osome, rfl, rfl, rfl⟩ dL_acts_284
    · have h := h.pos (Decidable.not_not.mp c_2)
      refine J_aload_n (i := 0) (p := 0) C dL_acts_225 rfl rfl rfl ?_
      refine J_iconst (v := 5) C (by decide) dL_acts_226 rfl ?_
      refine J_iload (i := 6) (p := 3) C dL_acts_227 rfl rfl ?_
      refine J_iload (i := 7) (p := 4) C dL_acts_229 rfl rfl ?_
      refine J_aload_n (i := 1) (p := 1) C dL_acts_231 rfl rfl rfl ?_
      refine Jl_cS (rest := [.int l7_220, .int l6_220, .int (5 : Int32), .ref (K.2.2 + 47)]) (st9 := fun p_17 => [.int p_17.1, .int l7_220, .int l6_220, .int (5 : Int32), .ref (K.2.2 + 47)]) C hR hX cs_RL_8 (kL_next hl  (Ok.ofbnd h)) rfl rfl (Nat.le_of_ble_eq_true rfl) (Nat.le_of_ble_eq_true rfl) (Nat.le_of_ble_eq_true rfl) ⟨(Nat.le_of_ble_eq_true rfl), (Nat.le_of_ble_eq_true rfl)⟩ dL_acts_232 rfl (fun _ => rfl) (fun p_17 h => ?_)
      have h : Ok _ _ := h
      change J X K 10 False QQ 0 0 2064 (jl K p_17.2) 235 [(0, .ref (K.2.2 + 47)), (1, .ref (K.2.2 + 0)), (3, .int l3_220), (6, .int l6_220), (7, .int l7_220)] [.int p_17.1, .int l7_220, .int l6_220, .int (5 : Int32), .ref (K.2.2 + 47)]
      refine J_iconst (v := 2) C (by decide) dL_acts_235 rfl ?_
      refine J_irem C (by decide) dL_acts_236 rfl ?_
      refine J_if_ne (t := 250) C dL_acts_237 (by decide) rfl (fun c_18 => ?_) (fun c_18 => ?_)
      · have h := h.neg c_18
        refine J_aload_n (i := 1) (p := 1) C dL_acts_250 rfl rfl rfl ?_
        refine J_iconst (v := 1) C (by decide) dL_acts_251 rfl ?_
        refine J_bipush (v := 8) C (by decide) dL_acts_252 rfl ?_
        refine Jl_cS (rest := [.int l7_220, .int l6_220, .int (5 : Int32), .ref (K.2.2 + 47)]) (st9 := fun p_19 => [.int p_19.1, .int l7_220, .int l6_220, .int (5 : Int32), .ref (K.2.2 + 47)]) C hR hX cs_RL_137 (kL_from hl  (Ok.ofbnd h)) rfl rfl (Nat.le_of_ble_eq_true rfl) (Nat.le_of_ble_eq_true rfl) (Nat.le_of_ble_eq_true rfl) ⟨(Nat.le_of_ble_eq_true rfl), (Nat.le_of_ble_eq_true rfl)⟩ dL_acts_254 rfl (fun _ => rfl) (fun p_19 h => ?_)
        have h : Ok _ _ := h
        change J X K 10 False QQ 0 0 2064 (jl K p_19.2) 257 [(0, .ref (K.2.2 + 47)), (1, .ref (K.2.2 + 0)), (3, .int l3_220), (6, .int l6_220), (7, .int l7_220)] [.int p_19.1, .int l7_220, .int l6_220, .int (5 : Int32), .ref (K.2.2 + 47)]
        refine J_ineg C dL_acts_257 rfl ?_
        refine J.sub [] rfl ?_
        exact hj_258 p_19.2 (5 : Int32) l6_220 l7_220 (-p_19.1) h
      · have h := h.pos (Decidable.not_not.mp c_18)
        refine J_aload_n (i := 1) (p := 1) C dL_acts_240 rfl rfl rfl ?_
        refine J_iconst (v := 1) C (by decide) dL_acts_241 rfl ?_
        refine J_bipush (v := 8) C (by decide) dL_acts_242 rfl ?_
        refine Jl_cS (rest := [.int l7_220, .int l6_220, .int (5 : Int32), .ref (K.2.2 + 47)]) (st9 := fun p_20 => [.int p_20.1, .int l7_220, .int l6_220, .int (5 : Int32), .ref (K.2.2 + 47)]) C hR hX cs_RL_137 (kL_from hl  (Ok.ofbnd h)) rfl rfl (Nat.le_of_ble_eq_true rfl) (Nat.le_of_ble_eq_true rfl) (Nat.le_of_ble_eq_true rfl) ⟨(Nat.le_of_ble_eq_true rfl), (Nat.le_of_ble_eq_true rfl)⟩ dL_acts_244 rfl (fun _ => rfl) (fun p_20 h => ?_)
        have h : Ok _ _ := h
        change J X K 10 False QQ 0 0 2064 (jl K p_20.2) 247 [(0, .ref (K.2.2 + 47)), (1, .ref (K.2.2 + 0)), (3, .int l3_220), (6, .int l6_220), (7, .int l7_220)] [.int p_20.1, .int l7_220, .int l6_220, .int (5 : Int32), .ref (K.2.2 + 47)]
        refine J_goto (t := 258) C dL_acts_247 (by decide) ?_
        refine J.sub [] rfl ?_
        exact hj_258 p_20.2 (5 : Int32) l6_220 l7_220 p_20.1 h
  have hj_219 : (∀ (τ_219 : LawS) (s0_219 : Int32), Ok (fL_acts_j219 τ_219 s0_219) Qf → J X K 10 False QQ 2 12 2064 (jl K τ_219) 219 [] [.int s0_219]) := by
    intro τ_219 s0_219 h
    unfold fL_acts_j219 at h
    rw [← hQQ]
    exact J_iret C hret (Nat.le_of_ble_eq_true rfl) (Nat.le_of_ble_eq_true rfl) ⟨_, h.osome, rfl, rfl, rfl⟩ dL_acts_219
  have hj_89 : (∀ (τ_89 : LawS) (l3_89 : Int32) (l4_89 : Int32) (l6_89 : Int32) (l7_89 : Int32) (l8_89 : Int32), Ok (fL_acts_j89 τ_89 l3_89 l4_89 l6_89 l7_89 l8_89) Qf → J X K 10 False QQ 0 0 2064 (jl K τ_89) 89 [(0, .ref (K.2.2 + 47)), (1, .ref (K.2.2 + 0)), (3, .int l3_89), (4, .int l4_89), (6, .int l6_89), (7, .int l7_89), (8, .int l8_89)] []) := by
    intro τ_89 l3_89 l4_89 l6_89 l7_89 l8_89 h
    unfold fL_acts_j89 at h
    refine J_iload_n (i := 3) (p := 2) C dL_acts_89 rfl rfl rfl ?_
    refine J_iconst (v := 1) C (by decide) dL_acts_90 rfl ?_
    refine J_icmp_ne (t := 110) C dL_acts_91 (by decide) rfl (fun c_21 => ?_) (fun c_21 => ?_)
    · have h := h.neg c_21
      refine J_iload_n (i := 3) (p := 2) C dL_acts_110 rfl rfl rfl ?_
      refine J_iconst (v := 2) C (by decide) dL_acts_111 rfl ?_
      refine J_icmp_ne (t := 138) C dL_acts_112 (by decide) rfl (fun c_22 => ?_) (fun c_22 => ?_)
      · have h := h.neg c_22
        refine J_iload_n (i := 3) (p := 2) C dL_acts_138 rfl rfl rfl ?_
        refine J_iconst (v := 3) C (by decide) dL_acts_139 rfl ?_
        refine J_icmp_ne (t := 167) C dL_acts_140 (by decide) rfl (fun c_23 => ?_) (fun c_23 => ?_)
        · have h := h.neg c_23
          refine J_iload_n (i := 3) (p := 2) C dL_acts_167 rfl rfl rfl ?_
          refine J_iconst (v := 4) C (by decide) dL_acts_168 rfl ?_
          refine J_icmp_ne (t := 220) C dL_acts_169 (by decide) rfl (fun c_24 => ?_) (fun c_24 => ?_)
          · have h := h.neg c_24
            refine J.sub [0, 1, 2, 4, 5] rfl ?_
            exact hj_220 τ_89 l3_89 l6_89 l7_89 h
          · have h := h.pos (Decidable.not_not.mp c_24)
            refine J_aload_n (i := 1) (p := 1) C dL_acts_172 rfl rfl rfl ?_
            refine Jl_cS (rest := []) (st9 := fun p_25 => [.int p_25.1]) C hR hX cs_RL_8 (kL_next hl  (Ok.ofbnd h)) rfl rfl (Nat.le_of_ble_eq_true rfl) (Nat.le_of_ble_eq_true rfl) (Nat.le_of_ble_eq_true rfl) ⟨(Nat.le_of_ble_eq_true rfl), (Nat.le_of_ble_eq_true rfl)⟩ dL_acts_173 rfl (fun _ => rfl) (fun p_25 h => ?_)
            have h : Ok _ _ := h
            change J X K 10 False QQ 0 0 2064 (jl K p_25.2) 176 [(0, .ref (K.2.2 + 47)), (1, .ref (K.2.2 + 0)), (3, .int l3_89), (4, .int l4_89), (6, .int l6_89), (7, .int l7_89), (8, .int l8_89)] [.int p_25.1]
            refine J_iconst (v := 2) C (by decide) dL_acts_176 rfl ?_
            refine J_irem C (by decide) dL_acts_177 rfl ?_
            refine J_if_ne (t := 220) C dL_acts_178 (by decide) rfl (fun c_26 => ?_) (fun c_26 => ?_)
            · have h := h.neg c_26
              refine J.sub [0, 1, 2, 4, 5] rfl ?_
              exact hj_220 p_25.2 l3_89 l6_89 l7_89 h
            · have h := h.pos (Decidable.not_not.mp c_26)
              refine J_aload_n (i := 0) (p := 0) C dL_acts_181 rfl rfl rfl ?_
              refine J_bipush (v := 25) C (by decide) dL_acts_182 rfl ?_
              refine J_iload (i := 6) (p := 4) C dL_acts_184 rfl rfl ?_
              refine J_iload (i := 7) (p := 5) C dL_acts_186 rfl rfl ?_
              refine J_iload (i := 6) (p := 4) C dL_acts_188 rfl rfl ?_
              refine J_isub C dL_acts_190 rfl ?_
              refine J_iconst (v := 1) C (by decide) dL_acts_191 rfl ?_
              refine J_iadd C dL_acts_192 rfl ?_
              refine J_aload_n (i := 1) (p := 1) C dL_acts_193 rfl rfl rfl ?_
              refine Jl_cS (rest := [.int ((l7_89 - l6_89) + (1 : Int32)), .int l6_89, .int (25 : Int32), .ref (K.2.2 + 47)]) (st9 := fun p_27 => [.int p_27.1, .int ((l7_89 - l6_89) + (1 : Int32)), .int l6_89, .int (25 : Int32), .ref (K.2.2 + 47)]) C hR hX cs_RL_8 (kL_next hl  (Ok.ofbnd h)) rfl rfl (Nat.le_of_ble_eq_true rfl) (Nat.le_of_ble_eq_true rfl) (Nat.le_of_ble_eq_true rfl) ⟨(Nat.le_of_ble_eq_true rfl), (Nat.le_of_ble_eq_true rfl)⟩ dL_acts_194 rfl (fun _ => rfl) (fun p_27 h => ?_)
              have h : Ok _ _ := h
              change J X K 10 False QQ 0 0 2064 (jl K p_27.2) 197 [(0, .ref (K.2.2 + 47)), (1, .ref (K.2.2 + 0)), (3, .int l3_89), (4, .int l4_89), (6, .int l6_89), (7, .int l7_89), (8, .int l8_89)] [.int p_27.1, .int ((l7_89 - l6_89) + (1 : Int32)), .int l6_89, .int (25 : Int32), .ref (K.2.2 + 47)]
              refine J_bipush (v := 7) C (by decide) dL_acts_197 rfl ?_
              refine J_irem C (by decide) dL_acts_199 rfl ?_
              refine Jl_cH (rest := []) (st9 := fun p_28 => [.int p_28.1]) C hR hX ch_RL_174 (kL_done hl  (Ok.ofbnd h)) rfl rfl (Nat.le_of_ble_eq_true rfl) (Nat.le_of_ble_eq_true rfl) (Nat.le_of_ble_eq_true rfl) ⟨(Nat.le_of_ble_eq_true rfl), (Nat.le_of_ble_eq_true rfl)⟩ dL_acts_200 rfl (fun _ => rfl) (fun p_28 h => ?_)
              have h : Ok _ _ := h
              change J X K 10 False QQ 1 6 2064 (jl K p_28.2) 203 [(0, .ref (K.2.2 + 47)), (1, .ref (K.2.2 + 0)), (3, .int l3_89), (4, .int l4_89), (6, .int l6_89), (7, .int l7_89), (8, .int l8_89)] [.int p_28.1]
              refine J_if_ge (t := 211) C dL_acts_203 (by decide) rfl (fun c_29 => ?_) (fun c_29 => ?_)
              · have h := h.pos c_29
                refine J_aload_n (i := 0) (p := 0) C dL_acts_211 rfl rfl rfl ?_
                refine J_iconst (v := 4) C (by decide) dL_acts_212 rfl ?_
                refine J_iconst (v := 0) C (by decide) dL_acts_213 rfl ?_
                refine J_iconst (v := 0) C (by decide) dL_acts_214 rfl ?_
                refine J_iconst (v := 0) C (by decide) dL_acts_215 rfl ?_
                refine Jl_cH (rest := []) (st9 := fun p_30 => [.int p_30.1]) C hR hX ch_RL_174 (kL_done hl  (Ok.ofbnd h)) rfl rfl (Nat.le_of_ble_eq_true rfl) (Nat.le_of_ble_eq_true rfl) (Nat.le_of_ble_eq_true rfl) ⟨(Nat.le_of_ble_eq_true rfl), (Nat.le_of_ble_eq_true rfl)⟩ dL_acts_216 rfl (fun _ => rfl) (fun p_30 h => ?_)
                have h : Ok _ _ := h
                change J X K 10 False QQ 2 12 2064 (jl K p_30.2) 219 [(0, .ref (K.2.2 + 47)), (1, .ref (K.2.2 + 0)), (3, .int l3_89), (4, .int l4_89), (6, .int l6_89), (7, .int l7_89), (8, .int l8_89)] [.int p_30.1]
                refine J.sub [] rfl ?_
                exact hj_219 p_30.2 p_30.1 h
              · have h := h.neg c_29
                refine J_ldc (v := -1000009) C ci_RL_192 dL_acts_206 rfl ?_
                refine J_goto (t := 219) C dL_acts_208 (by decide) ?_
                refine J.widen (k' := 2) (sl' := 12) (Nat.le_of_ble_eq_true rfl) (Nat.le_of_ble_eq_true rfl) ?_
                refine J.sub [] rfl ?_
                exact hj_219 p_28.2 (-1000009 : Int32) h
        · have h := h.pos (Decidable.not_not.mp c_23)
          refine J_aload_n (i := 0) (p := 0) C dL_acts_143 rfl rfl rfl ?_
          refine J_iconst (v := 3) C (by decide) dL_acts_144 rfl ?_
          refine J_iload (i := 8) (p := 6) C dL_acts_145 rfl rfl ?_
          refine J_iload (i := 4) (p := 3) C dL_acts_147 rfl rfl ?_
          refine J_iload (i := 8) (p := 6) C dL_acts_149 rfl rfl ?_
          refine J_aload_n (i := 1) (p := 1) C dL_acts_151 rfl rfl rfl ?_
          refine Jl_cS (rest := [.int l8_89, .int l4_89, .int l8_89, .int (3 : Int32), .ref (K.2.2 + 47)]) (st9 := fun p_31 => [.int p_31.1, .int l8_89, .int l4_89, .int l8_89, .int (3 : Int32), .ref (K.2.2 + 47)]) C hR hX cs_RL_8 (kL_next hl  (Ok.ofbnd h)) rfl rfl (Nat.le_of_ble_eq_true rfl) (Nat.le_of_ble_eq_true rfl) (Nat.le_of_ble_eq_true rfl) ⟨(Nat.le_of_ble_eq_true rfl), (Nat.le_of_ble_eq_true rfl)⟩ dL_acts_152 rfl (fun _ => rfl) (fun p_31 h => ?_)
          have h : Ok _ _ := h
          change J X K 10 False QQ 0 0 2064 (jl K p_31.2) 155 [(0, .ref (K.2.2 + 47)), (1, .ref (K.2.2 + 0)), (3, .int l3_89), (4, .int l4_89), (6, .int l6_89), (7, .int l7_89), (8, .int l8_89)] [.int p_31.1, .int l8_89, .int l4_89, .int l8_89, .int (3 : Int32), .ref (K.2.2 + 47)]
          refine J_bipush (v := 9) C (by decide) dL_acts_155 rfl ?_
          refine J_irem C (by decide) dL_acts_157 rfl ?_
          refine J_iadd C dL_acts_158 rfl ?_
          refine J_mmin C hR mm_RL_169 (Nat.le_of_ble_eq_true rfl) (Nat.le_of_ble_eq_true rfl) (Nat.le_of_ble_eq_true rfl) (Nat.le_of_ble_eq_true rfl) dL_acts_159 rfl ?_
          refine J_iconst (v := 0) C (by decide) dL_acts_162 rfl ?_
          refine Jl_cH (rest := []) (st9 := fun p_32 => [.int p_32.1]) C hR hX ch_RL_174 (kL_done hl  (Ok.ofbnd h)) rfl rfl (Nat.le_of_ble_eq_true rfl) (Nat.le_of_ble_eq_true rfl) (Nat.le_of_ble_eq_true rfl) ⟨(Nat.le_of_ble_eq_true rfl), (Nat.le_of_ble_eq_true rfl)⟩ dL_acts_163 rfl (fun _ => rfl) (fun p_32 h => ?_)
          have h : Ok _ _ := h
          change J X K 10 False QQ 1 6 2064 (jl K p_32.2) 166 [(0, .ref (K.2.2 + 47)), (1, .ref (K.2.2 + 0)), (3, .int l3_89), (4, .int l4_89), (6, .int l6_89), (7, .int l7_89), (8, .int l8_89)] [.int p_32.1]
          rw [← hQQ]
          exact J_iret C hret (Nat.le_of_ble_eq_true rfl) (Nat.le_of_ble_eq_true rfl) ⟨_, h.osome, rfl, rfl, rfl⟩ dL_acts_166
      · have h := h.pos (Decidable.not_not.mp c_22)
        refine J_aload_n (i := 0) (p := 0) C dL_acts_115 rfl rfl rfl ?_
        refine J_iconst (v := 2) C (by decide) dL_acts_116 rfl ?_
        refine J_iload (i := 8) (p := 6) C dL_acts_117 rfl rfl ?_
        refine J_iload (i := 4) (p := 3) C dL_acts_119 rfl rfl ?_
        refine J_iload (i := 8) (p := 6) C dL_acts_121 rfl rfl ?_
        refine J_aload_n (i := 1) (p := 1) C dL_acts_123 rfl rfl rfl ?_
        refine Jl_cS (rest := [.int l8_89, .int l4_89, .int l8_89, .int (2 : Int32), .ref (K.2.2 + 47)]) (st9 := fun p_33 => [.int p_33.1, .int l8_89, .int l4_89, .int l8_89, .int (2 : Int32), .ref (K.2.2 + 47)]) C hR hX cs_RL_8 (kL_next hl  (Ok.ofbnd h)) rfl rfl (Nat.le_of_ble_eq_true rfl) (Nat.le_of_ble_eq_true rfl) (Nat.le_of_ble_eq_true rfl) ⟨(Nat.le_of_ble_eq_true rfl), (Nat.le_of_ble_eq_true rfl)⟩ dL_acts_124 rfl (fun _ => rfl) (fun p_33 h => ?_)
        have h : Ok _ _ := h
        change J X K 10 False QQ 0 0 2064 (jl K p_33.2) 127 [(0, .ref (K.2.2 + 47)), (1, .ref (K.2.2 + 0)), (3, .int l3_89), (4, .int l4_89), (6, .int l6_89), (7, .int l7_89), (8, .int l8_89)] [.int p_33.1, .int l8_89, .int l4_89, .int l8_89, .int (2 : Int32), .ref (K.2.2 + 47)]
        refine J_iconst (v := 5) C (by decide) dL_acts_127 rfl ?_
        refine J_irem C (by decide) dL_acts_128 rfl ?_
        refine J_iadd C dL_acts_129 rfl ?_
        refine J_mmin C hR mm_RL_169 (Nat.le_of_ble_eq_true rfl) (Nat.le_of_ble_eq_true rfl) (Nat.le_of_ble_eq_true rfl) (Nat.le_of_ble_eq_true rfl) dL_acts_130 rfl ?_
        refine J_iconst (v := 0) C (by decide) dL_acts_133 rfl ?_
        refine Jl_cH (rest := []) (st9 := fun p_34 => [.int p_34.1]) C hR hX ch_RL_174 (kL_done hl  (Ok.ofbnd h)) rfl rfl (Nat.le_of_ble_eq_true rfl) (Nat.le_of_ble_eq_true rfl) (Nat.le_of_ble_eq_true rfl) ⟨(Nat.le_of_ble_eq_true rfl), (Nat.le_of_ble_eq_true rfl)⟩ dL_acts_134 rfl (fun _ => rfl) (fun p_34 h => ?_)
        have h : Ok _ _ := h
        change J X K 10 False QQ 1 6 2064 (jl K p_34.2) 137 [(0, .ref (K.2.2 + 47)), (1, .ref (K.2.2 + 0)), (3, .int l3_89), (4, .int l4_89), (6, .int l6_89), (7, .int l7_89), (8, .int l8_89)] [.int p_34.1]
        rw [← hQQ]
        exact J_iret C hret (Nat.le_of_ble_eq_true rfl) (Nat.le_of_ble_eq_true rfl) ⟨_, h.osome, rfl, rfl, rfl⟩ dL_acts_137
    · have h := h.pos (Decidable.not_not.mp c_21)
      refine J_aload_n (i := 0) (p := 0) C dL_acts_94 rfl rfl rfl ?_
      refine J_iconst (v := 1) C (by decide) dL_acts_95 rfl ?_
      refine J_aload_n (i := 1) (p := 1) C dL_acts_96 rfl rfl rfl ?_
      refine J_bipush (v := -6) C (by decide) dL_acts_97 rfl ?_
      refine J_bipush (v := 6) C (by decide) dL_acts_99 rfl ?_
      refine Jl_cS (rest := [.int (1 : Int32), .ref (K.2.2 + 47)]) (st9 := fun p_35 => [.int p_35.1, .int (1 : Int32), .ref (K.2.2 + 47)]) C hR hX cs_RL_137 (kL_from hl  (Ok.ofbnd h)) rfl rfl (Nat.le_of_ble_eq_true rfl) (Nat.le_of_ble_eq_true rfl) (Nat.le_of_ble_eq_true rfl) ⟨(Nat.le_of_ble_eq_true rfl), (Nat.le_of_ble_eq_true rfl)⟩ dL_acts_101 rfl (fun _ => rfl) (fun p_35 h => ?_)
      have h : Ok _ _ := h
      change J X K 10 False QQ 0 0 2064 (jl K p_35.2) 104 [(0, .ref (K.2.2 + 47)), (1, .ref (K.2.2 + 0)), (3, .int l3_89), (4, .int l4_89), (6, .int l6_89), (7, .int l7_89), (8, .int l8_89)] [.int p_35.1, .int (1 : Int32), .ref (K.2.2 + 47)]
      refine J_iconst (v := 0) C (by decide) dL_acts_104 rfl ?_
      refine J_iconst (v := 0) C (by decide) dL_acts_105 rfl ?_
      refine Jl_cH (rest := []) (st9 := fun p_36 => [.int p_36.1]) C hR hX ch_RL_174 (kL_done hl  (Ok.ofbnd h)) rfl rfl (Nat.le_of_ble_eq_true rfl) (Nat.le_of_ble_eq_true rfl) (Nat.le_of_ble_eq_true rfl) ⟨(Nat.le_of_ble_eq_true rfl), (Nat.le_of_ble_eq_true rfl)⟩ dL_acts_106 rfl (fun _ => rfl) (fun p_36 h => ?_)
      have h : Ok _ _ := h
      change J X K 10 False QQ 1 6 2064 (jl K p_36.2) 109 [(0, .ref (K.2.2 + 47)), (1, .ref (K.2.2 + 0)), (3, .int l3_89), (4, .int l4_89), (6, .int l6_89), (7, .int l7_89), (8, .int l8_89)] [.int p_36.1]
      rw [← hQQ]
      exact J_iret C hret (Nat.le_of_ble_eq_true rfl) (Nat.le_of_ble_eq_true rfl) ⟨_, h.osome, rfl, rfl, rfl⟩ dL_acts_109
  have hj_69 : (∀ (τ_69 : LawS) (l3_69 : Int32) (l4_69 : Int32) (l6_69 : Int32) (l7_69 : Int32) (l8_69 : Int32), Ok (fL_acts_j69 τ_69 l3_69 l4_69 l6_69 l7_69 l8_69) Qf → J X K 10 False QQ 0 0 2064 (jl K τ_69) 69 [(0, .ref (K.2.2 + 47)), (1, .ref (K.2.2 + 0)), (2, .ref (K.2.2 + 43)), (3, .int l3_69), (4, .int l4_69), (6, .int l6_69), (7, .int l7_69), (8, .int l8_69)] []) := by
    intro τ_69 l3_69 l4_69 l6_69 l7_69 l8_69 h
    unfold fL_acts_j69 at h
    refine J_aload_n (i := 1) (p := 1) C dL_acts_69 rfl rfl rfl ?_
    refine J_aload_n (i := 2) (p := 2) C dL_acts_70 rfl rfl rfl ?_
    refine Jl_cS (rest := []) (st9 := fun p_37 => [.int p_37.1]) C hR hX cs_RL_161 (kL_draws hl  (Ok.ofbnd h)) rfl rfl (Nat.le_of_ble_eq_true rfl) (Nat.le_of_ble_eq_true rfl) (Nat.le_of_ble_eq_true rfl) ⟨(Nat.le_of_ble_eq_true rfl), (Nat.le_of_ble_eq_true rfl)⟩ dL_acts_71 rfl (fun _ => rfl) (fun p_37 h => ?_)
    have h : Ok _ _ := h
    change J X K 10 False QQ 0 0 2064 (jl K p_37.2) 74 [(0, .ref (K.2.2 + 47)), (1, .ref (K.2.2 + 0)), (2, .ref (K.2.2 + 43)), (3, .int l3_69), (4, .int l4_69), (6, .int l6_69), (7, .int l7_69), (8, .int l8_69)] [.int p_37.1]
    obtain ⟨x9_1, e_x9_1, h⟩ := Ok.nm h
    refine J_istoreE (i := 9) (lv' := [(9, .int x9_1), (0, .ref (K.2.2 + 47)), (1, .ref (K.2.2 + 0)), (2, .ref (K.2.2 + 43)), (3, .int l3_69), (4, .int l4_69), (6, .int l6_69), (7, .int l7_69), (8, .int l8_69)]) C e_x9_1 dL_acts_74 (Nat.le_of_ble_eq_true rfl) rfl rfl ?_
    refine J_aload_n (i := 0) (p := 1) C dL_acts_76 rfl rfl rfl ?_
    refine J_aload_n (i := 2) (p := 3) C dL_acts_77 rfl rfl rfl ?_
    refine J_iload (i := 9) (p := 0) C dL_acts_78 rfl rfl ?_
    refine Jl_cS (rest := []) (st9 := fun p_38 => [.int p_38.1]) C hR hX cs_RL_165 (kL_feeds hl rfl (Ok.ofbnd h)) rfl rfl (Nat.le_of_ble_eq_true rfl) (Nat.le_of_ble_eq_true rfl) (Nat.le_of_ble_eq_true rfl) ⟨(Nat.le_of_ble_eq_true rfl), (Nat.le_of_ble_eq_true rfl)⟩ dL_acts_80 rfl (fun _ => rfl) (fun p_38 h => ?_)
    have h : Ok _ _ := h
    change J X K 10 False QQ 0 0 2064 (jl K p_38.2) 83 [(9, .int x9_1), (0, .ref (K.2.2 + 47)), (1, .ref (K.2.2 + 0)), (2, .ref (K.2.2 + 43)), (3, .int l3_69), (4, .int l4_69), (6, .int l6_69), (7, .int l7_69), (8, .int l8_69)] [.int p_38.1]
    refine J_if_ne (t := 89) C dL_acts_83 (by decide) rfl (fun c_39 => ?_) (fun c_39 => ?_)
    · have h := h.neg c_39
      refine J.sub [1, 2, 4, 5, 6, 7, 8] rfl ?_
      exact hj_89 p_38.2 l3_69 l4_69 l6_69 l7_69 l8_69 h
    · have h := h.pos (Decidable.not_not.mp c_39)
      refine J_ldc (v := -1000009) C ci_RL_192 dL_acts_86 rfl ?_
      rw [← hQQ]
      exact J_iret C hret (Nat.le_of_ble_eq_true rfl) (Nat.le_of_ble_eq_true rfl) ⟨_, h.osome, rfl, rfl, rfl⟩ dL_acts_88
  unfold fL_acts at h
  refine J_aload_n (i := 1) (p := 1) C dL_acts_0 rfl rfl rfl ?_
  refine Jl_cS (rest := []) (st9 := fun p_40 => [.int p_40.1]) C hR hX cs_RL_8 (kL_next hl  (Ok.ofbnd h)) rfl rfl (Nat.le_of_ble_eq_true rfl) (Nat.le_of_ble_eq_true rfl) (Nat.le_of_ble_eq_true rfl) ⟨(Nat.le_of_ble_eq_true rfl), (Nat.le_of_ble_eq_true rfl)⟩ dL_acts_1 rfl (fun _ => rfl) (fun p_40 h => ?_)
  have h : Ok _ _ := h
  change J X K 10 False QQ 0 0 2064 (jl K p_40.2) 4 [(0, .ref (K.2.2 + 47)), (1, .ref (K.2.2 + 0)), (2, .ref (K.2.2 + 43))] [.int p_40.1]
  refine J_bipush (v := 9) C (by decide) dL_acts_4 rfl ?_
  refine J_irem C (by decide) dL_acts_6 rfl ?_
  obtain ⟨x3_2, e_x3_2, h⟩ := Ok.nm h
  refine J_istoreE_n (i := 3) (lv' := [(3, .int x3_2), (0, .ref (K.2.2 + 47)), (1, .ref (K.2.2 + 0)), (2, .ref (K.2.2 + 43))]) C e_x3_2 dL_acts_7 rfl (Nat.le_of_ble_eq_true rfl) rfl rfl ?_
  refine J_aload_n (i := 0) (p := 1) C dL_acts_8 rfl rfl rfl ?_
  refine J_iconst (v := 0) C (by decide) dL_acts_9 rfl ?_
  refine Jl_cV (rest := []) (st9 := fun p_41 => [.int p_41.1]) (wd := fun p_41 => p_41.2) C hR hX cv_RL_134 (k11_count_n hl (Ok.ofnox h) (fun c hc => hc)) rfl rfl (Nat.le_of_ble_eq_true rfl) (Nat.le_of_ble_eq_true rfl) (Nat.le_of_ble_eq_true rfl) ⟨(Nat.le_of_ble_eq_true rfl), (Nat.le_of_ble_eq_true rfl)⟩ dL_acts_10 rfl (fun E n9 w9 hx => hx.elim) (fun _ => rfl) (fun p_41 h => ?_)
  have h : Ok _ _ := h
  change J X K 10 False QQ 0 0 2064 (jl K (p_40.2.1, p_41.2)) 13 [(3, .int x3_2), (0, .ref (K.2.2 + 47)), (1, .ref (K.2.2 + 0)), (2, .ref (K.2.2 + 43))] [.int p_41.1]
  obtain ⟨x4_3, e_x4_3, h⟩ := Ok.nm h
  refine J_istoreE (i := 4) (lv' := [(4, .int x4_3), (3, .int x3_2), (0, .ref (K.2.2 + 47)), (1, .ref (K.2.2 + 0)), (2, .ref (K.2.2 + 43))]) C e_x4_3 dL_acts_13 (Nat.le_of_ble_eq_true rfl) rfl rfl ?_
  refine J_aload_n (i := 0) (p := 2) C dL_acts_15 rfl rfl rfl ?_
  refine J_iconst (v := 1) C (by decide) dL_acts_16 rfl ?_
  refine Jl_cV (rest := []) (st9 := fun p_42 => [.int p_42.1]) (wd := fun p_42 => p_42.2) C hR hX cv_RL_134 (k11_count_n hl (Ok.ofnox h) (fun c hc => hc)) rfl rfl (Nat.le_of_ble_eq_true rfl) (Nat.le_of_ble_eq_true rfl) (Nat.le_of_ble_eq_true rfl) ⟨(Nat.le_of_ble_eq_true rfl), (Nat.le_of_ble_eq_true rfl)⟩ dL_acts_17 rfl (fun E n9 w9 hx => hx.elim) (fun _ => rfl) (fun p_42 h => ?_)
  have h : Ok _ _ := h
  change J X K 10 False QQ 0 0 2064 (jl K (p_40.2.1, p_42.2)) 20 [(4, .int x4_3), (3, .int x3_2), (0, .ref (K.2.2 + 47)), (1, .ref (K.2.2 + 0)), (2, .ref (K.2.2 + 43))] [.int p_42.1]
  obtain ⟨x5_4, e_x5_4, h⟩ := Ok.nm h
  refine J_istoreE (i := 5) (lv' := [(5, .int x5_4), (4, .int x4_3), (3, .int x3_2), (0, .ref (K.2.2 + 47)), (1, .ref (K.2.2 + 0)), (2, .ref (K.2.2 + 43))]) C e_x5_4 dL_acts_20 (Nat.le_of_ble_eq_true rfl) rfl rfl ?_
  refine J_aload_n (i := 1) (p := 4) C dL_acts_22 rfl rfl rfl ?_
  refine Jl_cS (rest := []) (st9 := fun p_43 => [.int p_43.1]) C hR hX cs_RL_8 (kL_next hl  (Ok.ofbnd h)) rfl rfl (Nat.le_of_ble_eq_true rfl) (Nat.le_of_ble_eq_true rfl) (Nat.le_of_ble_eq_true rfl) ⟨(Nat.le_of_ble_eq_true rfl), (Nat.le_of_ble_eq_true rfl)⟩ dL_acts_23 rfl (fun _ => rfl) (fun p_43 h => ?_)
  have h : Ok _ _ := h
  change J X K 10 False QQ 0 0 2064 (jl K p_43.2) 26 [(5, .int x5_4), (4, .int x4_3), (3, .int x3_2), (0, .ref (K.2.2 + 47)), (1, .ref (K.2.2 + 0)), (2, .ref (K.2.2 + 43))] [.int p_43.1]
  refine J_iload (i := 5) (p := 0) C dL_acts_26 rfl rfl ?_
  obtain ⟨g_44, h⟩ := Ok.ofgd h
  refine J_irem C (nz_spec g_44) dL_acts_28 rfl ?_
  obtain ⟨x6_5, e_x6_5, h⟩ := Ok.nm h
  refine J_istoreE (i := 6) (lv' := [(6, .int x6_5), (5, .int x5_4), (4, .int x4_3), (3, .int x3_2), (0, .ref (K.2.2 + 47)), (1, .ref (K.2.2 + 0)), (2, .ref (K.2.2 + 43))]) C e_x6_5 dL_acts_29 (Nat.le_of_ble_eq_true rfl) rfl rfl ?_
  refine J_iload (i := 5) (p := 1) C dL_acts_31 rfl rfl ?_
  refine J_iconst (v := 1) C (by decide) dL_acts_33 rfl ?_
  refine J_isub C dL_acts_34 rfl ?_
  refine J_iload (i := 6) (p := 0) C dL_acts_35 rfl rfl ?_
  refine J_aload_n (i := 1) (p := 5) C dL_acts_37 rfl rfl rfl ?_
  refine Jl_cS (rest := [.int x6_5, .int (x5_4 - (1 : Int32))]) (st9 := fun p_45 => [.int p_45.1, .int x6_5, .int (x5_4 - (1 : Int32))]) C hR hX cs_RL_8 (kL_next hl  (Ok.ofbnd h)) rfl rfl (Nat.le_of_ble_eq_true rfl) (Nat.le_of_ble_eq_true rfl) (Nat.le_of_ble_eq_true rfl) ⟨(Nat.le_of_ble_eq_true rfl), (Nat.le_of_ble_eq_true rfl)⟩ dL_acts_38 rfl (fun _ => rfl) (fun p_45 h => ?_)
  have h : Ok _ _ := h
  change J X K 10 False QQ 0 0 2064 (jl K p_45.2) 41 [(6, .int x6_5), (5, .int x5_4), (4, .int x4_3), (3, .int x3_2), (0, .ref (K.2.2 + 47)), (1, .ref (K.2.2 + 0)), (2, .ref (K.2.2 + 43))] [.int p_45.1, .int x6_5, .int (x5_4 - (1 : Int32))]
  refine J_iconst (v := 4) C (by decide) dL_acts_41 rfl ?_
  refine J_irem C (by decide) dL_acts_42 rfl ?_
  refine J_iadd C dL_acts_43 rfl ?_
  refine J_mmin C hR mm_RL_169 (Nat.le_of_ble_eq_true rfl) (Nat.le_of_ble_eq_true rfl) (Nat.le_of_ble_eq_true rfl) (Nat.le_of_ble_eq_true rfl) dL_acts_44 rfl ?_
  obtain ⟨x7_6, e_x7_6, h⟩ := Ok.nm h
  refine J_istoreE (i := 7) (lv' := [(7, .int x7_6), (6, .int x6_5), (5, .int x5_4), (4, .int x4_3), (3, .int x3_2), (0, .ref (K.2.2 + 47)), (1, .ref (K.2.2 + 0)), (2, .ref (K.2.2 + 43))]) C e_x7_6 dL_acts_47 (Nat.le_of_ble_eq_true rfl) rfl rfl ?_
  refine J_aload_n (i := 1) (p := 6) C dL_acts_49 rfl rfl rfl ?_
  refine Jl_cS (rest := []) (st9 := fun p_46 => [.int p_46.1]) C hR hX cs_RL_8 (kL_next hl  (Ok.ofbnd h)) rfl rfl (Nat.le_of_ble_eq_true rfl) (Nat.le_of_ble_eq_true rfl) (Nat.le_of_ble_eq_true rfl) ⟨(Nat.le_of_ble_eq_true rfl), (Nat.le_of_ble_eq_true rfl)⟩ dL_acts_50 rfl (fun _ => rfl) (fun p_46 h => ?_)
  have h : Ok _ _ := h
  change J X K 10 False QQ 0 0 2064 (jl K p_46.2) 53 [(7, .int x7_6), (6, .int x6_5), (5, .int x5_4), (4, .int x4_3), (3, .int x3_2), (0, .ref (K.2.2 + 47)), (1, .ref (K.2.2 + 0)), (2, .ref (K.2.2 + 43))] [.int p_46.1]
  refine J_iload (i := 4) (p := 3) C dL_acts_53 rfl rfl ?_
  refine J_iconst (v := 1) C (by decide) dL_acts_55 rfl ?_
  refine J_iadd C dL_acts_56 rfl ?_
  obtain ⟨g_47, h⟩ := Ok.ofgd h
  refine J_irem C (nz_spec g_47) dL_acts_57 rfl ?_
  obtain ⟨x8_7, e_x8_7, h⟩ := Ok.nm h
  refine J_istoreE (i := 8) (lv' := [(8, .int x8_7), (7, .int x7_6), (6, .int x6_5), (5, .int x5_4), (4, .int x4_3), (3, .int x3_2), (0, .ref (K.2.2 + 47)), (1, .ref (K.2.2 + 0)), (2, .ref (K.2.2 + 43))]) C e_x8_7 dL_acts_58 (Nat.le_of_ble_eq_true rfl) rfl rfl ?_
  refine J_iload_n (i := 3) (p := 5) C dL_acts_60 rfl rfl rfl ?_
  refine J_if_eq (t := 69) C dL_acts_61 (by decide) rfl (fun c_48 => ?_) (fun c_48 => ?_)
  · have h := h.pos c_48
    refine J.sub [6, 7, 8, 5, 4, 2, 1, 0] rfl ?_
    exact hj_69 p_46.2 x3_2 x4_3 x6_5 x7_6 x8_7 h
  · have h := h.neg c_48
    refine J_iload_n (i := 3) (p := 5) C dL_acts_64 rfl rfl rfl ?_
    refine J_iconst (v := 2) C (by decide) dL_acts_65 rfl ?_
    refine J_icmp_ne (t := 89) C dL_acts_66 (by decide) rfl (fun c_49 => ?_) (fun c_49 => ?_)
    · have h := h.neg c_49
      refine J.sub [6, 7, 5, 4, 2, 1, 0] rfl ?_
      exact hj_89 p_46.2 x3_2 x4_3 x6_5 x7_6 x8_7 h
    · have h := h.pos (Decidable.not_not.mp c_49)
      refine J.sub [6, 7, 8, 5, 4, 2, 1, 0] rfl ?_
      exact hj_69 p_46.2 x3_2 x4_3 x6_5 x7_6 x8_7 h
def fL_moves_j461 (τ_461 : LawS) (s0_461 : Int32) : Option (Int32 × LawS) :=
  gd (isB s0_461) <|
  some (s0_461, τ_461)
def fL_moves_j460 (τ_460 : LawS) : Option (Int32 × LawS) :=
  fL_moves_j461 τ_460 (0 : Int32)
def fL_moves_j429 (τ_429 : LawS) (l7_429 : Int32) (l9_429 : Int32) (l10_429 : Int32) (l11_429 : Int32) (s0_429 : Int32) : Option (Int32 × LawS) :=
  if s0_429 = l10_429 then
    bnd (nox (f11_count τ_429.2 (4 : Int32))) fun p_3 =>
    if p_3.1 = (l9_429 - l11_429) then
      bnd (nox (f11_isHidden p_3.2 l7_429)) fun p_5 =>
      if p_5.1 = 0 then
        fL_moves_j461 (τ_429.1, p_5.2) (1 : Int32)
      else
        fL_moves_j460 (τ_429.1, p_5.2)
    else
      fL_moves_j460 (τ_429.1, p_3.2)
  else
    fL_moves_j460 τ_429
def fL_moves_j393 (τ_393 : LawS) (s0_393 : Int32) : Option (Int32 × LawS) :=
  gd (isB s0_393) <|
  some (s0_393, τ_393)
def fL_moves_j392 (τ_392 : LawS) : Option (Int32 × LawS) :=
  fL_moves_j393 τ_392 (0 : Int32)
def fL_moves_j276 (τ_276 : LawS) (s0_276 : Int32) : Option (Int32 × LawS) :=
  gd (isB s0_276) <|
  some (s0_276, τ_276)
def fL_moves_j275 (τ_275 : LawS) : Option (Int32 × LawS) :=
  fL_moves_j276 τ_275 (0 : Int32)
def fL_moves_j224 (τ_224 : LawS) (l6_224 : Int32) (l7_224 : Int32) (s0_224 : Int32) : Option (Int32 × LawS) :=
  stp s0_224 fun x8_1 =>
  bnd (nox (f11_markAt τ_224.2 l7_224)) fun p_9 =>
  stp p_9.1 fun x9_2 =>
  gd (inb l7_224 16) <|
  stp (uT (τ_224.1, p_9.2) 45 (Int32.toNatClampNeg l7_224) (vp_nar .boolean x8_1)) fun τx_3 =>
  bnd (fL_one x8_1) fun p_11 =>
  bnd (fL_done τx_3 (17 : Int32) l7_224 l6_224 p_11) fun p_12 =>
  if p_12.1 = x9_2 then
    bnd (nox (f11_markAt p_12.2.2 l7_224)) fun p_14 =>
    if p_14.1 = l6_224 then
      fL_moves_j276 (p_12.2.1, p_14.2) (1 : Int32)
    else
      fL_moves_j275 (p_12.2.1, p_14.2)
  else
    fL_moves_j275 p_12.2
def fL_moves_j194 (τ_194 : LawS) (s0_194 : Int32) : Option (Int32 × LawS) :=
  gd (isB s0_194) <|
  some (s0_194, τ_194)
def fL_moves_j154 (τ_154 : LawS) (s0_154 : Int32) : Option (Int32 × LawS) :=
  gd (isB s0_154) <|
  some (s0_154, τ_154)
def fL_moves_j153 (τ_153 : LawS) : Option (Int32 × LawS) :=
  fL_moves_j154 τ_153 (0 : Int32)
def fL_moves_j75 (τ_75 : LawS) (s0_75 : Int32) : Option (Int32 × LawS) :=
  gd (isB s0_75) <|
  some (s0_75, τ_75)
def fL_moves_j74 (τ_74 : LawS) : Option (Int32 × LawS) :=
  fL_moves_j75 τ_74 (0 : Int32)
def fL_moves (τ : LawS) : Option (Int32 × LawS) :=
  bnd (nox (f11_count τ.2 (0 : Int32))) fun p_19 =>
  stp p_19.1 fun x3_4 =>
  bnd (nox (f11_count p_19.2 (1 : Int32))) fun p_20 =>
  stp p_20.1 fun x4_5 =>
  bnd (fL_next (τ.1, p_20.2)) fun p_21 =>
  stp (p_21.1 - p_21.1 / (6 : Int32) * (6 : Int32)) fun x5_6 =>
  bnd (fL_next p_21.2) fun p_22 =>
  gd (nz (x3_4 + (1 : Int32))) <|
  stp (p_22.1 - p_22.1 / (x3_4 + (1 : Int32)) * (x3_4 + (1 : Int32))) fun x6_7 =>
  if x5_6 = 0 then
    bnd (fL_done p_22.2 (14 : Int32) x6_7 (0 : Int32) (0 : Int32)) fun p_63 =>
    if p_63.1 < (1 : Int32) then
      fL_moves_j74 p_63.2
    else
      bnd (nox (f11_count p_63.2.2 (2 : Int32))) fun p_65 =>
      if p_65.1 = (1 : Int32) then
        bnd (nox (f11_cursorAt p_65.2 (0 : Int32))) fun p_67 =>
        if p_67.1 = x6_7 then
          fL_moves_j75 (p_63.2.1, p_67.2) (1 : Int32)
        else
          fL_moves_j74 (p_63.2.1, p_67.2)
      else
        fL_moves_j74 (p_63.2.1, p_65.2)
  else
    if x5_6 = (1 : Int32) then
      bnd (nox (f11_count p_22.2.2 (2 : Int32))) fun p_55 =>
      stp p_55.1 fun x7_15 =>
      bnd (fL_done (p_22.2.1, p_55.2) (15 : Int32) x6_7 (0 : Int32) (0 : Int32)) fun p_56 =>
      stp p_56.1 fun x8_16 =>
      if x8_16 = (-1000003 : Int32) then
        if x7_15 = (8 : Int32) then
          fL_moves_j154 p_56.2 (1 : Int32)
        else
          fL_moves_j154 p_56.2 (0 : Int32)
      else
        bnd (nox (f11_count p_56.2.2 (2 : Int32))) fun p_58 =>
        if x8_16 = p_58.1 then
          if x8_16 < x7_15 then
            fL_moves_j153 (p_56.2.1, p_58.2)
          else
            if (x7_15 + (1 : Int32)) < x8_16 then
              fL_moves_j153 (p_56.2.1, p_58.2)
            else
              fL_moves_j154 (p_56.2.1, p_58.2) (1 : Int32)
        else
          fL_moves_j153 (p_56.2.1, p_58.2)
    else
      if x5_6 = (2 : Int32) then
        bnd (fL_next p_22.2) fun p_50 =>
        bnd (fL_from p_50.2 (-4 : Int32) (4 : Int32)) fun p_51 =>
        bnd (fL_done p_51.2 (16 : Int32) (p_50.1 - p_50.1 / (5 : Int32) * (5 : Int32)) p_51.1 (0 : Int32)) fun p_52 =>
        bnd (nox (f11_count p_52.2.2 (2 : Int32))) fun p_53 =>
        if p_52.1 = p_53.1 then
          fL_moves_j194 (p_52.2.1, p_53.2) (1 : Int32)
        else
          fL_moves_j194 (p_52.2.1, p_53.2) (0 : Int32)
      else
        if x5_6 = (3 : Int32) then
          bnd (fL_next p_22.2) fun p_47 =>
          stp (p_47.1 - p_47.1 / (16 : Int32) * (16 : Int32)) fun x7_14 =>
          bnd (fL_next p_47.2) fun p_48 =>
          if (p_48.1 - p_48.1 / (2 : Int32) * (2 : Int32)) = 0 then
            fL_moves_j224 p_48.2 x6_7 x7_14 (1 : Int32)
          else
            fL_moves_j224 p_48.2 x6_7 x7_14 (0 : Int32)
        else
          bnd (fL_next p_22.2) fun p_28 =>
          gd (nz x4_5) <|
          stp (p_28.1 - p_28.1 / x4_5 * x4_5) fun x7_8 =>
          bnd (fL_next p_28.2) fun p_30 =>
          gd (nz x4_5) <|
          stp (p_30.1 - p_30.1 / x4_5 * x4_5) fun x8_9 =>
          bnd (nox (f11_count p_30.2.2 (4 : Int32))) fun p_32 =>
          stp p_32.1 fun x9_10 =>
          if x5_6 = (4 : Int32) then
            bnd (fL_done (p_30.2.1, p_32.2) (19 : Int32) x7_8 x8_9 (0 : Int32)) fun p_38 =>
            stp p_38.1 fun x10_13 =>
            if x7_8 < x8_9 then
              if x10_13 = (-1000003 : Int32) then
                bnd (nox (f11_count p_38.2.2 (4 : Int32))) fun p_44 =>
                if p_44.1 = x9_10 then
                  fL_moves_j393 (p_38.2.1, p_44.2) (1 : Int32)
                else
                  fL_moves_j393 (p_38.2.1, p_44.2) (0 : Int32)
              else
                bnd (nox (f11_count p_38.2.2 (4 : Int32))) fun p_41 =>
                if x10_13 = p_41.1 then
                  if x10_13 < (x8_9 - x7_8) then
                    fL_moves_j392 (p_38.2.1, p_41.2)
                  else
                    fL_moves_j393 (p_38.2.1, p_41.2) (1 : Int32)
                else
                  fL_moves_j392 (p_38.2.1, p_41.2)
            else
              if x10_13 = (-1000002 : Int32) then
                fL_moves_j393 p_38.2 (1 : Int32)
              else
                fL_moves_j393 p_38.2 (0 : Int32)
          else
            bnd (nox (f11_isHidden p_32.2 x7_8)) fun p_34 =>
            stp p_34.1 fun x10_11 =>
            bnd (fL_done (p_30.2.1, p_34.2) (20 : Int32) x7_8 (0 : Int32) (0 : Int32)) fun p_35 =>
            stp p_35.1 fun x11_12 =>
            if x11_12 < 0 then
              fL_moves_j460 p_35.2
            else
              if x11_12 ≤ 0 then
                fL_moves_j429 p_35.2 x7_8 x9_10 x10_11 x11_12 (0 : Int32)
              else
                fL_moves_j429 p_35.2 x7_8 x9_10 x10_11 x11_12 (1 : Int32)
set_option maxHeartbeats 4000000 in
set_option maxRecDepth 100000 in
theorem kL_moves {l : Launch} {K : JK} (hl : l.stackTraces = false) {τ : LawS}   {Qf : Int32 × LawS → Prop} (h : Ok (fL_moves τ) Qf) : Con l K yL_moves (.code yL_moves cL_moves 12 (some .boolean) :: TB) 10 1 6 False [.ref (K.2.2 + 47), .ref (K.2.2 + 0), .ref (K.2.2 + 45)] 2064 (jl K τ) (PL Qf (fun p => some (.int p.1)) (fun p => jl K p.2)) PN := by
  refine Con.enter (own := RL) hl (by decide) rfl (Nat.le_of_ble_eq_true rfl) ?_
  intro X hX hR C hret hnt
  generalize hQQ : jQ X K 1 6 (PL Qf (fun p => some (.int p.1)) (fun p => jl K p.2)) PN False = QQ
  change J X K 12 False QQ 0 0 2064 (jl K τ) 0 [(0, .ref (K.2.2 + 47)), (1, .ref (K.2.2 + 0)), (2, .ref (K.2.2 + 45))] []
  have hj_461 : (∀ (τ_461 : LawS) (s0_461 : Int32), Ok (fL_moves_j461 τ_461 s0_461) Qf → J X K 12 False QQ 1 6 2064 (jl K τ_461) 461 [] [.int s0_461]) := by
    intro τ_461 s0_461 h
    unfold fL_moves_j461 at h
    obtain ⟨g_1, h⟩ := Ok.ofgd h
    rw [← hQQ]
    exact J_zret C hret (narB g_1).1 (Nat.le_of_ble_eq_true rfl) (Nat.le_of_ble_eq_true rfl) ⟨_, h.osome, rfl, rfl, rfl⟩ dL_moves_461
  have hj_460 : (∀ (τ_460 : LawS), Ok (fL_moves_j460 τ_460) Qf → J X K 12 False QQ 1 6 2064 (jl K τ_460) 460 [] []) := by
    intro τ_460 h
    unfold fL_moves_j460 at h
    refine J_iconst (v := 0) C (by decide) dL_moves_460 rfl ?_
    exact hj_461 τ_460 (0 : Int32) h
  have hj_429 : (∀ (τ_429 : LawS) (l7_429 : Int32) (l9_429 : Int32) (l10_429 : Int32) (l11_429 : Int32) (s0_429 : Int32), Ok (fL_moves_j429 τ_429 l7_429 l9_429 l10_429 l11_429 s0_429) Qf → J X K 12 False QQ 1 6 2064 (jl K τ_429) 429 [(0, .ref (K.2.2 + 47)), (7, .int l7_429), (9, .int l9_429), (10, .int l10_429), (11, .int l11_429)] [.int s0_429]) := by
    intro τ_429 l7_429 l9_429 l10_429 l11_429 s0_429 h
    unfold fL_moves_j429 at h
    refine J_iload (i := 10) (p := 3) C dL_moves_429 rfl rfl ?_
    refine J_icmp_ne (t := 460) C dL_moves_431 (by decide) rfl (fun c_2 => ?_) (fun c_2 => ?_)
    · have h := h.neg c_2
      refine J.sub [] rfl ?_
      exact hj_460 τ_429 h
    · have h := h.pos (Decidable.not_not.mp c_2)
      refine J_aload_n (i := 0) (p := 0) C dL_moves_434 rfl rfl rfl ?_
      refine J_iconst (v := 4) C (by decide) dL_moves_435 rfl ?_
      refine Jl_cV (rest := []) (st9 := fun p_3 => [.int p_3.1]) (wd := fun p_3 => p_3.2) C hR hX cv_RL_134 (k11_count_n hl (Ok.ofnox h) (fun c hc => hc)) rfl rfl (Nat.le_of_ble_eq_true rfl) (Nat.le_of_ble_eq_true rfl) (Nat.le_of_ble_eq_true rfl) ⟨(Nat.le_of_ble_eq_true rfl), (Nat.le_of_ble_eq_true rfl)⟩ dL_moves_436 rfl (fun E n9 w9 hx => hx.elim) (fun _ => rfl) (fun p_3 h => ?_)
      have h : Ok _ _ := h
      change J X K 12 False QQ 1 6 2064 (jl K (τ_429.1, p_3.2)) 439 [(0, .ref (K.2.2 + 47)), (7, .int l7_429), (9, .int l9_429), (10, .int l10_429), (11, .int l11_429)] [.int p_3.1]
      refine J_iload (i := 9) (p := 2) C dL_moves_439 rfl rfl ?_
      refine J_iload (i := 11) (p := 4) C dL_moves_441 rfl rfl ?_
      refine J_isub C dL_moves_443 rfl ?_
      refine J_icmp_ne (t := 460) C dL_moves_444 (by decide) rfl (fun c_4 => ?_) (fun c_4 => ?_)
      · have h := h.neg c_4
        refine J.sub [] rfl ?_
        exact hj_460 (τ_429.1, p_3.2) h
      · have h := h.pos (Decidable.not_not.mp c_4)
        refine J_aload_n (i := 0) (p := 0) C dL_moves_447 rfl rfl rfl ?_
        refine J_iload (i := 7) (p := 1) C dL_moves_448 rfl rfl ?_
        refine Jl_cV (rest := []) (st9 := fun p_5 => [.int p_5.1]) (wd := fun p_5 => p_5.2) C hR hX cv_RL_147 (k11_isHidden_n hl (Ok.ofnox h) (fun c hc => hc)) rfl rfl (Nat.le_of_ble_eq_true rfl) (Nat.le_of_ble_eq_true rfl) (Nat.le_of_ble_eq_true rfl) ⟨(Nat.le_of_ble_eq_true rfl), (Nat.le_of_ble_eq_true rfl)⟩ dL_moves_450 rfl (fun E n9 w9 hx => hx.elim) (fun _ => rfl) (fun p_5 h => ?_)
        have h : Ok _ _ := h
        change J X K 12 False QQ 1 6 2064 (jl K (τ_429.1, p_5.2)) 453 [(0, .ref (K.2.2 + 47)), (7, .int l7_429), (9, .int l9_429), (10, .int l10_429), (11, .int l11_429)] [.int p_5.1]
        refine J_if_ne (t := 460) C dL_moves_453 (by decide) rfl (fun c_6 => ?_) (fun c_6 => ?_)
        · have h := h.neg c_6
          refine J.sub [] rfl ?_
          exact hj_460 (τ_429.1, p_5.2) h
        · have h := h.pos (Decidable.not_not.mp c_6)
          refine J_iconst (v := 1) C (by decide) dL_moves_456 rfl ?_
          refine J_goto (t := 461) C dL_moves_457 (by decide) ?_
          refine J.sub [] rfl ?_
          exact hj_461 (τ_429.1, p_5.2) (1 : Int32) h
  have hj_393 : (∀ (τ_393 : LawS) (s0_393 : Int32), Ok (fL_moves_j393 τ_393 s0_393) Qf → J X K 12 False QQ 1 6 2064 (jl K τ_393) 393 [] [.int s0_393]) := by
    intro τ_393 s0_393 h
    unfold fL_moves_j393 at h
    obtain ⟨g_7, h⟩ := Ok.ofgd h
    rw [← hQQ]
    exact J_zret C hret (narB g_7).1 (Nat.le_of_ble_eq_true rfl) (Nat.le_of_ble_eq_true rfl) ⟨_, h.osome, rfl, rfl, rfl⟩ dL_moves_393
  have hj_392 : (∀ (τ_392 : LawS), Ok (fL_moves_j392 τ_392) Qf → J X K 12 False QQ 1 6 2064 (jl K τ_392) 392 [] []) := by
    intro τ_392 h
    unfold fL_moves_j392 at h
    refine J_iconst (v := 0) C (by decide) dL_moves_392 rfl ?_
    exact hj_393 τ_392 (0 : Int32) h
  have hj_276 : (∀ (τ_276 : LawS) (s0_276 : Int32), Ok (fL_moves_j276 τ_276 s0_276) Qf → J X K 12 False QQ 1 6 2064 (jl K τ_276) 276 [] [.int s0_276]) := by
    intro τ_276 s0_276 h
    unfold fL_moves_j276 at h
    obtain ⟨g_8, h⟩ := Ok.ofgd h
    rw [← hQQ]
    exact J_zret C hret (narB g_8).1 (Nat.le_of_ble_eq_true rfl) (Nat.le_of_ble_eq_true rfl) ⟨_, h.osome, rfl, rfl, rfl⟩ dL_moves_276
  have hj_275 : (∀ (τ_275 : LawS), Ok (fL_moves_j275 τ_275) Qf → J X K 12 False QQ 1 6 2064 (jl K τ_275) 275 [] []) := by
    intro τ_275 h
    unfold fL_moves_j275 at h
    refine J_iconst (v := 0) C (by decide) dL_moves_275 rfl ?_
    exact hj_276 τ_275 (0 : Int32) h
  have hj_224 : (∀ (τ_224 : LawS) (l6_224 : Int32) (l7_224 : Int32) (s0_224 : Int32), Ok (fL_moves_j224 τ_224 l6_224 l7_224 s0_224) Qf → J X K 12 False QQ 0 0 2064 (jl K τ_224) 224 [(0, .ref (K.2.2 + 47)), (2, .ref (K.2.2 + 45)), (6, .int l6_224), (7, .int l7_224)] [.int s0_224]) := by
    intro τ_224 l6_224 l7_224 s0_224 h
    unfold fL_moves_j224 at h
    obtain ⟨x8_1, e_x8_1, h⟩ := Ok.nm h
    refine J_istoreE (i := 8) (lv' := [(8, .int x8_1), (0, .ref (K.2.2 + 47)), (2, .ref (K.2.2 + 45)), (6, .int l6_224), (7, .int l7_224)]) C e_x8_1 dL_moves_224 (Nat.le_of_ble_eq_true rfl) rfl rfl ?_
    refine J_aload_n (i := 0) (p := 1) C dL_moves_226 rfl rfl rfl ?_
    refine J_iload (i := 7) (p := 4) C dL_moves_227 rfl rfl ?_
    refine Jl_cV (rest := []) (st9 := fun p_9 => [.int p_9.1]) (wd := fun p_9 => p_9.2) C hR hX cv_RL_144 (k11_markAt_n hl (Ok.ofnox h) (fun c hc => hc)) rfl rfl (Nat.le_of_ble_eq_true rfl) (Nat.le_of_ble_eq_true rfl) (Nat.le_of_ble_eq_true rfl) ⟨(Nat.le_of_ble_eq_true rfl), (Nat.le_of_ble_eq_true rfl)⟩ dL_moves_229 rfl (fun E n9 w9 hx => hx.elim) (fun _ => rfl) (fun p_9 h => ?_)
    have h : Ok _ _ := h
    change J X K 12 False QQ 0 0 2064 (jl K (τ_224.1, p_9.2)) 232 [(8, .int x8_1), (0, .ref (K.2.2 + 47)), (2, .ref (K.2.2 + 45)), (6, .int l6_224), (7, .int l7_224)] [.int p_9.1]
    obtain ⟨x9_2, e_x9_2, h⟩ := Ok.nm h
    refine J_istoreE (i := 9) (lv' := [(9, .int x9_2), (8, .int x8_1), (0, .ref (K.2.2 + 47)), (2, .ref (K.2.2 + 45)), (6, .int l6_224), (7, .int l7_224)]) C e_x9_2 dL_moves_232 (Nat.le_of_ble_eq_true rfl) rfl rfl ?_
    refine J_aload_n (i := 2) (p := 3) C dL_moves_234 rfl rfl rfl ?_
    refine J_iload (i := 7) (p := 5) C dL_moves_235 rfl rfl ?_
    refine J_iload (i := 8) (p := 1) C dL_moves_237 rfl rfl ?_
    obtain ⟨g_10, h⟩ := Ok.ofgd h
    obtain ⟨τx_3, e_τx_3, h⟩ := Ok.nm h
    refine Jl_zast C id rfl rfl g_10 e_τx_3 dL_moves_239 rfl ?_
    refine J_aload_n (i := 0) (p := 2) C dL_moves_240 rfl rfl rfl ?_
    refine J_bipush (v := 17) C (by decide) dL_moves_241 rfl ?_
    refine J_iload (i := 7) (p := 5) C dL_moves_243 rfl rfl ?_
    refine J_iload (i := 6) (p := 4) C dL_moves_245 rfl rfl ?_
    refine J_iload (i := 8) (p := 1) C dL_moves_247 rfl rfl ?_
    refine Jl_cS (rest := [.int l6_224, .int l7_224, .int (17 : Int32), .ref (K.2.2 + 47)]) (st9 := fun p_11 => [.int p_11, .int l6_224, .int l7_224, .int (17 : Int32), .ref (K.2.2 + 47)]) C hR hX cs_RL_63 (kL_one hl  (Ok.ofbnd h)) rfl rfl (Nat.le_of_ble_eq_true rfl) (Nat.le_of_ble_eq_true rfl) (Nat.le_of_ble_eq_true rfl) ⟨(Nat.le_of_ble_eq_true rfl), (Nat.le_of_ble_eq_true rfl)⟩ dL_moves_249 rfl (fun _ => rfl) (fun p_11 h => ?_)
    have h : Ok _ _ := h
    change J X K 12 False QQ 0 0 2064 (jl K τx_3) 252 [(9, .int x9_2), (8, .int x8_1), (0, .ref (K.2.2 + 47)), (2, .ref (K.2.2 + 45)), (6, .int l6_224), (7, .int l7_224)] [.int p_11, .int l6_224, .int l7_224, .int (17 : Int32), .ref (K.2.2 + 47)]
    refine Jl_cH (rest := []) (st9 := fun p_12 => [.int p_12.1]) C hR hX ch_RL_174 (kL_done hl  (Ok.ofbnd h)) rfl rfl (Nat.le_of_ble_eq_true rfl) (Nat.le_of_ble_eq_true rfl) (Nat.le_of_ble_eq_true rfl) ⟨(Nat.le_of_ble_eq_true rfl), (Nat.le_of_ble_eq_true rfl)⟩ dL_moves_252 rfl (fun _ => rfl) (fun p_12 h => ?_)
    have h : Ok _ _ := h
    change J X K 12 False QQ 1 6 2064 (jl K p_12.2) 255 [(9, .int x9_2), (8, .int x8_1), (0, .ref (K.2.2 + 47)), (2, .ref (K.2.2 + 45)), (6, .int l6_224), (7, .int l7_224)] [.int p_12.1]
    refine J_iload (i := 9) (p := 0) C dL_moves_255 rfl rfl ?_
    refine J_icmp_ne (t := 275) C dL_moves_257 (by decide) rfl (fun c_13 => ?_) (fun c_13 => ?_)
    · have h := h.neg c_13
      refine J.sub [] rfl ?_
      exact hj_275 p_12.2 h
    · have h := h.pos (Decidable.not_not.mp c_13)
      refine J_aload_n (i := 0) (p := 2) C dL_moves_260 rfl rfl rfl ?_
      refine J_iload (i := 7) (p := 5) C dL_moves_261 rfl rfl ?_
      refine Jl_cV (rest := []) (st9 := fun p_14 => [.int p_14.1]) (wd := fun p_14 => p_14.2) C hR hX cv_RL_144 (k11_markAt_n hl (Ok.ofnox h) (fun c hc => hc)) rfl rfl (Nat.le_of_ble_eq_true rfl) (Nat.le_of_ble_eq_true rfl) (Nat.le_of_ble_eq_true rfl) ⟨(Nat.le_of_ble_eq_true rfl), (Nat.le_of_ble_eq_true rfl)⟩ dL_moves_263 rfl (fun E n9 w9 hx => hx.elim) (fun _ => rfl) (fun p_14 h => ?_)
      have h : Ok _ _ := h
      change J X K 12 False QQ 1 6 2064 (jl K (p_12.2.1, p_14.2)) 266 [(9, .int x9_2), (8, .int x8_1), (0, .ref (K.2.2 + 47)), (2, .ref (K.2.2 + 45)), (6, .int l6_224), (7, .int l7_224)] [.int p_14.1]
      refine J_iload (i := 6) (p := 4) C dL_moves_266 rfl rfl ?_
      refine J_icmp_ne (t := 275) C dL_moves_268 (by decide) rfl (fun c_15 => ?_) (fun c_15 => ?_)
      · have h := h.neg c_15
        refine J.sub [] rfl ?_
        exact hj_275 (p_12.2.1, p_14.2) h
      · have h := h.pos (Decidable.not_not.mp c_15)
        refine J_iconst (v := 1) C (by decide) dL_moves_271 rfl ?_
        refine J_goto (t := 276) C dL_moves_272 (by decide) ?_
        refine J.sub [] rfl ?_
        exact hj_276 (p_12.2.1, p_14.2) (1 : Int32) h
  have hj_194 : (∀ (τ_194 : LawS) (s0_194 : Int32), Ok (fL_moves_j194 τ_194 s0_194) Qf → J X K 12 False QQ 1 6 2064 (jl K τ_194) 194 [] [.int s0_194]) := by
    intro τ_194 s0_194 h
    unfold fL_moves_j194 at h
    obtain ⟨g_16, h⟩ := Ok.ofgd h
    rw [← hQQ]
    exact J_zret C hret (narB g_16).1 (Nat.le_of_ble_eq_true rfl) (Nat.le_of_ble_eq_true rfl) ⟨_, h.osome, rfl, rfl, rfl⟩ dL_moves_194
  have hj_154 : (∀ (τ_154 : LawS) (s0_154 : Int32), Ok (fL_moves_j154 τ_154 s0_154) Qf → J X K 12 False QQ 1 6 2064 (jl K τ_154) 154 [] [.int s0_154]) := by
    intro τ_154 s0_154 h
    unfold fL_moves_j154 at h
    obtain ⟨g_17, h⟩ := Ok.ofgd h
    rw [← hQQ]
    exact J_zret C hret (narB g_17).1 (Nat.le_of_ble_eq_true rfl) (Nat.le_of_ble_eq_true rfl) ⟨_, h.osome, rfl, rfl, rfl⟩ dL_moves_154
  have hj_153 : (∀ (τ_153 : LawS), Ok (fL_moves_j153 τ_153) Qf → J X K 12 False QQ 1 6 2064 (jl K τ_153) 153 [] []) := by
    intro τ_153 h
    unfold fL_moves_j153 at h
    refine J_iconst (v := 0) C (by decide) dL_moves_153 rfl ?_
    exact hj_154 τ_153 (0 : Int32) h
  have hj_75 : (∀ (τ_75 : LawS) (s0_75 : Int32), Ok (fL_moves_j75 τ_75 s0_75) Qf → J X K 12 False QQ 1 6 2064 (jl K τ_75) 75 [] [.int s0_75]) := by
    intro τ_75 s0_75 h
    unfold fL_moves_j75 at h
    obtain ⟨g_18, h⟩ := Ok.ofgd h
    rw [← hQQ]
    exact J_zret C hret (narB g_18).1 (Nat.le_of_ble_eq_true rfl) (Nat.le_of_ble_eq_true rfl) ⟨_, h.osome, rfl, rfl, rfl⟩ dL_moves_75
  have hj_74 : (∀ (τ_74 : LawS), Ok (fL_moves_j74 τ_74) Qf → J X K 12 False QQ 1 6 2064 (jl K τ_74) 74 [] []) := by
    intro τ_74 h
    unfold fL_moves_j74 at h
    refine J_iconst (v := 0) C (by decide) dL_moves_74 rfl ?_
    exact hj_75 τ_74 (0 : Int32) h
  unfold fL_moves at h
  refine J_aload_n (i := 0) (p := 0) C dL_moves_0 rfl rfl rfl ?_
  refine J_iconst (v := 0) C (by decide) dL_moves_1 rfl ?_
  refine Jl_cV (rest := []) (st9 := fun p_19 => [.int p_19.1]) (wd := fun p_19 => p_19.2) C hR hX cv_RL_134 (k11_count_n hl (Ok.ofnox h) (fun c hc => hc)) rfl rfl (Nat.le_of_ble_eq_true rfl) (Nat.le_of_ble_eq_true rfl) (Nat.le_of_ble_eq_true rfl) ⟨(Nat.le_of_ble_eq_true rfl), (Nat.le_of_ble_eq_true rfl)⟩ dL_moves_2 rfl (fun E n9 w9 hx => hx.elim) (fun _ => rfl) (fun p_19 h => ?_)
  have h : Ok _ _ := h
  change J X K 12 False QQ 0 0 2064 (jl K (τ.1, p_19.2)) 5 [(0, .ref (K.2.2 + 47)), (1, .ref (K.2.2 + 0)), (2, .ref (K.2.2 + 45))] [.int p_19.1]
  obtain ⟨x3_4, e_x3_4, h⟩ := Ok.nm h
  refine J_istoreE_n (i := 3) (lv' := [(3, .int x3_4), (0, .ref (K.2.2 + 47)), (1, .ref (K.2.2 + 0)), (2, .ref (K.2.2 + 45))]) C e_x3_4 dL_moves_5 rfl (Nat.le_of_ble_eq_true rfl) rfl rfl ?_
  refine J_aload_n (i := 0) (p := 1) C dL_moves_6 rfl rfl rfl ?_
  refine J_iconst (v := 1) C (by decide) dL_moves_7 rfl ?_
  refine Jl_cV (rest := []) (st9 := fun p_20 => [.int p_20.1]) (wd := fun p_20 => p_20.2) C hR hX cv_RL_134 (k11_count_n hl (Ok.ofnox h) (fun c hc => hc)) rfl rfl (Nat.le_of_ble_eq_true rfl) (Nat.le_of_ble_eq_true rfl) (Nat.le_of_ble_eq_true rfl) ⟨(Nat.le_of_ble_eq_true rfl), (Nat.le_of_ble_eq_true rfl)⟩ dL_moves_8 rfl (fun E n9 w9 hx => hx.elim) (fun _ => rfl) (fun p_20 h => ?_)
  have h : Ok _ _ := h
  change J X K 12 False QQ 0 0 2064 (jl K (τ.1, p_20.2)) 11 [(3, .int x3_4), (0, .ref (K.2.2 + 47)), (1, .ref (K.2.2 + 0)), (2, .ref (K.2.2 + 45))] [.int p_20.1]
  obtain ⟨x4_5, e_x4_5, h⟩ := Ok.nm h
  refine J_istoreE (i := 4) (lv' := [(4, .int x4_5), (3, .int x3_4), (0, .ref (K.2.2 + 47)), (1, .ref (K.2.2 + 0)), (2, .ref (K.2.2 + 45))]) C e_x4_5 dL_moves_11 (Nat.le_of_ble_eq_true rfl) rfl rfl ?_
  refine J_aload_n (i := 1) (p := 3) C dL_moves_13 rfl rfl rfl ?_
  refine Jl_cS (rest := []) (st9 := fun p_21 => [.int p_21.1]) C hR hX cs_RL_8 (kL_next hl  (Ok.ofbnd h)) rfl rfl (Nat.le_of_ble_eq_true rfl) (Nat.le_of_ble_eq_true rfl) (Nat.le_of_ble_eq_true rfl) ⟨(Nat.le_of_ble_eq_true rfl), (Nat.le_of_ble_eq_true rfl)⟩ dL_moves_14 rfl (fun _ => rfl) (fun p_21 h => ?_)
  have h : Ok _ _ := h
  change J X K 12 False QQ 0 0 2064 (jl K p_21.2) 17 [(4, .int x4_5), (3, .int x3_4), (0, .ref (K.2.2 + 47)), (1, .ref (K.2.2 + 0)), (2, .ref (K.2.2 + 45))] [.int p_21.1]
  refine J_bipush (v := 6) C (by decide) dL_moves_17 rfl ?_
  refine J_irem C (by decide) dL_moves_19 rfl ?_
  obtain ⟨x5_6, e_x5_6, h⟩ := Ok.nm h
  refine J_istoreE (i := 5) (lv' := [(5, .int x5_6), (4, .int x4_5), (3, .int x3_4), (0, .ref (K.2.2 + 47)), (1, .ref (K.2.2 + 0)), (2, .ref (K.2.2 + 45))]) C e_x5_6 dL_moves_20 (Nat.le_of_ble_eq_true rfl) rfl rfl ?_
  refine J_aload_n (i := 1) (p := 4) C dL_moves_22 rfl rfl rfl ?_
  refine Jl_cS (rest := []) (st9 := fun p_22 => [.int p_22.1]) C hR hX cs_RL_8 (kL_next hl  (Ok.ofbnd h)) rfl rfl (Nat.le_of_ble_eq_true rfl) (Nat.le_of_ble_eq_true rfl) (Nat.le_of_ble_eq_true rfl) ⟨(Nat.le_of_ble_eq_true rfl), (Nat.le_of_ble_eq_true rfl)⟩ dL_moves_23 rfl (fun _ => rfl) (fun p_22 h => ?_)
  have h : Ok _ _ := h
  change J X K 12 False QQ 0 0 2064 (jl K p_22.2) 26 [(5, .int x5_6), (4, .int x4_5), (3, .int x3_4), (0, .ref (K.2.2 + 47)), (1, .ref (K.2.2 + 0)), (2, .ref (K.2.2 + 45))] [.int p_22.1]
  refine J_iload_n (i := 3) (p := 2) C dL_moves_26 rfl rfl rfl ?_
  refine J_iconst (v := 1) C (by decide) dL_moves_27 rfl ?_
  refine J_iadd C dL_moves_28 rfl ?_
  obtain ⟨g_23, h⟩ := Ok.ofgd h
  refine J_irem C (nz_spec g_23) dL_moves_29 rfl ?_
  obtain ⟨x6_7, e_x6_7, h⟩ := Ok.nm h
  refine J_istoreE (i := 6) (lv' := [(6, .int x6_7), (5, .int x5_6), (4, .int x4_5), (3, .int x3_4), (0, .ref (K.2.2 + 47)), (1, .ref (K.2.2 + 0)), (2, .ref (K.2.2 + 45))]) C e_x6_7 dL_moves_30 (Nat.le_of_ble_eq_true rfl) rfl rfl ?_
  refine J_iload (i := 5) (p := 1) C dL_moves_32 rfl rfl ?_
  refine J_if_ne (t := 76) C dL_moves_34 (by decide) rfl (fun c_24 => ?_) (fun c_24 => ?_)
  · have h := h.neg c_24
    refine J_iload (i := 5) (p := 1) C dL_moves_76 rfl rfl ?_
    refine J_iconst (v := 1) C (by decide) dL_moves_78 rfl ?_
    refine J_icmp_ne (t := 155) C dL_moves_79 (by decide) rfl (fun c_25 => ?_) (fun c_25 => ?_)
    · have h := h.neg c_25
      refine J_iload (i := 5) (p := 1) C dL_moves_155 rfl rfl ?_
      refine J_iconst (v := 2) C (by decide) dL_moves_157 rfl ?_
      refine J_icmp_ne (t := 195) C dL_moves_158 (by decide) rfl (fun c_26 => ?_) (fun c_26 => ?_)
      · have h := h.neg c_26
        refine J_iload (i := 5) (p := 1) C dL_moves_195 rfl rfl ?_
        refine J_iconst (v := 3) C (by decide) dL_moves_197 rfl ?_
        refine J_icmp_ne (t := 277) C dL_moves_198 (by decide) rfl (fun c_27 => ?_) (fun c_27 => ?_)
        · have h := h.neg c_27
          refine J_aload_n (i := 1) (p := 5) C dL_moves_277 rfl rfl rfl ?_
          refine Jl_cS (rest := []) (st9 := fun p_28 => [.int p_28.1]) C hR hX cs_RL_8 (kL_next hl  (Ok.ofbnd h)) rfl rfl (Nat.le_of_ble_eq_true rfl) (Nat.le_of_ble_eq_true rfl) (Nat.le_of_ble_eq_true rfl) ⟨(Nat.le_of_ble_eq_true rfl), (Nat.le_of_ble_eq_true rfl)⟩ dL_moves_278 rfl (fun _ => rfl) (fun p_28 h => ?_)
          have h : Ok _ _ := h
          change J X K 12 False QQ 0 0 2064 (jl K p_28.2) 281 [(6, .int x6_7), (5, .int x5_6), (4, .int x4_5), (3, .int x3_4), (0, .ref (K.2.2 + 47)), (1, .ref (K.2.2 + 0)), (2, .ref (K.2.2 + 45))] [.int p_28.1]
          refine J_iload (i := 4) (p := 2) C dL_moves_281 rfl rfl ?_
          obtain ⟨g_29, h⟩ := Ok.ofgd h
          refine J_irem C (nz_spec g_29) dL_moves_283 rfl ?_
          obtain ⟨x7_8, e_x7_8, h⟩ := Ok.nm h
          refine J_istoreE (i := 7) (lv' := [(7, .int x7_8), (6, .int x6_7), (5, .int x5_6), (4, .int x4_5), (3, .int x3_4), (0, .ref (K.2.2 + 47)), (1, .ref (K.2.2 + 0)), (2, .ref (K.2.2 + 45))]) C e_x7_8 dL_moves_284 (Nat.le_of_ble_eq_true rfl) rfl rfl ?_
          refine J_aload_n (i := 1) (p := 6) C dL_moves_286 rfl rfl rfl ?_
          refine Jl_cS (rest := []) (st9 := fun p_30 => [.int p_30.1]) C hR hX cs_RL_8 (kL_next hl  (Ok.ofbnd h)) rfl rfl (Nat.le_of_ble_eq_true rfl) (Nat.le_of_ble_eq_true rfl) (Nat.le_of_ble_eq_true rfl) ⟨(Nat.le_of_ble_eq_true rfl), (Nat.le_of_ble_eq_true rfl)⟩ dL_moves_287 rfl (fun _ => rfl) (fun p_30 h => ?_)
          have h : Ok _ _ := h
          change J X K 12 False QQ 0 0 2064 (jl K p_30.2) 290 [(7, .int x7_8), (6, .int x6_7), (5, .int x5_6), (4, .int x4_5), (3, .int x3_4), (0, .ref (K.2.2 + 47)), (1, .ref (K.2.2 + 0)), (2, .ref (K.2.2 + 45))] [.int p_30.1]
          refine J_iload (i := 4) (p := 3) C dL_moves_290 rfl rfl ?_
          obtain ⟨g_31, h⟩ := Ok.ofgd h
          refine J_irem C (nz_spec g_31) dL_moves_292 rfl ?_
          obtain ⟨x8_9, e_x8_9, h⟩ := Ok.nm h
          refine J_istoreE (i := 8) (lv' := [(8, .int x8_9), (7, .int x7_8), (6, .int x6_7), (5, .int x5_6), (4, .int x4_5), (3, .int x3_4), (0, .ref (K.2.2 + 47)), (1, .ref (K.2.2 + 0)), (2, .ref (K.2.2 + 45))]) C e_x8_9 dL_moves_293 (Nat.le_of_ble_eq_true rfl) rfl rfl ?_
          refine J_aload_n (i := 0) (p := 6) C dL_moves_295 rfl rfl rfl ?_
          refine J_iconst (v := 4) C (by decide) dL_moves_296 rfl ?_
          refine Jl_cV (rest := []) (st9 := fun p_32 => [.int p_32.1]) (wd := fun p_32 => p_32.2) C hR hX cv_RL_134 (k11_count_n hl (Ok.ofnox h) (fun c hc => hc)) rfl rfl (Nat.le_of_ble_eq_true rfl) (Nat.le_of_ble_eq_true rfl) (Nat.le_of_ble_eq_true rfl) ⟨(Nat.le_of_ble_eq_true rfl), (Nat.le_of_ble_eq_true rfl)⟩ dL_moves_297 rfl (fun E n9 w9 hx => hx.elim) (fun _ => rfl) (fun p_32 h => ?_)
          have h : Ok _ _ := h
          change J X K 12 False QQ 0 0 2064 (jl K (p_30.2.1, p_32.2)) 300 [(8, .int x8_9), (7, .int x7_8), (6, .int x6_7), (5, .int x5_6), (4, .int x4_5), (3, .int x3_4), (0, .ref (K.2.2 + 47)), (1, .ref (K.2.2 + 0)), (2, .ref (K.2.2 + 45))] [.int p_32.1]
          obtain ⟨x9_10, e_x9_10, h⟩ := Ok.nm h
          refine J_istoreE (i := 9) (lv' := [(9, .int x9_10), (8, .int x8_9), (7, .int x7_8), (6, .int x6_7), (5, .int x5_6), (4, .int x4_5), (3, .int x3_4), (0, .ref (K.2.2 + 47)), (1, .ref (K.2.2 + 0)), (2, .ref (K.2.2 + 45))]) C e_x9_10 dL_moves_300 (Nat.le_of_ble_eq_true rfl) rfl rfl ?_
          refine J_iload (i := 5) (p := 4) C dL_moves_302 rfl rfl ?_
          refine J_iconst (v := 4) C (by decide) dL_moves_304 rfl ?_
          refine J_icmp_ne (t := 394) C dL_moves_305 (by decide) rfl (fun c_33 => ?_) (fun c_33 => ?_)
          · have h := h.neg c_33
            refine J_aload_n (i := 0) (p := 7) C dL_moves_394 rfl rfl rfl ?_
            refine J_iload (i := 7) (p := 2) C dL_moves_395 rfl rfl ?_
            refine Jl_cV (rest := []) (st9 := fun p_34 => [.int p_34.1]) (wd := fun p_34 => p_34.2) C hR hX cv_RL_147 (k11_isHidden_n hl (Ok.ofnox h) (fun c hc => hc)) rfl rfl (Nat.le_of_ble_eq_true rfl) (Nat.le_of_ble_eq_true rfl) (Nat.le_of_ble_eq_true rfl) ⟨(Nat.le_of_ble_eq_true rfl), (Nat.le_of_ble_eq_true rfl)⟩ dL_moves_397 rfl (fun E n9 w9 hx => hx.elim) (fun _ => rfl) (fun p_34 h => ?_)
            have h : Ok _ _ := h
            change J X K 12 False QQ 0 0 2064 (jl K (p_30.2.1, p_34.2)) 400 [(9, .int x9_10), (8, .int x8_9), (7, .int x7_8), (6, .int x6_7), (5, .int x5_6), (4, .int x4_5), (3, .int x3_4), (0, .ref (K.2.2 + 47)), (1, .ref (K.2.2 + 0)), (2, .ref (K.2.2 + 45))] [.int p_34.1]
            obtain ⟨x10_11, e_x10_11, h⟩ := Ok.nm h
            refine J_istoreE (i := 10) (lv' := [(10, .int x10_11), (9, .int x9_10), (8, .int x8_9), (7, .int x7_8), (6, .int x6_7), (5, .int x5_6), (4, .int x4_5), (3, .int x3_4), (0, .ref (K.2.2 + 47)), (1, .ref (K.2.2 + 0)), (2, .ref (K.2.2 + 45))]) C e_x10_11 dL_moves_400 (Nat.le_of_ble_eq_true rfl) rfl rfl ?_
            refine J_aload_n (i := 0) (p := 8) C dL_moves_402 rfl rfl rfl ?_
            refine J_bipush (v := 20) C (by decide) dL_moves_403 rfl ?_
            refine J_iload (i := 7) (p := 3) C dL_moves_405 rfl rfl ?_
            refine J_iconst (v := 0) C (by decide) dL_moves_407 rfl ?_
            refine J_iconst (v := 0) C (by decide) dL_moves_408 rfl ?_
            refine Jl_cH (rest := []) (st9 := fun p_35 => [.int p_35.1]) C hR hX ch_RL_174 (kL_done hl  (Ok.ofbnd h)) rfl rfl (Nat.le_of_ble_eq_true rfl) (Nat.le_of_ble_eq_true rfl) (Nat.le_of_ble_eq_true rfl) ⟨(Nat.le_of_ble_eq_true rfl), (Nat.le_of_ble_eq_true rfl)⟩ dL_moves_409 rfl (fun _ => rfl) (fun p_35 h => ?_)
            have h : Ok _ _ := h
            change J X K 12 False QQ 1 6 2064 (jl K p_35.2) 412 [(10, .int x10_11), (9, .int x9_10), (8, .int x8_9), (7, .int x7_8), (6, .int x6_7), (5, .int x5_6), (4, .int x4_5), (3, .int x3_4), (0, .ref (K.2.2 + 47)), (1, .ref (K.2.2 + 0)), (2, .ref (K.2.2 + 45))] [.int p_35.1]
            obtain ⟨x11_12, e_x11_12, h⟩ := Ok.nm h
            refine J_istoreE (i := 11) (lv' := [(11, .int x11_12), (10, .int x10_11), (9, .int x9_10), (8, .int x8_9), (7, .int x7_8), (6, .int x6_7), (5, .int x5_6), (4, .int x4_5), (3, .int x3_4), (0, .ref (K.2.2 + 47)), (1, .ref (K.2.2 + 0)), (2, .ref (K.2.2 + 45))]) C e_x11_12 dL_moves_412 (Nat.le_of_ble_eq_true rfl) rfl rfl ?_
            refine J_iload (i := 11) (p := 0) C dL_moves_414 rfl rfl ?_
            refine J_if_lt (t := 460) C dL_moves_416 (by decide) rfl (fun c_36 => ?_) (fun c_36 => ?_)
            · have h := h.pos c_36
              refine J.sub [] rfl ?_
              exact hj_460 p_35.2 h
            · have h := h.neg c_36
              refine J_iload (i := 11) (p := 0) C dL_moves_419 rfl rfl ?_
              refine J_if_le (t := 428) C dL_moves_421 (by decide) rfl (fun c_37 => ?_) (fun c_37 => ?_)
              · have h := h.pos c_37
                refine J_iconst (v := 0) C (by decide) dL_moves_428 rfl ?_
                refine J.sub [9, 4, 2, 1, 0] rfl ?_
                exact hj_429 p_35.2 x7_8 x9_10 x10_11 x11_12 (0 : Int32) h
              · have h := h.neg c_37
                refine J_iconst (v := 1) C (by decide) dL_moves_424 rfl ?_
                refine J_goto (t := 429) C dL_moves_425 (by decide) ?_
                refine J.sub [9, 4, 2, 1, 0] rfl ?_
                exact hj_429 p_35.2 x7_8 x9_10 x10_11 x11_12 (1 : Int32) h
          · have h := h.pos (Decidable.not_not.mp c_33)
            refine J_aload_n (i := 0) (p := 7) C dL_moves_308 rfl rfl rfl ?_
            refine J_bipush (v := 19) C (by decide) dL_moves_309 rfl ?_
            refine J_iload (i := 7) (p := 2) C dL_moves_311 rfl rfl ?_
            refine J_iload (i := 8) (p := 1) C dL_moves_313 rfl rfl ?_
            refine J_iconst (v := 0) C (by decide) dL_moves_315 rfl ?_
            refine Jl_cH (rest := []) (st9 := fun p_38 => [.int p_38.1]) C hR hX ch_RL_174 (kL_done hl  (Ok.ofbnd h)) rfl rfl (Nat.le_of_ble_eq_true rfl) (Nat.le_of_ble_eq_true rfl) (Nat.le_of_ble_eq_true rfl) ⟨(Nat.le_of_ble_eq_true rfl), (Nat.le_of_ble_eq_true rfl)⟩ dL_moves_316 rfl (fun _ => rfl) (fun p_38 h => ?_)
            have h : Ok _ _ := h
            change J X K 12 False QQ 1 6 2064 (jl K p_38.2) 319 [(9, .int x9_10), (8, .int x8_9), (7, .int x7_8), (6, .int x6_7), (5, .int x5_6), (4, .int x4_5), (3, .int x3_4), (0, .ref (K.2.2 + 47)), (1, .ref (K.2.2 + 0)), (2, .ref (K.2.2 + 45))] [.int p_38.1]
            obtain ⟨x10_13, e_x10_13, h⟩ := Ok.nm h
            refine J_istoreE (i := 10) (lv' := [(10, .int x10_13), (9, .int x9_10), (8, .int x8_9), (7, .int x7_8), (6, .int x6_7), (5, .int x5_6), (4, .int x4_5), (3, .int x3_4), (0, .ref (K.2.2 + 47)), (1, .ref (K.2.2 + 0)), (2, .ref (K.2.2 + 45))]) C e_x10_13 dL_moves_319 (Nat.le_of_ble_eq_true rfl) rfl rfl ?_
            refine J_iload (i := 7) (p := 3) C dL_moves_321 rfl rfl ?_
            refine J_iload (i := 8) (p := 2) C dL_moves_323 rfl rfl ?_
            refine J_icmp_lt (t := 343) C dL_moves_325 (by decide) rfl (fun c_39 => ?_) (fun c_39 => ?_)
            · have h := h.pos c_39
              refine J_iload (i := 10) (p := 0) C dL_moves_343 rfl rfl ?_
              refine J_ldc (v := -1000003) C ci_RL_123 dL_moves_345 rfl ?_
              refine J_icmp_ne (t := 368) C dL_moves_347 (by decide) rfl (fun c_40 => ?_) (fun c_40 => ?_)
              · have h := h.neg c_40
                refine J_iload (i := 10) (p := 0) C dL_moves_368 rfl rfl ?_
                refine J_aload_n (i := 0) (p := 8) C dL_moves_370 rfl rfl rfl ?_
                refine J_iconst (v := 4) C (by decide) dL_moves_371 rfl ?_
                refine Jl_cV (rest := [.int x10_13]) (st9 := fun p_41 => [.int p_41.1, .int x10_13]) (wd := fun p_41 => p_41.2) C hR hX cv_RL_134 (k11_count_n hl (Ok.ofnox h) (fun c hc => hc)) rfl rfl (Nat.le_of_ble_eq_true rfl) (Nat.le_of_ble_eq_true rfl) (Nat.le_of_ble_eq_true rfl) ⟨(Nat.le_of_ble_eq_true rfl), (Nat.le_of_ble_eq_true rfl)⟩ dL_moves_372 rfl (fun E n9 w9 hx => hx.elim) (fun _ => rfl) (fun p_41 h => ?_)
                have h : Ok _ _ := h
                change J X K 12 False QQ 1 6 2064 (jl K (p_38.2.1, p_41.2)) 375 [(10, .int x10_13), (9, .int x9_10), (8, .int x8_9), (7, .int x7_8), (6, .int x6_7), (5, .int x5_6), (4, .int x4_5), (3, .int x3_4), (0, .ref (K.2.2 + 47)), (1, .ref (K.2.2 + 0)), (2, .ref (K.2.2 + 45))] [.int p_41.1, .int x10_13]
                refine J_icmp_ne (t := 392) C dL_moves_375 (by decide) rfl (fun c_42 => ?_) (fun c_42 => ?_)
                · have h := h.neg c_42
                  refine J.sub [] rfl ?_
                  exact hj_392 (p_38.2.1, p_41.2) h
                · have h := h.pos (Decidable.not_not.mp c_42)
                  refine J_iload (i := 10) (p := 0) C dL_moves_378 rfl rfl ?_
                  refine J_iload (i := 8) (p := 2) C dL_moves_380 rfl rfl ?_
                  refine J_iload (i := 7) (p := 3) C dL_moves_382 rfl rfl ?_
                  refine J_isub C dL_moves_384 rfl ?_
                  refine J_icmp_lt (t := 392) C dL_moves_385 (by decide) rfl (fun c_43 => ?_) (fun c_43 => ?_)
                  · have h := h.pos c_43
                    refine J.sub [] rfl ?_
                    exact hj_392 (p_38.2.1, p_41.2) h
                  · have h := h.neg c_43
                    refine J_iconst (v := 1) C (by decide) dL_moves_388 rfl ?_
                    refine J_goto (t := 393) C dL_moves_389 (by decide) ?_
                    refine J.sub [] rfl ?_
                    exact hj_393 (p_38.2.1, p_41.2) (1 : Int32) h
              · have h := h.pos (Decidable.not_not.mp c_40)
                refine J_aload_n (i := 0) (p := 8) C dL_moves_350 rfl rfl rfl ?_
                refine J_iconst (v := 4) C (by decide) dL_moves_351 rfl ?_
                refine Jl_cV (rest := []) (st9 := fun p_44 => [.int p_44.1]) (wd := fun p_44 => p_44.2) C hR hX cv_RL_134 (k11_count_n hl (Ok.ofnox h) (fun c hc => hc)) rfl rfl (Nat.le_of_ble_eq_true rfl) (Nat.le_of_ble_eq_true rfl) (Nat.le_of_ble_eq_true rfl) ⟨(Nat.le_of_ble_eq_true rfl), (Nat.le_of_ble_eq_true rfl)⟩ dL_moves_352 rfl (fun E n9 w9 hx => hx.elim) (fun _ => rfl) (fun p_44 h => ?_)
                have h : Ok _ _ := h
                change J X K 12 False QQ 1 6 2064 (jl K (p_38.2.1, p_44.2)) 355 [(10, .int x10_13), (9, .int x9_10), (8, .int x8_9), (7, .int x7_8), (6, .int x6_7), (5, .int x5_6), (4, .int x4_5), (3, .int x3_4), (0, .ref (K.2.2 + 47)), (1, .ref (K.2.2 + 0)), (2, .ref (K.2.2 + 45))] [.int p_44.1]
                refine J_iload (i := 9) (p := 1) C dL_moves_355 rfl rfl ?_
                refine J_icmp_ne (t := 364) C dL_moves_357 (by decide) rfl (fun c_45 => ?_) (fun c_45 => ?_)
                · have h := h.neg c_45
                  refine J_iconst (v := 0) C (by decide) dL_moves_364 rfl ?_
                  refine J_goto (t := 393) C dL_moves_365 (by decide) ?_
                  refine J.sub [] rfl ?_
                  exact hj_393 (p_38.2.1, p_44.2) (0 : Int32) h
                · have h := h.pos (Decidable.not_not.mp c_45)
                  refine J_iconst (v := 1) C (by decide) dL_moves_360 rfl ?_
                  refine J_goto (t := 393) C dL_moves_361 (by decide) ?_
                  refine J.sub [] rfl ?_
                  exact hj_393 (p_38.2.1, p_44.2) (1 : Int32) h
            · have h := h.neg c_39
              refine J_iload (i := 10) (p := 0) C dL_moves_328 rfl rfl ?_
              refine J_ldc (v := -1000002) C ci_RL_120 dL_moves_330 rfl ?_
              refine J_icmp_ne (t := 339) C dL_moves_332 (by decide) rfl (fun c_46 => ?_) (fun c_46 => ?_)
              · have h := h.neg c_46
                refine J_iconst (v := 0) C (by decide) dL_moves_339 rfl ?_
                refine J_goto (t := 393) C dL_moves_340 (by decide) ?_
                refine J.sub [] rfl ?_
                exact hj_393 p_38.2 (0 : Int32) h
              · have h := h.pos (Decidable.not_not.mp c_46)
                refine J_iconst (v := 1) C (by decide) dL_moves_335 rfl ?_
                refine J_goto (t := 393) C dL_moves_336 (by decide) ?_
                refine J.sub [] rfl ?_
                exact hj_393 p_38.2 (1 : Int32) h
        · have h := h.pos (Decidable.not_not.mp c_27)
          refine J_aload_n (i := 1) (p := 5) C dL_moves_201 rfl rfl rfl ?_
          refine Jl_cS (rest := []) (st9 := fun p_47 => [.int p_47.1]) C hR hX cs_RL_8 (kL_next hl  (Ok.ofbnd h)) rfl rfl (Nat.le_of_ble_eq_true rfl) (Nat.le_of_ble_eq_true rfl) (Nat.le_of_ble_eq_true rfl) ⟨(Nat.le_of_ble_eq_true rfl), (Nat.le_of_ble_eq_true rfl)⟩ dL_moves_202 rfl (fun _ => rfl) (fun p_47 h => ?_)
          have h : Ok _ _ := h
          change J X K 12 False QQ 0 0 2064 (jl K p_47.2) 205 [(6, .int x6_7), (5, .int x5_6), (4, .int x4_5), (3, .int x3_4), (0, .ref (K.2.2 + 47)), (1, .ref (K.2.2 + 0)), (2, .ref (K.2.2 + 45))] [.int p_47.1]
          refine J_bipush (v := 16) C (by decide) dL_moves_205 rfl ?_
          refine J_irem C (by decide) dL_moves_207 rfl ?_
          obtain ⟨x7_14, e_x7_14, h⟩ := Ok.nm h
          refine J_istoreE (i := 7) (lv' := [(7, .int x7_14), (6, .int x6_7), (5, .int x5_6), (4, .int x4_5), (3, .int x3_4), (0, .ref (K.2.2 + 47)), (1, .ref (K.2.2 + 0)), (2, .ref (K.2.2 + 45))]) C e_x7_14 dL_moves_208 (Nat.le_of_ble_eq_true rfl) rfl rfl ?_
          refine J_aload_n (i := 1) (p := 6) C dL_moves_210 rfl rfl rfl ?_
          refine Jl_cS (rest := []) (st9 := fun p_48 => [.int p_48.1]) C hR hX cs_RL_8 (kL_next hl  (Ok.ofbnd h)) rfl rfl (Nat.le_of_ble_eq_true rfl) (Nat.le_of_ble_eq_true rfl) (Nat.le_of_ble_eq_true rfl) ⟨(Nat.le_of_ble_eq_true rfl), (Nat.le_of_ble_eq_true rfl)⟩ dL_moves_211 rfl (fun _ => rfl) (fun p_48 h => ?_)
          have h : Ok _ _ := h
          change J X K 12 False QQ 0 0 2064 (jl K p_48.2) 214 [(7, .int x7_14), (6, .int x6_7), (5, .int x5_6), (4, .int x4_5), (3, .int x3_4), (0, .ref (K.2.2 + 47)), (1, .ref (K.2.2 + 0)), (2, .ref (K.2.2 + 45))] [.int p_48.1]
          refine J_iconst (v := 2) C (by decide) dL_moves_214 rfl ?_
          refine J_irem C (by decide) dL_moves_215 rfl ?_
          refine J_if_ne (t := 223) C dL_moves_216 (by decide) rfl (fun c_49 => ?_) (fun c_49 => ?_)
          · have h := h.neg c_49
            refine J_iconst (v := 0) C (by decide) dL_moves_223 rfl ?_
            refine J.sub [5, 7, 1, 0] rfl ?_
            exact hj_224 p_48.2 x6_7 x7_14 (0 : Int32) h
          · have h := h.pos (Decidable.not_not.mp c_49)
            refine J_iconst (v := 1) C (by decide) dL_moves_219 rfl ?_
            refine J_goto (t := 224) C dL_moves_220 (by decide) ?_
            refine J.sub [5, 7, 1, 0] rfl ?_
            exact hj_224 p_48.2 x6_7 x7_14 (1 : Int32) h
      · have h := h.pos (Decidable.not_not.mp c_26)
        refine J_aload_n (i := 0) (p := 4) C dL_moves_161 rfl rfl rfl ?_
        refine J_bipush (v := 16) C (by decide) dL_moves_162 rfl ?_
        refine J_aload_n (i := 1) (p := 5) C dL_moves_164 rfl rfl rfl ?_
        refine Jl_cS (rest := [.int (16 : Int32), .ref (K.2.2 + 47)]) (st9 := fun p_50 => [.int p_50.1, .int (16 : Int32), .ref (K.2.2 + 47)]) C hR hX cs_RL_8 (kL_next hl  (Ok.ofbnd h)) rfl rfl (Nat.le_of_ble_eq_true rfl) (Nat.le_of_ble_eq_true rfl) (Nat.le_of_ble_eq_true rfl) ⟨(Nat.le_of_ble_eq_true rfl), (Nat.le_of_ble_eq_true rfl)⟩ dL_moves_165 rfl (fun _ => rfl) (fun p_50 h => ?_)
        have h : Ok _ _ := h
        change J X K 12 False QQ 0 0 2064 (jl K p_50.2) 168 [(6, .int x6_7), (5, .int x5_6), (4, .int x4_5), (3, .int x3_4), (0, .ref (K.2.2 + 47)), (1, .ref (K.2.2 + 0)), (2, .ref (K.2.2 + 45))] [.int p_50.1, .int (16 : Int32), .ref (K.2.2 + 47)]
        refine J_iconst (v := 5) C (by decide) dL_moves_168 rfl ?_
        refine J_irem C (by decide) dL_moves_169 rfl ?_
        refine J_aload_n (i := 1) (p := 5) C dL_moves_170 rfl rfl rfl ?_
        refine J_bipush (v := -4) C (by decide) dL_moves_171 rfl ?_
        refine J_iconst (v := 4) C (by decide) dL_moves_173 rfl ?_
        refine Jl_cS (rest := [.int (p_50.1 - p_50.1 / (5 : Int32) * (5 : Int32)), .int (16 : Int32), .ref (K.2.2 + 47)]) (st9 := fun p_51 => [.int p_51.1, .int (p_50.1 - p_50.1 / (5 : Int32) * (5 : Int32)), .int (16 : Int32), .ref (K.2.2 + 47)]) C hR hX cs_RL_137 (kL_from hl  (Ok.ofbnd h)) rfl rfl (Nat.le_of_ble_eq_true rfl) (Nat.le_of_ble_eq_true rfl) (Nat.le_of_ble_eq_true rfl) ⟨(Nat.le_of_ble_eq_true rfl), (Nat.le_of_ble_eq_true rfl)⟩ dL_moves_174 rfl (fun _ => rfl) (fun p_51 h => ?_)
        have h : Ok _ _ := h
        change J X K 12 False QQ 0 0 2064 (jl K p_51.2) 177 [(6, .int x6_7), (5, .int x5_6), (4, .int x4_5), (3, .int x3_4), (0, .ref (K.2.2 + 47)), (1, .ref (K.2.2 + 0)), (2, .ref (K.2.2 + 45))] [.int p_51.1, .int (p_50.1 - p_50.1 / (5 : Int32) * (5 : Int32)), .int (16 : Int32), .ref (K.2.2 + 47)]
        refine J_iconst (v := 0) C (by decide) dL_moves_177 rfl ?_
        refine Jl_cH (rest := []) (st9 := fun p_52 => [.int p_52.1]) C hR hX ch_RL_174 (kL_done hl  (Ok.ofbnd h)) rfl rfl (Nat.le_of_ble_eq_true rfl) (Nat.le_of_ble_eq_true rfl) (Nat.le_of_ble_eq_true rfl) ⟨(Nat.le_of_ble_eq_true rfl), (Nat.le_of_ble_eq_true rfl)⟩ dL_moves_178 rfl (fun _ => rfl) (fun p_52 h => ?_)
        have h : Ok _ _ := h
        change J X K 12 False QQ 1 6 2064 (jl K p_52.2) 181 [(6, .int x6_7), (5, .int x5_6), (4, .int x4_5), (3, .int x3_4), (0, .ref (K.2.2 + 47)), (1, .ref (K.2.2 + 0)), (2, .ref (K.2.2 + 45))] [.int p_52.1]
        refine J_aload_n (i := 0) (p := 4) C dL_moves_181 rfl rfl rfl ?_
        refine J_iconst (v := 2) C (by decide) dL_moves_182 rfl ?_
        refine Jl_cV (rest := [.int p_52.1]) (st9 := fun p_53 => [.int p_53.1, .int p_52.1]) (wd := fun p_53 => p_53.2) C hR hX cv_RL_134 (k11_count_n hl (Ok.ofnox h) (fun c hc => hc)) rfl rfl (Nat.le_of_ble_eq_true rfl) (Nat.le_of_ble_eq_true rfl) (Nat.le_of_ble_eq_true rfl) ⟨(Nat.le_of_ble_eq_true rfl), (Nat.le_of_ble_eq_true rfl)⟩ dL_moves_183 rfl (fun E n9 w9 hx => hx.elim) (fun _ => rfl) (fun p_53 h => ?_)
        have h : Ok _ _ := h
        change J X K 12 False QQ 1 6 2064 (jl K (p_52.2.1, p_53.2)) 186 [(6, .int x6_7), (5, .int x5_6), (4, .int x4_5), (3, .int x3_4), (0, .ref (K.2.2 + 47)), (1, .ref (K.2.2 + 0)), (2, .ref (K.2.2 + 45))] [.int p_53.1, .int p_52.1]
        refine J_icmp_ne (t := 193) C dL_moves_186 (by decide) rfl (fun c_54 => ?_) (fun c_54 => ?_)
        · have h := h.neg c_54
          refine J_iconst (v := 0) C (by decide) dL_moves_193 rfl ?_
          refine J.sub [] rfl ?_
          exact hj_194 (p_52.2.1, p_53.2) (0 : Int32) h
        · have h := h.pos (Decidable.not_not.mp c_54)
          refine J_iconst (v := 1) C (by decide) dL_moves_189 rfl ?_
          refine J_goto (t := 194) C dL_moves_190 (by decide) ?_
          refine J.sub [] rfl ?_
          exact hj_194 (p_52.2.1, p_53.2) (1 : Int32) h
    · have h := h.pos (Decidable.not_not.mp c_25)
      refine J_aload_n (i := 0) (p := 4) C dL_moves_82 rfl rfl rfl ?_
      refine J_iconst (v := 2) C (by decide) dL_moves_83 rfl ?_
      refine Jl_cV (rest := []) (st9 := fun p_55 => [.int p_55.1]) (wd := fun p_55 => p_55.2) C hR hX cv_RL_134 (k11_count_n hl (Ok.ofnox h) (fun c hc => hc)) rfl rfl (Nat.le_of_ble_eq_true rfl) (Nat.le_of_ble_eq_true rfl) (Nat.le_of_ble_eq_true rfl) ⟨(Nat.le_of_ble_eq_true rfl), (Nat.le_of_ble_eq_true rfl)⟩ dL_moves_84 rfl (fun E n9 w9 hx => hx.elim) (fun _ => rfl) (fun p_55 h => ?_)
      have h : Ok _ _ := h
      change J X K 12 False QQ 0 0 2064 (jl K (p_22.2.1, p_55.2)) 87 [(6, .int x6_7), (5, .int x5_6), (4, .int x4_5), (3, .int x3_4), (0, .ref (K.2.2 + 47)), (1, .ref (K.2.2 + 0)), (2, .ref (K.2.2 + 45))] [.int p_55.1]
      obtain ⟨x7_15, e_x7_15, h⟩ := Ok.nm h
      refine J_istoreE (i := 7) (lv' := [(7, .int x7_15), (6, .int x6_7), (5, .int x5_6), (4, .int x4_5), (3, .int x3_4), (0, .ref (K.2.2 + 47)), (1, .ref (K.2.2 + 0)), (2, .ref (K.2.2 + 45))]) C e_x7_15 dL_moves_87 (Nat.le_of_ble_eq_true rfl) rfl rfl ?_
      refine J_aload_n (i := 0) (p := 5) C dL_moves_89 rfl rfl rfl ?_
      refine J_bipush (v := 15) C (by decide) dL_moves_90 rfl ?_
      refine J_iload (i := 6) (p := 1) C dL_moves_92 rfl rfl ?_
      refine J_iconst (v := 0) C (by decide) dL_moves_94 rfl ?_
      refine J_iconst (v := 0) C (by decide) dL_moves_95 rfl ?_
      refine Jl_cH (rest := []) (st9 := fun p_56 => [.int p_56.1]) C hR hX ch_RL_174 (kL_done hl  (Ok.ofbnd h)) rfl rfl (Nat.le_of_ble_eq_true rfl) (Nat.le_of_ble_eq_true rfl) (Nat.le_of_ble_eq_true rfl) ⟨(Nat.le_of_ble_eq_true rfl), (Nat.le_of_ble_eq_true rfl)⟩ dL_moves_96 rfl (fun _ => rfl) (fun p_56 h => ?_)
      have h : Ok _ _ := h
      change J X K 12 False QQ 1 6 2064 (jl K p_56.2) 99 [(7, .int x7_15), (6, .int x6_7), (5, .int x5_6), (4, .int x4_5), (3, .int x3_4), (0, .ref (K.2.2 + 47)), (1, .ref (K.2.2 + 0)), (2, .ref (K.2.2 + 45))] [.int p_56.1]
      obtain ⟨x8_16, e_x8_16, h⟩ := Ok.nm h
      refine J_istoreE (i := 8) (lv' := [(8, .int x8_16), (7, .int x7_15), (6, .int x6_7), (5, .int x5_6), (4, .int x4_5), (3, .int x3_4), (0, .ref (K.2.2 + 47)), (1, .ref (K.2.2 + 0)), (2, .ref (K.2.2 + 45))]) C e_x8_16 dL_moves_99 (Nat.le_of_ble_eq_true rfl) rfl rfl ?_
      refine J_iload (i := 8) (p := 0) C dL_moves_101 rfl rfl ?_
      refine J_ldc (v := -1000003) C ci_RL_123 dL_moves_103 rfl ?_
      refine J_icmp_ne (t := 123) C dL_moves_105 (by decide) rfl (fun c_57 => ?_) (fun c_57 => ?_)
      · have h := h.neg c_57
        refine J_iload (i := 8) (p := 0) C dL_moves_123 rfl rfl ?_
        refine J_aload_n (i := 0) (p := 6) C dL_moves_125 rfl rfl rfl ?_
        refine J_iconst (v := 2) C (by decide) dL_moves_126 rfl ?_
        refine Jl_cV (rest := [.int x8_16]) (st9 := fun p_58 => [.int p_58.1, .int x8_16]) (wd := fun p_58 => p_58.2) C hR hX cv_RL_134 (k11_count_n hl (Ok.ofnox h) (fun c hc => hc)) rfl rfl (Nat.le_of_ble_eq_true rfl) (Nat.le_of_ble_eq_true rfl) (Nat.le_of_ble_eq_true rfl) ⟨(Nat.le_of_ble_eq_true rfl), (Nat.le_of_ble_eq_true rfl)⟩ dL_moves_127 rfl (fun E n9 w9 hx => hx.elim) (fun _ => rfl) (fun p_58 h => ?_)
        have h : Ok _ _ := h
        change J X K 12 False QQ 1 6 2064 (jl K (p_56.2.1, p_58.2)) 130 [(8, .int x8_16), (7, .int x7_15), (6, .int x6_7), (5, .int x5_6), (4, .int x4_5), (3, .int x3_4), (0, .ref (K.2.2 + 47)), (1, .ref (K.2.2 + 0)), (2, .ref (K.2.2 + 45))] [.int p_58.1, .int x8_16]
        refine J_icmp_ne (t := 153) C dL_moves_130 (by decide) rfl (fun c_59 => ?_) (fun c_59 => ?_)
        · have h := h.neg c_59
          refine J.sub [] rfl ?_
          exact hj_153 (p_56.2.1, p_58.2) h
        · have h := h.pos (Decidable.not_not.mp c_59)
          refine J_iload (i := 8) (p := 0) C dL_moves_133 rfl rfl ?_
          refine J_iload (i := 7) (p := 1) C dL_moves_135 rfl rfl ?_
          refine J_icmp_lt (t := 153) C dL_moves_137 (by decide) rfl (fun c_60 => ?_) (fun c_60 => ?_)
          · have h := h.pos c_60
            refine J.sub [] rfl ?_
            exact hj_153 (p_56.2.1, p_58.2) h
          · have h := h.neg c_60
            refine J_iload (i := 8) (p := 0) C dL_moves_140 rfl rfl ?_
            refine J_iload (i := 7) (p := 1) C dL_moves_142 rfl rfl ?_
            refine J_iconst (v := 1) C (by decide) dL_moves_144 rfl ?_
            refine J_iadd C dL_moves_145 rfl ?_
            refine J_icmp_gt (t := 153) C dL_moves_146 (by decide) rfl (fun c_61 => ?_) (fun c_61 => ?_)
            · have h := h.pos c_61
              refine J.sub [] rfl ?_
              exact hj_153 (p_56.2.1, p_58.2) h
            · have h := h.neg c_61
              refine J_iconst (v := 1) C (by decide) dL_moves_149 rfl ?_
              refine J_goto (t := 154) C dL_moves_150 (by decide) ?_
              refine J.sub [] rfl ?_
              exact hj_154 (p_56.2.1, p_58.2) (1 : Int32) h
      · have h := h.pos (Decidable.not_not.mp c_57)
        refine J_iload (i := 7) (p := 1) C dL_moves_108 rfl rfl ?_
        refine J_bipush (v := 8) C (by decide) dL_moves_110 rfl ?_
        refine J_icmp_ne (t := 119) C dL_moves_112 (by decide) rfl (fun c_62 => ?_) (fun c_62 => ?_)
        · have h := h.neg c_62
          refine J_iconst (v := 0) C (by decide) dL_moves_119 rfl ?_
          refine J_goto (t := 154) C dL_moves_120 (by decide) ?_
          refine J.sub [] rfl ?_
          exact hj_154 p_56.2 (0 : Int32) h
        · have h := h.pos (Decidable.not_not.mp c_62)
          refine J_iconst (v := 1) C (by decide) dL_moves_115 rfl ?_
          refine J_goto (t := 154) C dL_moves_116 (by decide) ?_
          refine J.sub [] rfl ?_
          exact hj_154 p_56.2 (1 : Int32) h
  · have h := h.pos (Decidable.not_not.mp c_24)
    refine J_aload_n (i := 0) (p := 4) C dL_moves_37 rfl rfl rfl ?_
    refine J_bipush (v := 14) C (by decide) dL_moves_38 rfl ?_
    refine J_iload (i := 6) (p := 0) C dL_moves_40 rfl rfl ?_
    refine J_iconst (v := 0) C (by decide) dL_moves_42 rfl ?_
    refine J_iconst (v := 0) C (by decide) dL_moves_43 rfl ?_
    refine Jl_cH (rest := []) (st9 := fun p_63 => [.int p_63.1]) C hR hX ch_RL_174 (kL_done hl  (Ok.ofbnd h)) rfl rfl (Nat.le_of_ble_eq_true rfl) (Nat.le_of_ble_eq_true rfl) (Nat.le_of_ble_eq_true rfl) ⟨(Nat.le_of_ble_eq_true rfl), (Nat.le_of_ble_eq_true rfl)⟩ dL_moves_44 rfl (fun _ => rfl) (fun p_63 h => ?_)
    have h : Ok _ _ := h
    change J X K 12 False QQ 1 6 2064 (jl K p_63.2) 47 [(6, .int x6_7), (5, .int x5_6), (4, .int x4_5), (3, .int x3_4), (0, .ref (K.2.2 + 47)), (1, .ref (K.2.2 + 0)), (2, .ref (K.2.2 + 45))] [.int p_63.1]
    refine J_iconst (v := 1) C (by decide) dL_moves_47 rfl ?_
    refine J_icmp_lt (t := 74) C dL_moves_48 (by decide) rfl (fun c_64 => ?_) (fun c_64 => ?_)
    · have h := h.pos c_64
      refine J.sub [] rfl ?_
      exact hj_74 p_63.2 h
    · have h := h.neg c_64
      refine J_aload_n (i := 0) (p := 4) C dL_moves_51 rfl rfl rfl ?_
      refine J_iconst (v := 2) C (by decide) dL_moves_52 rfl ?_
      refine Jl_cV (rest := []) (st9 := fun p_65 => [.int p_65.1]) (wd := fun p_65 => p_65.2) C hR hX cv_RL_134 (k11_count_n hl (Ok.ofnox h) (fun c hc => hc)) rfl rfl (Nat.le_of_ble_eq_true rfl) (Nat.le_of_ble_eq_true rfl) (Nat.le_of_ble_eq_true rfl) ⟨(Nat.le_of_ble_eq_true rfl), (Nat.le_of_ble_eq_true rfl)⟩ dL_moves_53 rfl (fun E n9 w9 hx => hx.elim) (fun _ => rfl) (fun p_65 h => ?_)
      have h : Ok _ _ := h
      change J X K 12 False QQ 1 6 2064 (jl K (p_63.2.1, p_65.2)) 56 [(6, .int x6_7), (5, .int x5_6), (4, .int x4_5), (3, .int x3_4), (0, .ref (K.2.2 + 47)), (1, .ref (K.2.2 + 0)), (2, .ref (K.2.2 + 45))] [.int p_65.1]
      refine J_iconst (v := 1) C (by decide) dL_moves_56 rfl ?_
      refine J_icmp_ne (t := 74) C dL_moves_57 (by decide) rfl (fun c_66 => ?_) (fun c_66 => ?_)
      · have h := h.neg c_66
        refine J.sub [] rfl ?_
        exact hj_74 (p_63.2.1, p_65.2) h
      · have h := h.pos (Decidable.not_not.mp c_66)
        refine J_aload_n (i := 0) (p := 4) C dL_moves_60 rfl rfl rfl ?_
        refine J_iconst (v := 0) C (by decide) dL_moves_61 rfl ?_
        refine Jl_cV (rest := []) (st9 := fun p_67 => [.int p_67.1]) (wd := fun p_67 => p_67.2) C hR hX cv_RL_141 (k11_cursorAt_n hl (Ok.ofnox h) (fun c hc => hc)) rfl rfl (Nat.le_of_ble_eq_true rfl) (Nat.le_of_ble_eq_true rfl) (Nat.le_of_ble_eq_true rfl) ⟨(Nat.le_of_ble_eq_true rfl), (Nat.le_of_ble_eq_true rfl)⟩ dL_moves_62 rfl (fun E n9 w9 hx => hx.elim) (fun _ => rfl) (fun p_67 h => ?_)
        have h : Ok _ _ := h
        change J X K 12 False QQ 1 6 2064 (jl K (p_63.2.1, p_67.2)) 65 [(6, .int x6_7), (5, .int x5_6), (4, .int x4_5), (3, .int x3_4), (0, .ref (K.2.2 + 47)), (1, .ref (K.2.2 + 0)), (2, .ref (K.2.2 + 45))] [.int p_67.1]
        refine J_iload (i := 6) (p := 0) C dL_moves_65 rfl rfl ?_
        refine J_icmp_ne (t := 74) C dL_moves_67 (by decide) rfl (fun c_68 => ?_) (fun c_68 => ?_)
        · have h := h.neg c_68
          refine J.sub [] rfl ?_
          exact hj_74 (p_63.2.1, p_67.2) h
        · have h := h.pos (Decidable.not_not.mp c_68)
          refine J_iconst (v := 1) C (by decide) dL_moves_70 rfl ?_
          refine J_goto (t := 75) C dL_moves_71 (by decide) ?_
          refine J.sub [] rfl ?_
          exact hj_75 (p_63.2.1, p_67.2) (1 : Int32) h
def fL_goesBack_j416 (τ_416 : LawS) (s0_416 : Int32) : Option (Int32 × LawS) :=
  gd (isB s0_416) <|
  some (s0_416, τ_416)
def fL_goesBack_j415 (τ_415 : LawS) : Option (Int32 × LawS) :=
  fL_goesBack_j416 τ_415 (0 : Int32)
def fL_goesBack_j411 (τ_411 : LawS) : Option (Int32 × LawS) :=
  fL_goesBack_j416 τ_411 (1 : Int32)
def fL_goesBack_j341 (τ_341 : LawS) : Option (Int32 × LawS) :=
  some ((0 : Int32), τ_341)
def fL_goesBack_b306 (τ_306 : LawS) (l8_306 : Int32) (l9_306 : Int32) : Option ((LawS × Int32) ⊕ (LawS ⊕ LawS)) :=
  if l8_306 < l9_306 then
    some (.inr (Sum.inl τ_306))
  else
    bnd (fL_done τ_306 (11 : Int32) (1 : Int32) (0 : Int32) (0 : Int32)) fun p_13 =>
    if p_13.1 = (1 : Int32) then
      gd (inb ((20 : Int32) + l9_306) 41) <|
      bnd (fL_isLike p_13.2 (2 + Int32.toNatClampNeg ((20 : Int32) + l9_306))) fun p_16 =>
      if p_16.1 = 0 then
        some (.inr (Sum.inr p_16.2))
      else
        stp (l9_306 + (1 : Int32)) fun x9_1 =>
        some (.inl (p_16.2, x9_1))
    else
      some (.inr (Sum.inr p_13.2))
def fL_goesBack_j306 (τ_306 : LawS) (l8_306 : Int32) (l9_306 : Int32) : Option (Int32 × LawS) :=
  bnd (loopF (fun s_306 => fL_goesBack_b306 s_306.1 l8_306 s_306.2) 11 (τ_306, l9_306)) fun r_306 =>
    match r_306 with
    | .inl r_306x =>
      if l8_306 = 0 then
        fL_goesBack_j411 r_306x
      else
        bnd (fL_done r_306x (10 : Int32) l8_306 (0 : Int32) (0 : Int32)) fun p_19 =>
        if p_19.1 = l8_306 then
          bnd (fL_isLike p_19.2 22) fun p_21 =>
          if p_21.1 = 0 then
            fL_goesBack_j415 p_21.2
          else
            bnd (fL_done p_21.2 (11 : Int32) l8_306 (0 : Int32) (0 : Int32)) fun p_23 =>
            if p_23.1 = l8_306 then
              gd (inb ((20 : Int32) + l8_306) 41) <|
              bnd (fL_isLike p_23.2 (2 + Int32.toNatClampNeg ((20 : Int32) + l8_306))) fun p_26 =>
              if p_26.1 = 0 then
                fL_goesBack_j415 p_26.2
              else
                fL_goesBack_j411 p_26.2
            else
              fL_goesBack_j415 p_23.2
        else
          fL_goesBack_j415 p_19.2
    | .inr r_306y =>
      fL_goesBack_j341 r_306y
def fL_goesBack_j295 (τ_295 : LawS) : Option (Int32 × LawS) :=
  some ((0 : Int32), τ_295)
def fL_goesBack_j250 (τ_250 : LawS) : Option (Int32 × LawS) :=
  some ((0 : Int32), τ_250)
def fL_goesBack_b218 (τ_218 : LawS) (l6_218 : Int32) (l8_218 : Int32) (l9_218 : Int32) : Option ((LawS × Int32) ⊕ (LawS ⊕ (LawS ⊕ LawS))) :=
  if l9_218 ≤ 0 then
    some (.inr (Sum.inl τ_218))
  else
    bnd (fL_done τ_218 (10 : Int32) (1 : Int32) (0 : Int32) (0 : Int32)) fun p_29 =>
    if p_29.1 = (1 : Int32) then
      gd (inb (l9_218 - (1 : Int32)) 41) <|
      bnd (fL_isLike p_29.2 (2 + Int32.toNatClampNeg (l9_218 - (1 : Int32)))) fun p_32 =>
      if p_32.1 = 0 then
        some (.inr (Sum.inr (Sum.inl p_32.2)))
      else
        gd (inb (((20 : Int32) + l9_218) - (1 : Int32)) 41) <|
        bnd (fL_sees p_32.2 (2 + Int32.toNatClampNeg (((20 : Int32) + l9_218) - (1 : Int32)))) fun p_35 =>
        bnd (nox (f11_acts p_35.2 (1 : Int32))) fun p_36 =>
        if p_36.1 = ((l6_218 + l9_218) - (1 : Int32)) then
          bnd (nox (f11_acts p_36.2 (2 : Int32))) fun p_38 =>
          if ((l8_218 - l9_218) + (1 : Int32)) ≤ p_38.1 then
            stp (l9_218 + (-1 : Int32)) fun x9_3 =>
            some (.inl ((p_35.1, p_38.2), x9_3))
          else
            some (.inr (Sum.inr (Sum.inr (p_35.1, p_38.2))))
        else
          some (.inr (Sum.inr (Sum.inr (p_35.1, p_36.2))))
    else
      some (.inr (Sum.inr (Sum.inl p_29.2)))
def fL_goesBack_j218 (τ_218 : LawS) (l6_218 : Int32) (l8_218 : Int32) (l9_218 : Int32) : Option (Int32 × LawS) :=
  bnd (loopF (fun s_218 => fL_goesBack_b218 s_218.1 l6_218 l8_218 s_218.2) 11 (τ_218, l9_218)) fun r_218 =>
    match r_218 with
    | .inl r_218x =>
      stp (1 : Int32) fun x9_4 =>
      fL_goesBack_j306 r_218x l8_218 x9_4
    | .inr r_218y =>
      match r_218y with
      | .inl r_218yx =>
        fL_goesBack_j250 r_218yx
      | .inr r_218yy =>
        fL_goesBack_j295 r_218yy
def fL_goesBack_j167 (τ_167 : LawS) : Option (Int32 × LawS) :=
  some ((0 : Int32), τ_167)
def fL_goesBack_j197 (l6_22 : Int32) (l7_22 : Int32) (τ_197 : LawS) (l8_197 : Int32) (l9_197 : Int32) : Option ((LawS × Int32 × Int32) ⊕ ((LawS × Int32) ⊕ (LawS ⊕ (LawS ⊕ (LawS ⊕ (LawS ⊕ LawS)))))) :=
  stp (l9_197 + (1 : Int32)) fun x9_5 =>
  some (.inl (τ_197, l8_197, x9_5))
def fL_goesBack_j169 (l6_22 : Int32) (l7_22 : Int32) (τ_169 : LawS) (l8_169 : Int32) (l9_169 : Int32) (l11_169 : Int32) : Option ((LawS × Int32 × Int32) ⊕ ((LawS × Int32) ⊕ (LawS ⊕ (LawS ⊕ (LawS ⊕ (LawS ⊕ LawS)))))) :=
  stp (l8_169 + l11_169) fun x8_6 =>
  bnd (fL_next τ_169) fun p_40 =>
  if (p_40.1 - p_40.1 / (3 : Int32) * (3 : Int32)) = 0 then
    bnd (fL_moves p_40.2) fun p_42 =>
    if p_42.1 = 0 then
      some (.inr (Sum.inr (Sum.inr (Sum.inr (Sum.inr (Sum.inr p_42.2))))))
    else
      fL_goesBack_j197 l6_22 l7_22 p_42.2 x8_6 l9_169
  else
    fL_goesBack_j197 l6_22 l7_22 p_40.2 x8_6 l9_169
def fL_goesBack_j126 (l6_22 : Int32) (l7_22 : Int32) (τ_126 : LawS) (l8_126 : Int32) (l9_126 : Int32) : Option ((LawS × Int32 × Int32) ⊕ ((LawS × Int32) ⊕ (LawS ⊕ (LawS ⊕ (LawS ⊕ (LawS ⊕ LawS)))))) :=
  bnd (nox (f11_acts τ_126.2 (1 : Int32))) fun p_44 =>
  stp ((p_44.1 - l6_22) - l8_126) fun x11_7 =>
  if x11_7 < 0 then
    some (.inr (Sum.inr (Sum.inr (Sum.inr (Sum.inr (Sum.inl (τ_126.1, p_44.2)))))))
  else
    if (1 : Int32) < x11_7 then
      some (.inr (Sum.inr (Sum.inr (Sum.inr (Sum.inr (Sum.inl (τ_126.1, p_44.2)))))))
    else
      if x11_7 = 0 then
        gd (inb l8_126 41) <|
        bnd (fL_isLike (τ_126.1, p_44.2) (2 + Int32.toNatClampNeg l8_126)) fun p_49 =>
        if p_49.1 = 0 then
          some (.inr (Sum.inr (Sum.inr (Sum.inr (Sum.inr (Sum.inl p_49.2))))))
        else
          fL_goesBack_j169 l6_22 l7_22 p_49.2 l8_126 l9_126 x11_7
      else
        fL_goesBack_j169 l6_22 l7_22 (τ_126.1, p_44.2) l8_126 l9_126 x11_7
def fL_goesBack_b76 (l6_22 : Int32) (l7_22 : Int32) (τ_76 : LawS) (l8_76 : Int32) (l9_76 : Int32) (l10_76 : Int32) (l11_76 : Int32) : Option ((LawS × Int32) ⊕ (LawS ⊕ LawS)) :=
  if ((2 : Int32) * l10_76) < l11_76 then
    some (.inr (Sum.inl τ_76))
  else
    bnd (fL_acts τ_76) fun p_55 =>
    if p_55.1 = (-1000009 : Int32) then
      some (.inr (Sum.inr p_55.2))
    else
      stp (l11_76 + (1 : Int32)) fun x11_8 =>
      some (.inl (p_55.2, x11_8))
def fL_goesBack_j76 (l6_22 : Int32) (l7_22 : Int32) (τ_76 : LawS) (l8_76 : Int32) (l9_76 : Int32) (l10_76 : Int32) (l11_76 : Int32) : Option ((LawS × Int32 × Int32) ⊕ ((LawS × Int32) ⊕ (LawS ⊕ (LawS ⊕ (LawS ⊕ (LawS ⊕ LawS)))))) :=
  bnd (loopF (fun s_76 => fL_goesBack_b76 l6_22 l7_22 s_76.1 l8_76 l9_76 l10_76 s_76.2) 4 (τ_76, l11_76)) fun r_76 =>
    match r_76 with
    | .inl r_76x =>
      if l10_76 = (1 : Int32) then
        bnd (fL_done r_76x (13 : Int32) (0 : Int32) (0 : Int32) (0 : Int32)) fun p_58 =>
        if p_58.1 = (1 : Int32) then
          fL_goesBack_j126 l6_22 l7_22 p_58.2 l8_76 l9_76
        else
          some (.inr (Sum.inr (Sum.inr (Sum.inr (Sum.inl p_58.2)))))
      else
        fL_goesBack_j126 l6_22 l7_22 r_76x l8_76 l9_76
    | .inr r_76y =>
      some (.inr (Sum.inr (Sum.inr (Sum.inl r_76y))))
def fL_goesBack_j73 (l6_22 : Int32) (l7_22 : Int32) (τ_73 : LawS) (l8_73 : Int32) (l9_73 : Int32) (l10_73 : Int32) : Option ((LawS × Int32 × Int32) ⊕ ((LawS × Int32) ⊕ (LawS ⊕ (LawS ⊕ (LawS ⊕ (LawS ⊕ LawS)))))) :=
  stp (0 : Int32) fun x11_9 =>
  fL_goesBack_j76 l6_22 l7_22 τ_73 l8_73 l9_73 l10_73 x11_9
def fL_goesBack_j43 (l6_22 : Int32) (l7_22 : Int32) (τ_43 : LawS) (l8_43 : Int32) (l9_43 : Int32) (s0_43 : Int32) : Option ((LawS × Int32 × Int32) ⊕ ((LawS × Int32) ⊕ (LawS ⊕ (LawS ⊕ (LawS ⊕ (LawS ⊕ LawS)))))) :=
  stp s0_43 fun x10_10 =>
  gd (inb l8_43 41) <|
  bnd (fL_sees τ_43 (2 + Int32.toNatClampNeg l8_43)) fun p_61 =>
  if x10_10 = (1 : Int32) then
    bnd (fL_done p_61 (13 : Int32) (1 : Int32) (0 : Int32) (0 : Int32)) fun p_63 =>
    if p_63.1 = 0 then
      fL_goesBack_j73 l6_22 l7_22 p_63.2 l8_43 l9_43 x10_10
    else
      some (.inr (Sum.inr (Sum.inl p_63.2)))
  else
    fL_goesBack_j73 l6_22 l7_22 p_61 l8_43 l9_43 x10_10
def fL_goesBack_b22 (τ_22 : LawS) (l6_22 : Int32) (l7_22 : Int32) (l8_22 : Int32) (l9_22 : Int32) : Option ((LawS × Int32 × Int32) ⊕ ((LawS × Int32) ⊕ (LawS ⊕ (LawS ⊕ (LawS ⊕ (LawS ⊕ LawS)))))) :=
  if l7_22 ≤ l9_22 then
    some (.inr (Sum.inl (τ_22, l8_22)))
  else
    bnd (fL_next τ_22) fun p_68 =>
    if (p_68.1 - p_68.1 / (5 : Int32) * (5 : Int32)) = 0 then
      fL_goesBack_j43 l6_22 l7_22 p_68.2 l8_22 l9_22 (1 : Int32)
    else
      fL_goesBack_j43 l6_22 l7_22 p_68.2 l8_22 l9_22 (0 : Int32)
def fL_goesBack_j22 (τ_22 : LawS) (l6_22 : Int32) (l7_22 : Int32) (l8_22 : Int32) (l9_22 : Int32) : Option (Int32 × LawS) :=
  bnd (loopF (fun s_22 => fL_goesBack_b22 s_22.1 l6_22 l7_22 s_22.2.1 s_22.2.2) 11 (τ_22, l8_22, l9_22)) fun r_22 =>
    match r_22 with
    | .inl r_22x =>
      gd (inb ((20 : Int32) + r_22x.2) 41) <|
      bnd (fL_sees r_22x.1 (2 + Int32.toNatClampNeg ((20 : Int32) + r_22x.2))) fun p_71 =>
      stp r_22x.2 fun x9_12 =>
      fL_goesBack_j218 p_71 l6_22 r_22x.2 x9_12
    | .inr r_22y =>
      match r_22y with
      | .inl r_22yx =>
        some ((0 : Int32), r_22yx)
      | .inr r_22yy =>
        match r_22yy with
        | .inl r_22yyx =>
          some ((0 : Int32), r_22yyx)
        | .inr r_22yyy =>
          match r_22yyy with
          | .inl r_22yyyx =>
            some ((0 : Int32), r_22yyyx)
          | .inr r_22yyyy =>
            match r_22yyyy with
            | .inl r_22yyyyx =>
              fL_goesBack_j167 r_22yyyyx
            | .inr r_22yyyyy =>
              some ((0 : Int32), r_22yyyyy)
def fL_goesBack (τ : LawS) : Option (Int32 × LawS) :=
  bnd (nox (f11_acts τ.2 (1 : Int32))) fun p_72 =>
  stp p_72.1 fun x6_13 =>
  bnd (fL_from (τ.1, p_72.2) (1 : Int32) (10 : Int32)) fun p_73 =>
  stp p_73.1 fun x7_14 =>
  stp (0 : Int32) fun x8_15 =>
  stp (0 : Int32) fun x9_16 =>
  fL_goesBack_j22 p_73.2 x6_13 x7_14 x8_15 x9_16
set_option maxHeartbeats 4000000 in
set_option maxRecDepth 100000 in
theorem kL_goesBack {l : Launch} {K : JK} (hl : l.stackTraces = false) {τ : LawS}   {Qf : Int32 × LawS → Prop} (h : Ok (fL_goesBack τ) Qf) : Con l K yL_goesBack (.code yL_goesBack cL_goesBack 12 (some .boolean) :: TB) 11 145 870 False [.ref (K.2.2 + 47), .ref (K.2.2 + 0), .ref (K.2.2 + 1), .ref (K.2.2 + 42), .ref (K.2.2 + 43), .ref (K.2.2 + 45)] 2064 (jl K τ) (PL Qf (fun p => some (.int p.1)) (fun p => jl K p.2)) PN := by
  refine Con.enter (own := RL) hl (by decide) rfl (Nat.le_of_ble_eq_true rfl) ?_
  intro X hX hR C hret hnt
  generalize hQQ : jQ X K 145 870 (PL Qf (fun p => some (.int p.1)) (fun p => jl K p.2)) PN False = QQ
  change J X K 12 False QQ 0 0 2064 (jl K τ) 0 [(0, .ref (K.2.2 + 47)), (1, .ref (K.2.2 + 0)), (2, .ref (K.2.2 + 1)), (3, .ref (K.2.2 + 42)), (4, .ref (K.2.2 + 43)), (5, .ref (K.2.2 + 45))] []
  have hj_416 : (∀ (τ_416 : LawS) (s0_416 : Int32), Ok (fL_goesBack_j416 τ_416 s0_416) Qf → J X K 12 False QQ 145 870 2064 (jl K τ_416) 416 [] [.int s0_416]) := by
    intro τ_416 s0_416 h
    unfold fL_goesBack_j416 at h
    obtain ⟨g_1, h⟩ := Ok.ofgd h
    rw [← hQQ]
    exact J_zret C hret (narB g_1).1 (Nat.le_of_ble_eq_true rfl) (Nat.le_of_ble_eq_true rfl) ⟨_, h.osome, rfl, rfl, rfl⟩ dL_goesBack_416
  have hj_415 : (∀ (τ_415 : LawS), Ok (fL_goesBack_j415 τ_415) Qf → J X K 12 False QQ 145 870 2064 (jl K τ_415) 415 [] []) := by
    intro τ_415 h
    unfold fL_goesBack_j415 at h
    refine J_iconst (v := 0) C (by decide) dL_goesBack_415 rfl ?_
    exact hj_416 τ_415 (0 : Int32) h
  have hj_411 : (∀ (τ_411 : LawS), Ok (fL_goesBack_j411 τ_411) Qf → J X K 12 False QQ 145 870 2064 (jl K τ_411) 411 [] []) := by
    intro τ_411 h
    unfold fL_goesBack_j411 at h
    refine J_iconst (v := 1) C (by decide) dL_goesBack_411 rfl ?_
    refine J_goto (t := 416) C dL_goesBack_412 (by decide) ?_
    exact hj_416 τ_411 (1 : Int32) h
  have hj_341 : (∀ (τ_341 : LawS), Ok (fL_goesBack_j341 τ_341) Qf → J X K 12 False QQ 143 858 2064 (jl K τ_341) 341 [] []) := by
    intro τ_341 h
    unfold fL_goesBack_j341 at h
    refine J_iconst (v := 0) C (by decide) dL_goesBack_341 rfl ?_
    rw [← hQQ]
    exact J_zret C hret rfl (Nat.le_of_ble_eq_true rfl) (Nat.le_of_ble_eq_true rfl) ⟨_, h.osome, rfl, rfl, rfl⟩ dL_goesBack_342
  have hj_306 : (∀ (τ_306 : LawS) (l8_306 : Int32) (l9_306 : Int32), Ok (fL_goesBack_j306 τ_306 l8_306 l9_306) Qf → J X K 12 False QQ 132 792 2064 (jl K τ_306) 306 [(0, .ref (K.2.2 + 47)), (2, .ref (K.2.2 + 1)), (3, .ref (K.2.2 + 42)), (8, .int l8_306), (9, .int l9_306)] []) := by
    intro τ_306 l8_306 l9_306 h
    unfold fL_goesBack_j306 at h
    refine loop_room (S := LawS × Int32) (P := fun m_306 s_306 => ∀ k_306 : Nat, k_306 + m_306 * 1 ≤ 143 → J X K 12 False QQ k_306 (6 * k_306) 2064 (jl K s_306.1) 306 [(0, .ref (K.2.2 + 47)), (2, .ref (K.2.2 + 1)), (3, .ref (K.2.2 + 42)), (8, .int l8_306), (9, .int s_306.2)] []) ?_ 11 (τ_306, l9_306) (Ok.ofbnd h) 132 (by omega)
    intro m_306 B_306 hB_306 hE_306 s_306 h k_306 hk_306
    obtain ⟨τ_306, l9_306⟩ := s_306
    have h : Ok (fL_goesBack_b306 τ_306 l8_306 l9_306) B_306 := h
    change J X K 12 False QQ k_306 (6 * k_306) 2064 (jl K τ_306) 306 [(0, .ref (K.2.2 + 47)), (2, .ref (K.2.2 + 1)), (3, .ref (K.2.2 + 42)), (8, .int l8_306), (9, .int l9_306)] []
    unfold fL_goesBack_b306 at h
    refine J_iload (i := 9) (p := 4) C dL_goesBack_306 rfl rfl ?_
    refine J_iload (i := 8) (p := 3) C dL_goesBack_308 rfl rfl ?_
    refine J_icmp_gt (t := 349) C dL_goesBack_310 (by decide) rfl (fun c_2 => ?_) (fun c_2 => ?_)
    · have h := h.pos c_2
      have h := hE_306 (Sum.inl τ_306) h.osome
      try dsimp only at h
      refine J.widen (k' := 143) (sl' := 858) (by omega) (by omega) ?_
      refine J_iload (i := 8) (p := 3) C dL_goesBack_349 rfl rfl ?_
      refine J_if_eq (t := 411) C dL_goesBack_351 (by decide) rfl (fun c_3 => ?_) (fun c_3 => ?_)
      · have h := h.pos c_3
        refine J.widen (k' := 145) (sl' := 870) (Nat.le_of_ble_eq_true rfl) (Nat.le_of_ble_eq_true rfl) ?_
        refine J.sub [] rfl ?_
        exact hj_411 τ_306 h
      · have h := h.neg c_3
        refine J_aload_n (i := 0) (p := 0) C dL_goesBack_354 rfl rfl rfl ?_
        refine J_bipush (v := 10) C (by decide) dL_goesBack_355 rfl ?_
        refine J_iload (i := 8) (p := 3) C dL_goesBack_357 rfl rfl ?_
        refine J_iconst (v := 0) C (by decide) dL_goesBack_359 rfl ?_
        refine J_iconst (v := 0) C (by decide) dL_goesBack_360 rfl ?_
        refine Jl_cH (rest := []) (st9 := fun p_4 => [.int p_4.1]) C hR hX ch_RL_174 (kL_done hl  (Ok.ofbnd h)) rfl rfl (Nat.le_of_ble_eq_true rfl) (Nat.le_of_ble_eq_true rfl) (Nat.le_of_ble_eq_true rfl) ⟨(Nat.le_of_ble_eq_true rfl), (Nat.le_of_ble_eq_true rfl)⟩ dL_goesBack_361 rfl (fun _ => rfl) (fun p_4 h => ?_)
        have h : Ok _ _ := h
        change J X K 12 False QQ 144 864 2064 (jl K p_4.2) 364 [(0, .ref (K.2.2 + 47)), (2, .ref (K.2.2 + 1)), (3, .ref (K.2.2 + 42)), (8, .int l8_306), (9, .int l9_306)] [.int p_4.1]
        refine J_iload (i := 8) (p := 3) C dL_goesBack_364 rfl rfl ?_
        refine J_icmp_ne (t := 415) C dL_goesBack_366 (by decide) rfl (fun c_5 => ?_) (fun c_5 => ?_)
        · have h := h.neg c_5
          refine J.widen (k' := 145) (sl' := 870) (Nat.le_of_ble_eq_true rfl) (Nat.le_of_ble_eq_true rfl) ?_
          refine J.sub [] rfl ?_
          exact hj_415 p_4.2 h
        · have h := h.pos (Decidable.not_not.mp c_5)
          refine J_aload_n (i := 0) (p := 0) C dL_goesBack_369 rfl rfl rfl ?_
          refine J_aload_n (i := 2) (p := 1) C dL_goesBack_370 rfl rfl rfl ?_
          refine J_bipush (v := 20) C (by decide) dL_goesBack_371 rfl ?_
          refine Jl_aald (r2 := 22) C rfl (by decide) dL_goesBack_373 rfl ?_
          refine J_aload_n (i := 3) (p := 2) C dL_goesBack_374 rfl rfl rfl ?_
          refine Jl_cS (rest := []) (st9 := fun p_6 => [.int p_6.1]) C hR hX cs_RL_178 (kL_isLike hl rfl (Ok.ofbnd h)) rfl rfl (Nat.le_of_ble_eq_true rfl) (Nat.le_of_ble_eq_true rfl) (Nat.le_of_ble_eq_true rfl) ⟨(Nat.le_of_ble_eq_true rfl), (Nat.le_of_ble_eq_true rfl)⟩ dL_goesBack_375 rfl (fun _ => rfl) (fun p_6 h => ?_)
          have h : Ok _ _ := h
          change J X K 12 False QQ 144 864 2064 (jl K p_6.2) 378 [(0, .ref (K.2.2 + 47)), (2, .ref (K.2.2 + 1)), (3, .ref (K.2.2 + 42)), (8, .int l8_306), (9, .int l9_306)] [.int p_6.1]
          refine J_if_eq (t := 415) C dL_goesBack_378 (by decide) rfl (fun c_7 => ?_) (fun c_7 => ?_)
          · have h := h.pos c_7
            refine J.widen (k' := 145) (sl' := 870) (Nat.le_of_ble_eq_true rfl) (Nat.le_of_ble_eq_true rfl) ?_
            refine J.sub [] rfl ?_
            exact hj_415 p_6.2 h
          · have h := h.neg c_7
            refine J_aload_n (i := 0) (p := 0) C dL_goesBack_381 rfl rfl rfl ?_
            refine J_bipush (v := 11) C (by decide) dL_goesBack_382 rfl ?_
            refine J_iload (i := 8) (p := 3) C dL_goesBack_384 rfl rfl ?_
            refine J_iconst (v := 0) C (by decide) dL_goesBack_386 rfl ?_
            refine J_iconst (v := 0) C (by decide) dL_goesBack_387 rfl ?_
            refine Jl_cH (rest := []) (st9 := fun p_8 => [.int p_8.1]) C hR hX ch_RL_174 (kL_done hl  (Ok.ofbnd h)) rfl rfl (Nat.le_of_ble_eq_true rfl) (Nat.le_of_ble_eq_true rfl) (Nat.le_of_ble_eq_true rfl) ⟨(Nat.le_of_ble_eq_true rfl), (Nat.le_of_ble_eq_true rfl)⟩ dL_goesBack_388 rfl (fun _ => rfl) (fun p_8 h => ?_)
            have h : Ok _ _ := h
            change J X K 12 False QQ 145 870 2064 (jl K p_8.2) 391 [(0, .ref (K.2.2 + 47)), (2, .ref (K.2.2 + 1)), (3, .ref (K.2.2 + 42)), (8, .int l8_306), (9, .int l9_306)] [.int p_8.1]
            refine J_iload (i := 8) (p := 3) C dL_goesBack_391 rfl rfl ?_
            refine J_icmp_ne (t := 415) C dL_goesBack_393 (by decide) rfl (fun c_9 => ?_) (fun c_9 => ?_)
            · have h := h.neg c_9
              refine J.sub [] rfl ?_
              exact hj_415 p_8.2 h
            · have h := h.pos (Decidable.not_not.mp c_9)
              refine J_aload_n (i := 0) (p := 0) C dL_goesBack_396 rfl rfl rfl ?_
              refine J_aload_n (i := 2) (p := 1) C dL_goesBack_397 rfl rfl rfl ?_
              refine J_bipush (v := 20) C (by decide) dL_goesBack_398 rfl ?_
              refine J_iload (i := 8) (p := 3) C dL_goesBack_400 rfl rfl ?_
              refine J_iadd C dL_goesBack_402 rfl ?_
              obtain ⟨g_10, h⟩ := Ok.ofgd h
              refine Jl_aald (r2 := 2 + Int32.toNatClampNeg ((20 : Int32) + l8_306)) C rfl g_10 dL_goesBack_403 rfl ?_
              refine J_aload_n (i := 3) (p := 2) C dL_goesBack_404 rfl rfl rfl ?_
              refine Jl_cS (rest := []) (st9 := fun p_11 => [.int p_11.1]) C hR hX cs_RL_178 (kL_isLike hl (kl_row g_10) (Ok.ofbnd h)) rfl rfl (Nat.le_of_ble_eq_true rfl) (Nat.le_of_ble_eq_true rfl) (Nat.le_of_ble_eq_true rfl) ⟨(Nat.le_of_ble_eq_true rfl), (Nat.le_of_ble_eq_true rfl)⟩ dL_goesBack_405 rfl (fun _ => rfl) (fun p_11 h => ?_)
              have h : Ok _ _ := h
              change J X K 12 False QQ 145 870 2064 (jl K p_11.2) 408 [(0, .ref (K.2.2 + 47)), (2, .ref (K.2.2 + 1)), (3, .ref (K.2.2 + 42)), (8, .int l8_306), (9, .int l9_306)] [.int p_11.1]
              refine J_if_eq (t := 415) C dL_goesBack_408 (by decide) rfl (fun c_12 => ?_) (fun c_12 => ?_)
              · have h := h.pos c_12
                refine J.sub [] rfl ?_
                exact hj_415 p_11.2 h
              · have h := h.neg c_12
                refine J.sub [] rfl ?_
                exact hj_411 p_11.2 h
    · have h := h.neg c_2
      refine J_aload_n (i := 0) (p := 0) C dL_goesBack_313 rfl rfl rfl ?_
      refine J_bipush (v := 11) C (by decide) dL_goesBack_314 rfl ?_
      refine J_iconst (v := 1) C (by decide) dL_goesBack_316 rfl ?_
      refine J_iconst (v := 0) C (by decide) dL_goesBack_317 rfl ?_
      refine J_iconst (v := 0) C (by decide) dL_goesBack_318 rfl ?_
      refine Jl_cH (rest := []) (st9 := fun p_13 => [.int p_13.1]) C hR hX ch_RL_174 (kL_done hl  (Ok.ofbnd h)) rfl rfl (Nat.le_of_ble_eq_true rfl) (Nat.le_of_ble_eq_true rfl) (Nat.le_of_ble_eq_true rfl) ⟨(by omega), (by omega)⟩ dL_goesBack_319 rfl (fun _ => rfl) (fun p_13 h => ?_)
      have h : Ok _ _ := h
      refine J.widen (k' := (k_306 + 1)) (sl' := (6 * (k_306 + 1))) (by omega) (by omega) ?_
      change J X K 12 False QQ (k_306 + 1) (6 * (k_306 + 1)) 2064 (jl K p_13.2) 322 [(0, .ref (K.2.2 + 47)), (2, .ref (K.2.2 + 1)), (3, .ref (K.2.2 + 42)), (8, .int l8_306), (9, .int l9_306)] [.int p_13.1]
      refine J_iconst (v := 1) C (by decide) dL_goesBack_322 rfl ?_
      refine J_icmp_ne (t := 341) C dL_goesBack_323 (by decide) rfl (fun c_14 => ?_) (fun c_14 => ?_)
      · have h := h.neg c_14
        have h := hE_306 (Sum.inr p_13.2) h.osome
        try dsimp only at h
        refine J.widen (k' := 143) (sl' := 858) (by omega) (by omega) ?_
        refine J.sub [] rfl ?_
        exact hj_341 p_13.2 h
      · have h := h.pos (Decidable.not_not.mp c_14)
        refine J_aload_n (i := 0) (p := 0) C dL_goesBack_326 rfl rfl rfl ?_
        refine J_aload_n (i := 2) (p := 1) C dL_goesBack_327 rfl rfl rfl ?_
        refine J_bipush (v := 20) C (by decide) dL_goesBack_328 rfl ?_
        refine J_iload (i := 9) (p := 4) C dL_goesBack_330 rfl rfl ?_
        refine J_iadd C dL_goesBack_332 rfl ?_
        obtain ⟨g_15, h⟩ := Ok.ofgd h
        refine Jl_aald (r2 := 2 + Int32.toNatClampNeg ((20 : Int32) + l9_306)) C rfl g_15 dL_goesBack_333 rfl ?_
        refine J_aload_n (i := 3) (p := 2) C dL_goesBack_334 rfl rfl rfl ?_
        refine Jl_cS (rest := []) (st9 := fun p_16 => [.int p_16.1]) C hR hX cs_RL_178 (kL_isLike hl (kl_row g_15) (Ok.ofbnd h)) rfl rfl (Nat.le_of_ble_eq_true rfl) (Nat.le_of_ble_eq_true rfl) (Nat.le_of_ble_eq_true rfl) ⟨(by omega), (by omega)⟩ dL_goesBack_335 rfl (fun _ => rfl) (fun p_16 h => ?_)
        have h : Ok _ _ := h
        change J X K 12 False QQ (k_306 + 1) (6 * (k_306 + 1)) 2064 (jl K p_16.2) 338 [(0, .ref (K.2.2 + 47)), (2, .ref (K.2.2 + 1)), (3, .ref (K.2.2 + 42)), (8, .int l8_306), (9, .int l9_306)] [.int p_16.1]
        refine J_if_ne (t := 343) C dL_goesBack_338 (by decide) rfl (fun c_17 => ?_) (fun c_17 => ?_)
        · have h := h.neg c_17
          obtain ⟨x9_1, e_x9_1, h⟩ := Ok.nm h
          refine J_iincE (i := 9) (p := 4) (lv' := [(9, .int x9_1), (0, .ref (K.2.2 + 47)), (2, .ref (K.2.2 + 1)), (3, .ref (K.2.2 + 42)), (8, .int l8_306)]) C e_x9_1 dL_goesBack_343 rfl (by decide) (Nat.le_of_ble_eq_true rfl) rfl rfl ?_
          refine J_goto (t := 306) C dL_goesBack_346 (by decide) ?_
          refine J.sub [1, 2, 3, 4, 0] rfl ?_
          exact hB_306 (p_16.2, x9_1) h.osome (k_306 + 1) (by omega)
        · have h := h.pos (Decidable.not_not.mp c_17)
          have h := hE_306 (Sum.inr p_16.2) h.osome
          try dsimp only at h
          refine J.widen (k' := 143) (sl' := 858) (by omega) (by omega) ?_
          refine J.sub [] rfl ?_
          exact hj_341 p_16.2 h
  have hj_295 : (∀ (τ_295 : LawS), Ok (fL_goesBack_j295 τ_295) Qf → J X K 12 False QQ 132 792 2064 (jl K τ_295) 295 [] []) := by
    intro τ_295 h
    unfold fL_goesBack_j295 at h
    refine J_iconst (v := 0) C (by decide) dL_goesBack_295 rfl ?_
    rw [← hQQ]
    exact J_zret C hret rfl (Nat.le_of_ble_eq_true rfl) (Nat.le_of_ble_eq_true rfl) ⟨_, h.osome, rfl, rfl, rfl⟩ dL_goesBack_296
  have hj_250 : (∀ (τ_250 : LawS), Ok (fL_goesBack_j250 τ_250) Qf → J X K 12 False QQ 132 792 2064 (jl K τ_250) 250 [] []) := by
    intro τ_250 h
    unfold fL_goesBack_j250 at h
    refine J_iconst (v := 0) C (by decide) dL_goesBack_250 rfl ?_
    rw [← hQQ]
    exact J_zret C hret rfl (Nat.le_of_ble_eq_true rfl) (Nat.le_of_ble_eq_true rfl) ⟨_, h.osome, rfl, rfl, rfl⟩ dL_goesBack_251
  have hj_218 : (∀ (τ_218 : LawS) (l6_218 : Int32) (l8_218 : Int32) (l9_218 : Int32), Ok (fL_goesBack_j218 τ_218 l6_218 l8_218 l9_218) Qf → J X K 12 False QQ 121 726 2064 (jl K τ_218) 218 [(0, .ref (K.2.2 + 47)), (2, .ref (K.2.2 + 1)), (3, .ref (K.2.2 + 42)), (6, .int l6_218), (8, .int l8_218), (9, .int l9_218)] []) := by
    intro τ_218 l6_218 l8_218 l9_218 h
    unfold fL_goesBack_j218 at h
    refine loop_room (S := LawS × Int32) (P := fun m_218 s_218 => ∀ k_218 : Nat, k_218 + m_218 * 1 ≤ 132 → J X K 12 False QQ k_218 (6 * k_218) 2064 (jl K s_218.1) 218 [(0, .ref (K.2.2 + 47)), (2, .ref (K.2.2 + 1)), (3, .ref (K.2.2 + 42)), (6, .int l6_218), (8, .int l8_218), (9, .int s_218.2)] []) ?_ 11 (τ_218, l9_218) (Ok.ofbnd h) 121 (by omega)
    intro m_218 B_218 hB_218 hE_218 s_218 h k_218 hk_218
    obtain ⟨τ_218, l9_218⟩ := s_218
    have h : Ok (fL_goesBack_b218 τ_218 l6_218 l8_218 l9_218) B_218 := h
    change J X K 12 False QQ k_218 (6 * k_218) 2064 (jl K τ_218) 218 [(0, .ref (K.2.2 + 47)), (2, .ref (K.2.2 + 1)), (3, .ref (K.2.2 + 42)), (6, .int l6_218), (8, .int l8_218), (9, .int l9_218)] []
    unfold fL_goesBack_b218 at h
    refine J_iload (i := 9) (p := 5) C dL_goesBack_218 rfl rfl ?_
    refine J_if_le (t := 303) C dL_goesBack_220 (by decide) rfl (fun c_28 => ?_) (fun c_28 => ?_)
    · have h := h.pos c_28
      have h := hE_218 (Sum.inl τ_218) h.osome
      try dsimp only at h
      refine J.widen (k' := 132) (sl' := 792) (by omega) (by omega) ?_
      refine J_iconst (v := 1) C (by decide) dL_goesBack_303 rfl ?_
      obtain ⟨x9_2, e_x9_2, h⟩ := Ok.nm h
      refine J_istoreE (i := 9) (lv' := [(9, .int x9_2), (0, .ref (K.2.2 + 47)), (2, .ref (K.2.2 + 1)), (3, .ref (K.2.2 + 42)), (6, .int l6_218), (8, .int l8_218)]) C e_x9_2 dL_goesBack_304 (Nat.le_of_ble_eq_true rfl) rfl rfl ?_
      refine J.sub [1, 2, 3, 5, 0] rfl ?_
      exact hj_306 τ_218 l8_218 x9_2 h
    · have h := h.neg c_28
      refine J_aload_n (i := 0) (p := 0) C dL_goesBack_223 rfl rfl rfl ?_
      refine J_bipush (v := 10) C (by decide) dL_goesBack_224 rfl ?_
      refine J_iconst (v := 1) C (by decide) dL_goesBack_226 rfl ?_
      refine J_iconst (v := 0) C (by decide) dL_goesBack_227 rfl ?_
      refine J_iconst (v := 0) C (by decide) dL_goesBack_228 rfl ?_
      refine Jl_cH (rest := []) (st9 := fun p_29 => [.int p_29.1]) C hR hX ch_RL_174 (kL_done hl  (Ok.ofbnd h)) rfl rfl (Nat.le_of_ble_eq_true rfl) (Nat.le_of_ble_eq_true rfl) (Nat.le_of_ble_eq_true rfl) ⟨(by omega), (by omega)⟩ dL_goesBack_229 rfl (fun _ => rfl) (fun p_29 h => ?_)
      have h : Ok _ _ := h
      refine J.widen (k' := (k_218 + 1)) (sl' := (6 * (k_218 + 1))) (by omega) (by omega) ?_
      change J X K 12 False QQ (k_218 + 1) (6 * (k_218 + 1)) 2064 (jl K p_29.2) 232 [(0, .ref (K.2.2 + 47)), (2, .ref (K.2.2 + 1)), (3, .ref (K.2.2 + 42)), (6, .int l6_218), (8, .int l8_218), (9, .int l9_218)] [.int p_29.1]
      refine J_iconst (v := 1) C (by decide) dL_goesBack_232 rfl ?_
      refine J_icmp_ne (t := 250) C dL_goesBack_233 (by decide) rfl (fun c_30 => ?_) (fun c_30 => ?_)
      · have h := h.neg c_30
        have h := hE_218 (Sum.inr (Sum.inl p_29.2)) h.osome
        try dsimp only at h
        refine J.widen (k' := 132) (sl' := 792) (by omega) (by omega) ?_
        refine J.sub [] rfl ?_
        exact hj_250 p_29.2 h
      · have h := h.pos (Decidable.not_not.mp c_30)
        refine J_aload_n (i := 0) (p := 0) C dL_goesBack_236 rfl rfl rfl ?_
        refine J_aload_n (i := 2) (p := 1) C dL_goesBack_237 rfl rfl rfl ?_
        refine J_iload (i := 9) (p := 5) C dL_goesBack_238 rfl rfl ?_
        refine J_iconst (v := 1) C (by decide) dL_goesBack_240 rfl ?_
        refine J_isub C dL_goesBack_241 rfl ?_
        obtain ⟨g_31, h⟩ := Ok.ofgd h
        refine Jl_aald (r2 := 2 + Int32.toNatClampNeg (l9_218 - (1 : Int32))) C rfl g_31 dL_goesBack_242 rfl ?_
        refine J_aload_n (i := 3) (p := 2) C dL_goesBack_243 rfl rfl rfl ?_
        refine Jl_cS (rest := []) (st9 := fun p_32 => [.int p_32.1]) C hR hX cs_RL_178 (kL_isLike hl (kl_row g_31) (Ok.ofbnd h)) rfl rfl (Nat.le_of_ble_eq_true rfl) (Nat.le_of_ble_eq_true rfl) (Nat.le_of_ble_eq_true rfl) ⟨(by omega), (by omega)⟩ dL_goesBack_244 rfl (fun _ => rfl) (fun p_32 h => ?_)
        have h : Ok _ _ := h
        change J X K 12 False QQ (k_218 + 1) (6 * (k_218 + 1)) 2064 (jl K p_32.2) 247 [(0, .ref (K.2.2 + 47)), (2, .ref (K.2.2 + 1)), (3, .ref (K.2.2 + 42)), (6, .int l6_218), (8, .int l8_218), (9, .int l9_218)] [.int p_32.1]
        refine J_if_ne (t := 252) C dL_goesBack_247 (by decide) rfl (fun c_33 => ?_) (fun c_33 => ?_)
        · have h := h.neg c_33
          refine J_aload_n (i := 0) (p := 0) C dL_goesBack_252 rfl rfl rfl ?_
          refine J_aload_n (i := 2) (p := 1) C dL_goesBack_253 rfl rfl rfl ?_
          refine J_bipush (v := 20) C (by decide) dL_goesBack_254 rfl ?_
          refine J_iload (i := 9) (p := 5) C dL_goesBack_256 rfl rfl ?_
          refine J_iadd C dL_goesBack_258 rfl ?_
          refine J_iconst (v := 1) C (by decide) dL_goesBack_259 rfl ?_
          refine J_isub C dL_goesBack_260 rfl ?_
          obtain ⟨g_34, h⟩ := Ok.ofgd h
          refine Jl_aald (r2 := 2 + Int32.toNatClampNeg (((20 : Int32) + l9_218) - (1 : Int32))) C rfl g_34 dL_goesBack_261 rfl ?_
          refine Jl_cS (rest := []) (st9 := fun p_35 => []) C hR hX cs_RL_151 (kL_sees hl (kl_row g_34) (Ok.ofbnd h)) rfl rfl (Nat.le_of_ble_eq_true rfl) (Nat.le_of_ble_eq_true rfl) (Nat.le_of_ble_eq_true rfl) ⟨(by omega), (by omega)⟩ dL_goesBack_262 rfl (fun _ => rfl) (fun p_35 h => ?_)
          have h : Ok _ _ := h
          change J X K 12 False QQ (k_218 + 1) (6 * (k_218 + 1)) 2064 (jl K p_35) 265 [(0, .ref (K.2.2 + 47)), (2, .ref (K.2.2 + 1)), (3, .ref (K.2.2 + 42)), (6, .int l6_218), (8, .int l8_218), (9, .int l9_218)] []
          refine J_aload_n (i := 0) (p := 0) C dL_goesBack_265 rfl rfl rfl ?_
          refine J_iconst (v := 1) C (by decide) dL_goesBack_266 rfl ?_
          refine Jl_cV (rest := []) (st9 := fun p_36 => [.int p_36.1]) (wd := fun p_36 => p_36.2) C hR hX cv_RL_189 (k11_acts_n hl (Ok.ofnox h) (fun c hc => hc)) rfl rfl (Nat.le_of_ble_eq_true rfl) (Nat.le_of_ble_eq_true rfl) (Nat.le_of_ble_eq_true rfl) ⟨(by omega), (by omega)⟩ dL_goesBack_267 rfl (fun E n9 w9 hx => hx.elim) (fun _ => rfl) (fun p_36 h => ?_)
          have h : Ok _ _ := h
          change J X K 12 False QQ (k_218 + 1) (6 * (k_218 + 1)) 2064 (jl K (p_35.1, p_36.2)) 270 [(0, .ref (K.2.2 + 47)), (2, .ref (K.2.2 + 1)), (3, .ref (K.2.2 + 42)), (6, .int l6_218), (8, .int l8_218), (9, .int l9_218)] [.int p_36.1]
          refine J_iload (i := 6) (p := 3) C dL_goesBack_270 rfl rfl ?_
          refine J_iload (i := 9) (p := 5) C dL_goesBack_272 rfl rfl ?_
          refine J_iadd C dL_goesBack_274 rfl ?_
          refine J_iconst (v := 1) C (by decide) dL_goesBack_275 rfl ?_
          refine J_isub C dL_goesBack_276 rfl ?_
          refine J_icmp_ne (t := 295) C dL_goesBack_277 (by decide) rfl (fun c_37 => ?_) (fun c_37 => ?_)
          · have h := h.neg c_37
            have h := hE_218 (Sum.inr (Sum.inr (p_35.1, p_36.2))) h.osome
            try dsimp only at h
            refine J.widen (k' := 132) (sl' := 792) (by omega) (by omega) ?_
            refine J.sub [] rfl ?_
            exact hj_295 (p_35.1, p_36.2) h
          · have h := h.pos (Decidable.not_not.mp c_37)
            refine J_aload_n (i := 0) (p := 0) C dL_goesBack_280 rfl rfl rfl ?_
            refine J_iconst (v := 2) C (by decide) dL_goesBack_281 rfl ?_
            refine Jl_cV (rest := []) (st9 := fun p_38 => [.int p_38.1]) (wd := fun p_38 => p_38.2) C hR hX cv_RL_189 (k11_acts_n hl (Ok.ofnox h) (fun c hc => hc)) rfl rfl (Nat.le_of_ble_eq_true rfl) (Nat.le_of_ble_eq_true rfl) (Nat.le_of_ble_eq_true rfl) ⟨(by omega), (by omega)⟩ dL_goesBack_282 rfl (fun E n9 w9 hx => hx.elim) (fun _ => rfl) (fun p_38 h => ?_)
            have h : Ok _ _ := h
            change J X K 12 False QQ (k_218 + 1) (6 * (k_218 + 1)) 2064 (jl K (p_35.1, p_38.2)) 285 [(0, .ref (K.2.2 + 47)), (2, .ref (K.2.2 + 1)), (3, .ref (K.2.2 + 42)), (6, .int l6_218), (8, .int l8_218), (9, .int l9_218)] [.int p_38.1]
            refine J_iload (i := 8) (p := 4) C dL_goesBack_285 rfl rfl ?_
            refine J_iload (i := 9) (p := 5) C dL_goesBack_287 rfl rfl ?_
            refine J_isub C dL_goesBack_289 rfl ?_
            refine J_iconst (v := 1) C (by decide) dL_goesBack_290 rfl ?_
            refine J_iadd C dL_goesBack_291 rfl ?_
            refine J_icmp_ge (t := 297) C dL_goesBack_292 (by decide) rfl (fun c_39 => ?_) (fun c_39 => ?_)
            · have h := h.pos c_39
              obtain ⟨x9_3, e_x9_3, h⟩ := Ok.nm h
              refine J_iincE (i := 9) (p := 5) (lv' := [(9, .int x9_3), (0, .ref (K.2.2 + 47)), (2, .ref (K.2.2 + 1)), (3, .ref (K.2.2 + 42)), (6, .int l6_218), (8, .int l8_218)]) C e_x9_3 dL_goesBack_297 rfl (by decide) (Nat.le_of_ble_eq_true rfl) rfl rfl ?_
              refine J_goto (t := 218) C dL_goesBack_300 (by decide) ?_
              refine J.sub [1, 2, 3, 4, 5, 0] rfl ?_
              exact hB_218 ((p_35.1, p_38.2), x9_3) h.osome (k_218 + 1) (by omega)
            · have h := h.neg c_39
              have h := hE_218 (Sum.inr (Sum.inr (p_35.1, p_38.2))) h.osome
              try dsimp only at h
              refine J.widen (k' := 132) (sl' := 792) (by omega) (by omega) ?_
              refine J.sub [] rfl ?_
              exact hj_295 (p_35.1, p_38.2) h
        · have h := h.pos (Decidable.not_not.mp c_33)
          have h := hE_218 (Sum.inr (Sum.inl p_32.2)) h.osome
          try dsimp only at h
          refine J.widen (k' := 132) (sl' := 792) (by omega) (by omega) ?_
          refine J.sub [] rfl ?_
          exact hj_250 p_32.2 h
  have hj_167 : (∀ (τ_167 : LawS), Ok (fL_goesBack_j167 τ_167) Qf → J X K 12 False QQ 121 726 2064 (jl K τ_167) 167 [] []) := by
    intro τ_167 h
    unfold fL_goesBack_j167 at h
    refine J_iconst (v := 0) C (by decide) dL_goesBack_167 rfl ?_
    rw [← hQQ]
    exact J_zret C hret rfl (Nat.le_of_ble_eq_true rfl) (Nat.le_of_ble_eq_true rfl) ⟨_, h.osome, rfl, rfl, rfl⟩ dL_goesBack_168
  have hj_22 : (∀ (τ_22 : LawS) (l6_22 : Int32) (l7_22 : Int32) (l8_22 : Int32) (l9_22 : Int32), Ok (fL_goesBack_j22 τ_22 l6_22 l7_22 l8_22 l9_22) Qf → J X K 12 False QQ 0 0 2064 (jl K τ_22) 22 [(0, .ref (K.2.2 + 47)), (1, .ref (K.2.2 + 0)), (2, .ref (K.2.2 + 1)), (3, .ref (K.2.2 + 42)), (4, .ref (K.2.2 + 43)), (5, .ref (K.2.2 + 45)), (6, .int l6_22), (7, .int l7_22), (8, .int l8_22), (9, .int l9_22)] []) := by
    intro τ_22 l6_22 l7_22 l8_22 l9_22 h
    unfold fL_goesBack_j22 at h
    refine loop_room (S := LawS × Int32 × Int32) (P := fun m_22 s_22 => ∀ k_22 : Nat, k_22 + m_22 * 11 ≤ 121 → J X K 12 False QQ k_22 (6 * k_22) 2064 (jl K s_22.1) 22 [(0, .ref (K.2.2 + 47)), (1, .ref (K.2.2 + 0)), (2, .ref (K.2.2 + 1)), (3, .ref (K.2.2 + 42)), (4, .ref (K.2.2 + 43)), (5, .ref (K.2.2 + 45)), (6, .int l6_22), (7, .int l7_22), (8, .int s_22.2.1), (9, .int s_22.2.2)] []) ?_ 11 (τ_22, l8_22, l9_22) (Ok.ofbnd h) 0 (by omega)
    intro m_22 B_22 hB_22 hE_22 s_22 h k_22 hk_22
    obtain ⟨τ_22, l8_22, l9_22⟩ := s_22
    have h : Ok (fL_goesBack_b22 τ_22 l6_22 l7_22 l8_22 l9_22) B_22 := h
    change J X K 12 False QQ k_22 (6 * k_22) 2064 (jl K τ_22) 22 [(0, .ref (K.2.2 + 47)), (1, .ref (K.2.2 + 0)), (2, .ref (K.2.2 + 1)), (3, .ref (K.2.2 + 42)), (4, .ref (K.2.2 + 43)), (5, .ref (K.2.2 + 45)), (6, .int l6_22), (7, .int l7_22), (8, .int l8_22), (9, .int l9_22)] []
    have hj_197 : (∀ (τ_197 : LawS) (l8_197 : Int32) (l9_197 : Int32), Ok (fL_goesBack_j197 l6_22 l7_22 τ_197 l8_197 l9_197) B_22 → J X K 12 False QQ (k_22 + 11) (6 * (k_22 + 11)) 2064 (jl K τ_197) 197 [(0, .ref (K.2.2 + 47)), (1, .ref (K.2.2 + 0)), (2, .ref (K.2.2 + 1)), (3, .ref (K.2.2 + 42)), (4, .ref (K.2.2 + 43)), (5, .ref (K.2.2 + 45)), (6, .int l6_22), (7, .int l7_22), (8, .int l8_197), (9, .int l9_197)] []) := by
      intro τ_197 l8_197 l9_197 h
      unfold fL_goesBack_j197 at h
      obtain ⟨x9_5, e_x9_5, h⟩ := Ok.nm h
      refine J_iincE (i := 9) (p := 9) (lv' := [(9, .int x9_5), (0, .ref (K.2.2 + 47)), (1, .ref (K.2.2 + 0)), (2, .ref (K.2.2 + 1)), (3, .ref (K.2.2 + 42)), (4, .ref (K.2.2 + 43)), (5, .ref (K.2.2 + 45)), (6, .int l6_22), (7, .int l7_22), (8, .int l8_197)]) C e_x9_5 dL_goesBack_197 rfl (by decide) (Nat.le_of_ble_eq_true rfl) rfl rfl ?_
      refine J_goto (t := 22) C dL_goesBack_200 (by decide) ?_
      refine J.sub [1, 2, 3, 4, 5, 6, 7, 8, 9, 0] rfl ?_
      exact hB_22 (τ_197, l8_197, x9_5) h.osome (k_22 + 11) (by omega)
    have hj_169 : (∀ (τ_169 : LawS) (l8_169 : Int32) (l9_169 : Int32) (l11_169 : Int32), Ok (fL_goesBack_j169 l6_22 l7_22 τ_169 l8_169 l9_169 l11_169) B_22 → J X K 12 False QQ (k_22 + 10) (6 * (k_22 + 10)) 2064 (jl K τ_169) 169 [(0, .ref (K.2.2 + 47)), (1, .ref (K.2.2 + 0)), (2, .ref (K.2.2 + 1)), (3, .ref (K.2.2 + 42)), (4, .ref (K.2.2 + 43)), (5, .ref (K.2.2 + 45)), (6, .int l6_22), (7, .int l7_22), (8, .int l8_169), (9, .int l9_169), (11, .int l11_169)] []) := by
      intro τ_169 l8_169 l9_169 l11_169 h
      unfold fL_goesBack_j169 at h
      refine J_iload (i := 8) (p := 8) C dL_goesBack_169 rfl rfl ?_
      refine J_iload (i := 11) (p := 10) C dL_goesBack_171 rfl rfl ?_
      refine J_iadd C dL_goesBack_173 rfl ?_
      obtain ⟨x8_6, e_x8_6, h⟩ := Ok.nm h
      refine J_istoreE (i := 8) (lv' := [(8, .int x8_6), (0, .ref (K.2.2 + 47)), (1, .ref (K.2.2 + 0)), (2, .ref (K.2.2 + 1)), (3, .ref (K.2.2 + 42)), (4, .ref (K.2.2 + 43)), (5, .ref (K.2.2 + 45)), (6, .int l6_22), (7, .int l7_22), (9, .int l9_169), (11, .int l11_169)]) C e_x8_6 dL_goesBack_174 (Nat.le_of_ble_eq_true rfl) rfl rfl ?_
      refine J_aload_n (i := 1) (p := 2) C dL_goesBack_176 rfl rfl rfl ?_
      refine Jl_cS (rest := []) (st9 := fun p_40 => [.int p_40.1]) C hR hX cs_RL_8 (kL_next hl  (Ok.ofbnd h)) rfl rfl (Nat.le_of_ble_eq_true rfl) (Nat.le_of_ble_eq_true rfl) (Nat.le_of_ble_eq_true rfl) ⟨(by omega), (by omega)⟩ dL_goesBack_177 rfl (fun _ => rfl) (fun p_40 h => ?_)
      have h : Ok _ _ := h
      change J X K 12 False QQ (k_22 + 10) (6 * (k_22 + 10)) 2064 (jl K p_40.2) 180 [(8, .int x8_6), (0, .ref (K.2.2 + 47)), (1, .ref (K.2.2 + 0)), (2, .ref (K.2.2 + 1)), (3, .ref (K.2.2 + 42)), (4, .ref (K.2.2 + 43)), (5, .ref (K.2.2 + 45)), (6, .int l6_22), (7, .int l7_22), (9, .int l9_169), (11, .int l11_169)] [.int p_40.1]
      refine J_iconst (v := 3) C (by decide) dL_goesBack_180 rfl ?_
      refine J_irem C (by decide) dL_goesBack_181 rfl ?_
      refine J_if_ne (t := 197) C dL_goesBack_182 (by decide) rfl (fun c_41 => ?_) (fun c_41 => ?_)
      · have h := h.neg c_41
        refine J.widen (k' := (k_22 + 11)) (sl' := (6 * (k_22 + 11))) (by omega) (by omega) ?_
        refine J.sub [1, 2, 3, 4, 5, 6, 7, 8, 0, 9] rfl ?_
        exact hj_197 p_40.2 x8_6 l9_169 h
      · have h := h.pos (Decidable.not_not.mp c_41)
        refine J_aload_n (i := 0) (p := 1) C dL_goesBack_185 rfl rfl rfl ?_
        refine J_aload_n (i := 1) (p := 2) C dL_goesBack_186 rfl rfl rfl ?_
        refine J_aload (i := 5) (p := 6) C dL_goesBack_187 rfl rfl ?_
        refine Jl_cS (rest := []) (st9 := fun p_42 => [.int p_42.1]) C hR hX cs_RL_196 (kL_moves hl  (Ok.ofbnd h)) rfl rfl (Nat.le_of_ble_eq_true rfl) (Nat.le_of_ble_eq_true rfl) (Nat.le_of_ble_eq_true rfl) ⟨(by omega), (by omega)⟩ dL_goesBack_189 rfl (fun _ => rfl) (fun p_42 h => ?_)
        have h : Ok _ _ := h
        refine J.widen (k' := (k_22 + 11)) (sl' := (6 * (k_22 + 11))) (by omega) (by omega) ?_
        change J X K 12 False QQ (k_22 + 11) (6 * (k_22 + 11)) 2064 (jl K p_42.2) 192 [(8, .int x8_6), (0, .ref (K.2.2 + 47)), (1, .ref (K.2.2 + 0)), (2, .ref (K.2.2 + 1)), (3, .ref (K.2.2 + 42)), (4, .ref (K.2.2 + 43)), (5, .ref (K.2.2 + 45)), (6, .int l6_22), (7, .int l7_22), (9, .int l9_169), (11, .int l11_169)] [.int p_42.1]
        refine J_if_ne (t := 197) C dL_goesBack_192 (by decide) rfl (fun c_43 => ?_) (fun c_43 => ?_)
        · have h := h.neg c_43
          refine J.sub [1, 2, 3, 4, 5, 6, 7, 8, 0, 9] rfl ?_
          exact hj_197 p_42.2 x8_6 l9_169 h
        · have h := h.pos (Decidable.not_not.mp c_43)
          have h := hE_22 (Sum.inr (Sum.inr (Sum.inr (Sum.inr (Sum.inr p_42.2))))) h.osome
          try dsimp only at h
          refine J.widen (k' := 121) (sl' := 726) (by omega) (by omega) ?_
          refine J_iconst (v := 0) C (by decide) dL_goesBack_195 rfl ?_
          rw [← hQQ]
          exact J_zret C hret rfl (Nat.le_of_ble_eq_true rfl) (Nat.le_of_ble_eq_true rfl) ⟨_, h.osome, rfl, rfl, rfl⟩ dL_goesBack_196
    have hj_126 : (∀ (τ_126 : LawS) (l8_126 : Int32) (l9_126 : Int32), Ok (fL_goesBack_j126 l6_22 l7_22 τ_126 l8_126 l9_126) B_22 → J X K 12 False QQ (k_22 + 10) (6 * (k_22 + 10)) 2064 (jl K τ_126) 126 [(0, .ref (K.2.2 + 47)), (1, .ref (K.2.2 + 0)), (2, .ref (K.2.2 + 1)), (3, .ref (K.2.2 + 42)), (4, .ref (K.2.2 + 43)), (5, .ref (K.2.2 + 45)), (6, .int l6_22), (7, .int l7_22), (8, .int l8_126), (9, .int l9_126)] []) := by
      intro τ_126 l8_126 l9_126 h
      unfold fL_goesBack_j126 at h
      refine J_aload_n (i := 0) (p := 0) C dL_goesBack_126 rfl rfl rfl ?_
      refine J_iconst (v := 1) C (by decide) dL_goesBack_127 rfl ?_
      refine Jl_cV (rest := []) (st9 := fun p_44 => [.int p_44.1]) (wd := fun p_44 => p_44.2) C hR hX cv_RL_189 (k11_acts_n hl (Ok.ofnox h) (fun c hc => hc)) rfl rfl (Nat.le_of_ble_eq_true rfl) (Nat.le_of_ble_eq_true rfl) (Nat.le_of_ble_eq_true rfl) ⟨(by omega), (by omega)⟩ dL_goesBack_128 rfl (fun E n9 w9 hx => hx.elim) (fun _ => rfl) (fun p_44 h => ?_)
      have h : Ok _ _ := h
      change J X K 12 False QQ (k_22 + 10) (6 * (k_22 + 10)) 2064 (jl K (τ_126.1, p_44.2)) 131 [(0, .ref (K.2.2 + 47)), (1, .ref (K.2.2 + 0)), (2, .ref (K.2.2 + 1)), (3, .ref (K.2.2 + 42)), (4, .ref (K.2.2 + 43)), (5, .ref (K.2.2 + 45)), (6, .int l6_22), (7, .int l7_22), (8, .int l8_126), (9, .int l9_126)] [.int p_44.1]
      refine J_iload (i := 6) (p := 6) C dL_goesBack_131 rfl rfl ?_
      refine J_isub C dL_goesBack_133 rfl ?_
      refine J_iload (i := 8) (p := 8) C dL_goesBack_134 rfl rfl ?_
      refine J_isub C dL_goesBack_136 rfl ?_
      obtain ⟨x11_7, e_x11_7, h⟩ := Ok.nm h
      refine J_istoreE (i := 11) (lv' := [(11, .int x11_7), (0, .ref (K.2.2 + 47)), (1, .ref (K.2.2 + 0)), (2, .ref (K.2.2 + 1)), (3, .ref (K.2.2 + 42)), (4, .ref (K.2.2 + 43)), (5, .ref (K.2.2 + 45)), (6, .int l6_22), (7, .int l7_22), (8, .int l8_126), (9, .int l9_126)]) C e_x11_7 dL_goesBack_137 (Nat.le_of_ble_eq_true rfl) rfl rfl ?_
      refine J_iload (i := 11) (p := 0) C dL_goesBack_139 rfl rfl ?_
      refine J_if_lt (t := 167) C dL_goesBack_141 (by decide) rfl (fun c_45 => ?_) (fun c_45 => ?_)
      · have h := h.pos c_45
        have h := hE_22 (Sum.inr (Sum.inr (Sum.inr (Sum.inr (Sum.inl (τ_126.1, p_44.2)))))) h.osome
        try dsimp only at h
        refine J.widen (k' := 121) (sl' := 726) (by omega) (by omega) ?_
        refine J.sub [] rfl ?_
        exact hj_167 (τ_126.1, p_44.2) h
      · have h := h.neg c_45
        refine J_iload (i := 11) (p := 0) C dL_goesBack_144 rfl rfl ?_
        refine J_iconst (v := 1) C (by decide) dL_goesBack_146 rfl ?_
        refine J_icmp_gt (t := 167) C dL_goesBack_147 (by decide) rfl (fun c_46 => ?_) (fun c_46 => ?_)
        · have h := h.pos c_46
          have h := hE_22 (Sum.inr (Sum.inr (Sum.inr (Sum.inr (Sum.inl (τ_126.1, p_44.2)))))) h.osome
          try dsimp only at h
          refine J.widen (k' := 121) (sl' := 726) (by omega) (by omega) ?_
          refine J.sub [] rfl ?_
          exact hj_167 (τ_126.1, p_44.2) h
        · have h := h.neg c_46
          refine J_iload (i := 11) (p := 0) C dL_goesBack_150 rfl rfl ?_
          refine J_if_ne (t := 169) C dL_goesBack_152 (by decide) rfl (fun c_47 => ?_) (fun c_47 => ?_)
          · have h := h.neg c_47
            refine J.sub [1, 2, 3, 4, 5, 6, 7, 8, 9, 10, 0] rfl ?_
            exact hj_169 (τ_126.1, p_44.2) l8_126 l9_126 x11_7 h
          · have h := h.pos (Decidable.not_not.mp c_47)
            refine J_aload_n (i := 0) (p := 1) C dL_goesBack_155 rfl rfl rfl ?_
            refine J_aload_n (i := 2) (p := 3) C dL_goesBack_156 rfl rfl rfl ?_
            refine J_iload (i := 8) (p := 9) C dL_goesBack_157 rfl rfl ?_
            obtain ⟨g_48, h⟩ := Ok.ofgd h
            refine Jl_aald (r2 := 2 + Int32.toNatClampNeg l8_126) C rfl g_48 dL_goesBack_159 rfl ?_
            refine J_aload_n (i := 3) (p := 4) C dL_goesBack_160 rfl rfl rfl ?_
            refine Jl_cS (rest := []) (st9 := fun p_49 => [.int p_49.1]) C hR hX cs_RL_178 (kL_isLike hl (kl_row g_48) (Ok.ofbnd h)) rfl rfl (Nat.le_of_ble_eq_true rfl) (Nat.le_of_ble_eq_true rfl) (Nat.le_of_ble_eq_true rfl) ⟨(by omega), (by omega)⟩ dL_goesBack_161 rfl (fun _ => rfl) (fun p_49 h => ?_)
            have h : Ok _ _ := h
            change J X K 12 False QQ (k_22 + 10) (6 * (k_22 + 10)) 2064 (jl K p_49.2) 164 [(11, .int x11_7), (0, .ref (K.2.2 + 47)), (1, .ref (K.2.2 + 0)), (2, .ref (K.2.2 + 1)), (3, .ref (K.2.2 + 42)), (4, .ref (K.2.2 + 43)), (5, .ref (K.2.2 + 45)), (6, .int l6_22), (7, .int l7_22), (8, .int l8_126), (9, .int l9_126)] [.int p_49.1]
            refine J_if_ne (t := 169) C dL_goesBack_164 (by decide) rfl (fun c_50 => ?_) (fun c_50 => ?_)
            · have h := h.neg c_50
              refine J.sub [1, 2, 3, 4, 5, 6, 7, 8, 9, 10, 0] rfl ?_
              exact hj_169 p_49.2 l8_126 l9_126 x11_7 h
            · have h := h.pos (Decidable.not_not.mp c_50)
              have h := hE_22 (Sum.inr (Sum.inr (Sum.inr (Sum.inr (Sum.inl p_49.2))))) h.osome
              try dsimp only at h
              refine J.widen (k' := 121) (sl' := 726) (by omega) (by omega) ?_
              refine J.sub [] rfl ?_
              exact hj_167 p_49.2 h
    have hj_76 : (∀ (τ_76 : LawS) (l8_76 : Int32) (l9_76 : Int32) (l10_76 : Int32) (l11_76 : Int32), Ok (fL_goesBack_j76 l6_22 l7_22 τ_76 l8_76 l9_76 l10_76 l11_76) B_22 → J X K 12 False QQ (k_22 + 1) (6 * (k_22 + 1)) 2064 (jl K τ_76) 76 [(0, .ref (K.2.2 + 47)), (1, .ref (K.2.2 + 0)), (2, .ref (K.2.2 + 1)), (3, .ref (K.2.2 + 42)), (4, .ref (K.2.2 + 43)), (5, .ref (K.2.2 + 45)), (6, .int l6_22), (7, .int l7_22), (8, .int l8_76), (9, .int l9_76), (10, .int l10_76), (11, .int l11_76)] []) := by
      intro τ_76 l8_76 l9_76 l10_76 l11_76 h
      unfold fL_goesBack_j76 at h
      refine loop_room (S := LawS × Int32) (P := fun m_76 s_76 => ∀ k_76 : Nat, k_76 + m_76 * 2 ≤ (k_22 + 9) → J X K 12 False QQ k_76 (6 * k_76) 2064 (jl K s_76.1) 76 [(0, .ref (K.2.2 + 47)), (1, .ref (K.2.2 + 0)), (2, .ref (K.2.2 + 1)), (3, .ref (K.2.2 + 42)), (4, .ref (K.2.2 + 43)), (5, .ref (K.2.2 + 45)), (6, .int l6_22), (7, .int l7_22), (8, .int l8_76), (9, .int l9_76), (10, .int l10_76), (11, .int s_76.2)] []) ?_ 4 (τ_76, l11_76) (Ok.ofbnd h) (k_22 + 1) (by omega)
      intro m_76 B_76 hB_76 hE_76 s_76 h k_76 hk_76
      obtain ⟨τ_76, l11_76⟩ := s_76
      have h : Ok (fL_goesBack_b76 l6_22 l7_22 τ_76 l8_76 l9_76 l10_76 l11_76) B_76 := h
      change J X K 12 False QQ k_76 (6 * k_76) 2064 (jl K τ_76) 76 [(0, .ref (K.2.2 + 47)), (1, .ref (K.2.2 + 0)), (2, .ref (K.2.2 + 1)), (3, .ref (K.2.2 + 42)), (4, .ref (K.2.2 + 43)), (5, .ref (K.2.2 + 45)), (6, .int l6_22), (7, .int l7_22), (8, .int l8_76), (9, .int l9_76), (10, .int l10_76), (11, .int l11_76)] []
      unfold fL_goesBack_b76 at h
      refine J_iload (i := 11) (p := 11) C dL_goesBack_76 rfl rfl ?_
      refine J_iconst (v := 2) C (by decide) dL_goesBack_78 rfl ?_
      refine J_iload (i := 10) (p := 10) C dL_goesBack_79 rfl rfl ?_
      refine J_imul C dL_goesBack_81 rfl ?_
      refine J_icmp_gt (t := 105) C dL_goesBack_82 (by decide) rfl (fun c_51 => ?_) (fun c_51 => ?_)
      · have h := h.pos c_51
        have h := hE_76 (Sum.inl τ_76) h.osome
        try dsimp only at h
        refine J.widen (k' := (k_22 + 9)) (sl' := (6 * (k_22 + 9))) (by omega) (by omega) ?_
        refine J_iload (i := 10) (p := 10) C dL_goesBack_105 rfl rfl ?_
        refine J_iconst (v := 1) C (by decide) dL_goesBack_107 rfl ?_
        refine J_icmp_ne (t := 126) C dL_goesBack_108 (by decide) rfl (fun c_52 => ?_) (fun c_52 => ?_)
        · have h := h.neg c_52
          refine J.widen (k' := (k_22 + 10)) (sl' := (6 * (k_22 + 10))) (by omega) (by omega) ?_
          refine J.sub [0, 1, 2, 3, 4, 5, 6, 7, 8, 9] rfl ?_
          exact hj_126 τ_76 l8_76 l9_76 h
        · have h := h.pos (Decidable.not_not.mp c_52)
          refine J_aload_n (i := 0) (p := 0) C dL_goesBack_111 rfl rfl rfl ?_
          refine J_bipush (v := 13) C (by decide) dL_goesBack_112 rfl ?_
          refine J_iconst (v := 0) C (by decide) dL_goesBack_114 rfl ?_
          refine J_iconst (v := 0) C (by decide) dL_goesBack_115 rfl ?_
          refine J_iconst (v := 0) C (by decide) dL_goesBack_116 rfl ?_
          refine Jl_cH (rest := []) (st9 := fun p_53 => [.int p_53.1]) C hR hX ch_RL_174 (kL_done hl  (Ok.ofbnd h)) rfl rfl (Nat.le_of_ble_eq_true rfl) (Nat.le_of_ble_eq_true rfl) (Nat.le_of_ble_eq_true rfl) ⟨(by omega), (by omega)⟩ dL_goesBack_117 rfl (fun _ => rfl) (fun p_53 h => ?_)
          have h : Ok _ _ := h
          refine J.widen (k' := (k_22 + 10)) (sl' := (6 * (k_22 + 10))) (by omega) (by omega) ?_
          change J X K 12 False QQ (k_22 + 10) (6 * (k_22 + 10)) 2064 (jl K p_53.2) 120 [(0, .ref (K.2.2 + 47)), (1, .ref (K.2.2 + 0)), (2, .ref (K.2.2 + 1)), (3, .ref (K.2.2 + 42)), (4, .ref (K.2.2 + 43)), (5, .ref (K.2.2 + 45)), (6, .int l6_22), (7, .int l7_22), (8, .int l8_76), (9, .int l9_76), (10, .int l10_76), (11, .int l11_76)] [.int p_53.1]
          refine J_iconst (v := 1) C (by decide) dL_goesBack_120 rfl ?_
          refine J_icmp_eq (t := 126) C dL_goesBack_121 (by decide) rfl (fun c_54 => ?_) (fun c_54 => ?_)
          · have h := h.pos c_54
            refine J.sub [0, 1, 2, 3, 4, 5, 6, 7, 8, 9] rfl ?_
            exact hj_126 p_53.2 l8_76 l9_76 h
          · have h := h.neg c_54
            have h := hE_22 (Sum.inr (Sum.inr (Sum.inr (Sum.inl p_53.2)))) h.osome
            try dsimp only at h
            refine J.widen (k' := 121) (sl' := 726) (by omega) (by omega) ?_
            refine J_iconst (v := 0) C (by decide) dL_goesBack_124 rfl ?_
            rw [← hQQ]
            exact J_zret C hret rfl (Nat.le_of_ble_eq_true rfl) (Nat.le_of_ble_eq_true rfl) ⟨_, h.osome, rfl, rfl, rfl⟩ dL_goesBack_125
      · have h := h.neg c_51
        refine J_aload_n (i := 0) (p := 0) C dL_goesBack_85 rfl rfl rfl ?_
        refine J_aload_n (i := 1) (p := 1) C dL_goesBack_86 rfl rfl rfl ?_
        refine J_aload (i := 4) (p := 4) C dL_goesBack_87 rfl rfl ?_
        refine Jl_cS (rest := []) (st9 := fun p_55 => [.int p_55.1]) C hR hX cs_RL_193 (kL_acts hl  (Ok.ofbnd h)) rfl rfl (Nat.le_of_ble_eq_true rfl) (Nat.le_of_ble_eq_true rfl) (Nat.le_of_ble_eq_true rfl) ⟨(by omega), (by omega)⟩ dL_goesBack_89 rfl (fun _ => rfl) (fun p_55 h => ?_)
        have h : Ok _ _ := h
        refine J.widen (k' := (k_76 + 2)) (sl' := (6 * (k_76 + 2))) (by omega) (by omega) ?_
        change J X K 12 False QQ (k_76 + 2) (6 * (k_76 + 2)) 2064 (jl K p_55.2) 92 [(0, .ref (K.2.2 + 47)), (1, .ref (K.2.2 + 0)), (2, .ref (K.2.2 + 1)), (3, .ref (K.2.2 + 42)), (4, .ref (K.2.2 + 43)), (5, .ref (K.2.2 + 45)), (6, .int l6_22), (7, .int l7_22), (8, .int l8_76), (9, .int l9_76), (10, .int l10_76), (11, .int l11_76)] [.int p_55.1]
        refine J_ldc (v := -1000009) C ci_RL_192 dL_goesBack_92 rfl ?_
        refine J_icmp_ne (t := 99) C dL_goesBack_94 (by decide) rfl (fun c_56 => ?_) (fun c_56 => ?_)
        · have h := h.neg c_56
          obtain ⟨x11_8, e_x11_8, h⟩ := Ok.nm h
          refine J_iincE (i := 11) (p := 11) (lv' := [(11, .int x11_8), (0, .ref (K.2.2 + 47)), (1, .ref (K.2.2 + 0)), (2, .ref (K.2.2 + 1)), (3, .ref (K.2.2 + 42)), (4, .ref (K.2.2 + 43)), (5, .ref (K.2.2 + 45)), (6, .int l6_22), (7, .int l7_22), (8, .int l8_76), (9, .int l9_76), (10, .int l10_76)]) C e_x11_8 dL_goesBack_99 rfl (by decide) (Nat.le_of_ble_eq_true rfl) rfl rfl ?_
          refine J_goto (t := 76) C dL_goesBack_102 (by decide) ?_
          refine J.sub [1, 2, 3, 4, 5, 6, 7, 8, 9, 10, 11, 0] rfl ?_
          exact hB_76 (p_55.2, x11_8) h.osome (k_76 + 2) (by omega)
        · have h := h.pos (Decidable.not_not.mp c_56)
          have h := hE_76 (Sum.inr p_55.2) h.osome
          try dsimp only at h
          refine J.widen (k' := (k_22 + 9)) (sl' := (6 * (k_22 + 9))) (by omega) (by omega) ?_
          have h := hE_22 (Sum.inr (Sum.inr (Sum.inl p_55.2))) h.osome
          try dsimp only at h
          refine J.widen (k' := 121) (sl' := 726) (by omega) (by omega) ?_
          refine J_iconst (v := 0) C (by decide) dL_goesBack_97 rfl ?_
          rw [← hQQ]
          exact J_zret C hret rfl (Nat.le_of_ble_eq_true rfl) (Nat.le_of_ble_eq_true rfl) ⟨_, h.osome, rfl, rfl, rfl⟩ dL_goesBack_98
    have hj_73 : (∀ (τ_73 : LawS) (l8_73 : Int32) (l9_73 : Int32) (l10_73 : Int32), Ok (fL_goesBack_j73 l6_22 l7_22 τ_73 l8_73 l9_73 l10_73) B_22 → J X K 12 False QQ (k_22 + 1) (6 * (k_22 + 1)) 2064 (jl K τ_73) 73 [(0, .ref (K.2.2 + 47)), (1, .ref (K.2.2 + 0)), (2, .ref (K.2.2 + 1)), (3, .ref (K.2.2 + 42)), (4, .ref (K.2.2 + 43)), (5, .ref (K.2.2 + 45)), (6, .int l6_22), (7, .int l7_22), (8, .int l8_73), (9, .int l9_73), (10, .int l10_73)] []) := by
      intro τ_73 l8_73 l9_73 l10_73 h
      unfold fL_goesBack_j73 at h
      refine J_iconst (v := 0) C (by decide) dL_goesBack_73 rfl ?_
      obtain ⟨x11_9, e_x11_9, h⟩ := Ok.nm h
      refine J_istoreE (i := 11) (lv' := [(11, .int x11_9), (0, .ref (K.2.2 + 47)), (1, .ref (K.2.2 + 0)), (2, .ref (K.2.2 + 1)), (3, .ref (K.2.2 + 42)), (4, .ref (K.2.2 + 43)), (5, .ref (K.2.2 + 45)), (6, .int l6_22), (7, .int l7_22), (8, .int l8_73), (9, .int l9_73), (10, .int l10_73)]) C e_x11_9 dL_goesBack_74 (Nat.le_of_ble_eq_true rfl) rfl rfl ?_
      refine J.sub [1, 2, 3, 4, 5, 6, 7, 8, 9, 10, 11, 0] rfl ?_
      exact hj_76 τ_73 l8_73 l9_73 l10_73 x11_9 h
    have hj_43 : (∀ (τ_43 : LawS) (l8_43 : Int32) (l9_43 : Int32) (s0_43 : Int32), Ok (fL_goesBack_j43 l6_22 l7_22 τ_43 l8_43 l9_43 s0_43) B_22 → J X K 12 False QQ k_22 (6 * k_22) 2064 (jl K τ_43) 43 [(0, .ref (K.2.2 + 47)), (1, .ref (K.2.2 + 0)), (2, .ref (K.2.2 + 1)), (3, .ref (K.2.2 + 42)), (4, .ref (K.2.2 + 43)), (5, .ref (K.2.2 + 45)), (6, .int l6_22), (7, .int l7_22), (8, .int l8_43), (9, .int l9_43)] [.int s0_43]) := by
      intro τ_43 l8_43 l9_43 s0_43 h
      unfold fL_goesBack_j43 at h
      obtain ⟨x10_10, e_x10_10, h⟩ := Ok.nm h
      refine J_istoreE (i := 10) (lv' := [(10, .int x10_10), (0, .ref (K.2.2 + 47)), (1, .ref (K.2.2 + 0)), (2, .ref (K.2.2 + 1)), (3, .ref (K.2.2 + 42)), (4, .ref (K.2.2 + 43)), (5, .ref (K.2.2 + 45)), (6, .int l6_22), (7, .int l7_22), (8, .int l8_43), (9, .int l9_43)]) C e_x10_10 dL_goesBack_43 (Nat.le_of_ble_eq_true rfl) rfl rfl ?_
      refine J_aload_n (i := 0) (p := 1) C dL_goesBack_45 rfl rfl rfl ?_
      refine J_aload_n (i := 2) (p := 3) C dL_goesBack_46 rfl rfl rfl ?_
      refine J_iload (i := 8) (p := 9) C dL_goesBack_47 rfl rfl ?_
      obtain ⟨g_60, h⟩ := Ok.ofgd h
      refine Jl_aald (r2 := 2 + Int32.toNatClampNeg l8_43) C rfl g_60 dL_goesBack_49 rfl ?_
      refine Jl_cS (rest := []) (st9 := fun p_61 => []) C hR hX cs_RL_151 (kL_sees hl (kl_row g_60) (Ok.ofbnd h)) rfl rfl (Nat.le_of_ble_eq_true rfl) (Nat.le_of_ble_eq_true rfl) (Nat.le_of_ble_eq_true rfl) ⟨(by omega), (by omega)⟩ dL_goesBack_50 rfl (fun _ => rfl) (fun p_61 h => ?_)
      have h : Ok _ _ := h
      change J X K 12 False QQ k_22 (6 * k_22) 2064 (jl K p_61) 53 [(10, .int x10_10), (0, .ref (K.2.2 + 47)), (1, .ref (K.2.2 + 0)), (2, .ref (K.2.2 + 1)), (3, .ref (K.2.2 + 42)), (4, .ref (K.2.2 + 43)), (5, .ref (K.2.2 + 45)), (6, .int l6_22), (7, .int l7_22), (8, .int l8_43), (9, .int l9_43)] []
      refine J_iload (i := 10) (p := 0) C dL_goesBack_53 rfl rfl ?_
      refine J_iconst (v := 1) C (by decide) dL_goesBack_55 rfl ?_
      refine J_icmp_ne (t := 73) C dL_goesBack_56 (by decide) rfl (fun c_62 => ?_) (fun c_62 => ?_)
      · have h := h.neg c_62
        refine J.widen (k' := (k_22 + 1)) (sl' := (6 * (k_22 + 1))) (by omega) (by omega) ?_
        refine J.sub [1, 2, 3, 4, 5, 6, 7, 8, 9, 10, 0] rfl ?_
        exact hj_73 p_61 l8_43 l9_43 x10_10 h
      · have h := h.pos (Decidable.not_not.mp c_62)
        refine J_aload_n (i := 0) (p := 1) C dL_goesBack_59 rfl rfl rfl ?_
        refine J_bipush (v := 13) C (by decide) dL_goesBack_60 rfl ?_
        refine J_iconst (v := 1) C (by decide) dL_goesBack_62 rfl ?_
        refine J_iconst (v := 0) C (by decide) dL_goesBack_63 rfl ?_
        refine J_iconst (v := 0) C (by decide) dL_goesBack_64 rfl ?_
        refine Jl_cH (rest := []) (st9 := fun p_63 => [.int p_63.1]) C hR hX ch_RL_174 (kL_done hl  (Ok.ofbnd h)) rfl rfl (Nat.le_of_ble_eq_true rfl) (Nat.le_of_ble_eq_true rfl) (Nat.le_of_ble_eq_true rfl) ⟨(by omega), (by omega)⟩ dL_goesBack_65 rfl (fun _ => rfl) (fun p_63 h => ?_)
        have h : Ok _ _ := h
        refine J.widen (k' := (k_22 + 1)) (sl' := (6 * (k_22 + 1))) (by omega) (by omega) ?_
        change J X K 12 False QQ (k_22 + 1) (6 * (k_22 + 1)) 2064 (jl K p_63.2) 68 [(10, .int x10_10), (0, .ref (K.2.2 + 47)), (1, .ref (K.2.2 + 0)), (2, .ref (K.2.2 + 1)), (3, .ref (K.2.2 + 42)), (4, .ref (K.2.2 + 43)), (5, .ref (K.2.2 + 45)), (6, .int l6_22), (7, .int l7_22), (8, .int l8_43), (9, .int l9_43)] [.int p_63.1]
        refine J_if_eq (t := 73) C dL_goesBack_68 (by decide) rfl (fun c_64 => ?_) (fun c_64 => ?_)
        · have h := h.pos c_64
          refine J.sub [1, 2, 3, 4, 5, 6, 7, 8, 9, 10, 0] rfl ?_
          exact hj_73 p_63.2 l8_43 l9_43 x10_10 h
        · have h := h.neg c_64
          have h := hE_22 (Sum.inr (Sum.inl p_63.2)) h.osome
          try dsimp only at h
          refine J.widen (k' := 121) (sl' := 726) (by omega) (by omega) ?_
          refine J_iconst (v := 0) C (by decide) dL_goesBack_71 rfl ?_
          rw [← hQQ]
          exact J_zret C hret rfl (Nat.le_of_ble_eq_true rfl) (Nat.le_of_ble_eq_true rfl) ⟨_, h.osome, rfl, rfl, rfl⟩ dL_goesBack_72
    unfold fL_goesBack_b22 at h
    refine J_iload (i := 9) (p := 9) C dL_goesBack_22 rfl rfl ?_
    refine J_iload (i := 7) (p := 7) C dL_goesBack_24 rfl rfl ?_
    refine J_icmp_ge (t := 203) C dL_goesBack_26 (by decide) rfl (fun c_65 => ?_) (fun c_65 => ?_)
    · have h := h.pos c_65
      have h := hE_22 (Sum.inl (τ_22, l8_22)) h.osome
      try dsimp only at h
      refine J.widen (k' := 121) (sl' := 726) (by omega) (by omega) ?_
      refine J_aload_n (i := 0) (p := 0) C dL_goesBack_203 rfl rfl rfl ?_
      refine J_aload_n (i := 2) (p := 2) C dL_goesBack_204 rfl rfl rfl ?_
      refine J_bipush (v := 20) C (by decide) dL_goesBack_205 rfl ?_
      refine J_iload (i := 8) (p := 8) C dL_goesBack_207 rfl rfl ?_
      refine J_iadd C dL_goesBack_209 rfl ?_
      obtain ⟨g_66, h⟩ := Ok.ofgd h
      refine Jl_aald (r2 := 2 + Int32.toNatClampNeg ((20 : Int32) + l8_22)) C rfl g_66 dL_goesBack_210 rfl ?_
      refine Jl_cS (rest := []) (st9 := fun p_67 => []) C hR hX cs_RL_151 (kL_sees hl (kl_row g_66) (Ok.ofbnd h)) rfl rfl (Nat.le_of_ble_eq_true rfl) (Nat.le_of_ble_eq_true rfl) (Nat.le_of_ble_eq_true rfl) ⟨(Nat.le_of_ble_eq_true rfl), (Nat.le_of_ble_eq_true rfl)⟩ dL_goesBack_211 rfl (fun _ => rfl) (fun p_67 h => ?_)
      have h : Ok _ _ := h
      change J X K 12 False QQ 121 726 2064 (jl K p_67) 214 [(0, .ref (K.2.2 + 47)), (1, .ref (K.2.2 + 0)), (2, .ref (K.2.2 + 1)), (3, .ref (K.2.2 + 42)), (4, .ref (K.2.2 + 43)), (5, .ref (K.2.2 + 45)), (6, .int l6_22), (7, .int l7_22), (8, .int l8_22), (9, .int l9_22)] []
      refine J_iload (i := 8) (p := 8) C dL_goesBack_214 rfl rfl ?_
      obtain ⟨x9_11, e_x9_11, h⟩ := Ok.nm h
      refine J_istoreE (i := 9) (lv' := [(9, .int x9_11), (0, .ref (K.2.2 + 47)), (1, .ref (K.2.2 + 0)), (2, .ref (K.2.2 + 1)), (3, .ref (K.2.2 + 42)), (4, .ref (K.2.2 + 43)), (5, .ref (K.2.2 + 45)), (6, .int l6_22), (7, .int l7_22), (8, .int l8_22)]) C e_x9_11 dL_goesBack_216 (Nat.le_of_ble_eq_true rfl) rfl rfl ?_
      refine J.sub [1, 3, 4, 7, 9, 0] rfl ?_
      exact hj_218 p_67 l6_22 l8_22 x9_11 h
    · have h := h.neg c_65
      refine J_aload_n (i := 1) (p := 1) C dL_goesBack_29 rfl rfl rfl ?_
      refine Jl_cS (rest := []) (st9 := fun p_68 => [.int p_68.1]) C hR hX cs_RL_8 (kL_next hl  (Ok.ofbnd h)) rfl rfl (Nat.le_of_ble_eq_true rfl) (Nat.le_of_ble_eq_true rfl) (Nat.le_of_ble_eq_true rfl) ⟨(by omega), (by omega)⟩ dL_goesBack_30 rfl (fun _ => rfl) (fun p_68 h => ?_)
      have h : Ok _ _ := h
      change J X K 12 False QQ k_22 (6 * k_22) 2064 (jl K p_68.2) 33 [(0, .ref (K.2.2 + 47)), (1, .ref (K.2.2 + 0)), (2, .ref (K.2.2 + 1)), (3, .ref (K.2.2 + 42)), (4, .ref (K.2.2 + 43)), (5, .ref (K.2.2 + 45)), (6, .int l6_22), (7, .int l7_22), (8, .int l8_22), (9, .int l9_22)] [.int p_68.1]
      refine J_iconst (v := 5) C (by decide) dL_goesBack_33 rfl ?_
      refine J_irem C (by decide) dL_goesBack_34 rfl ?_
      refine J_if_ne (t := 42) C dL_goesBack_35 (by decide) rfl (fun c_69 => ?_) (fun c_69 => ?_)
      · have h := h.neg c_69
        refine J_iconst (v := 0) C (by decide) dL_goesBack_42 rfl ?_
        exact hj_43 p_68.2 l8_22 l9_22 (0 : Int32) h
      · have h := h.pos (Decidable.not_not.mp c_69)
        refine J_iconst (v := 1) C (by decide) dL_goesBack_38 rfl ?_
        refine J_goto (t := 43) C dL_goesBack_39 (by decide) ?_
        exact hj_43 p_68.2 l8_22 l9_22 (1 : Int32) h
  unfold fL_goesBack at h
  refine J_aload_n (i := 0) (p := 0) C dL_goesBack_0 rfl rfl rfl ?_
  refine J_iconst (v := 1) C (by decide) dL_goesBack_1 rfl ?_
  refine Jl_cV (rest := []) (st9 := fun p_72 => [.int p_72.1]) (wd := fun p_72 => p_72.2) C hR hX cv_RL_189 (k11_acts_n hl (Ok.ofnox h) (fun c hc => hc)) rfl rfl (Nat.le_of_ble_eq_true rfl) (Nat.le_of_ble_eq_true rfl) (Nat.le_of_ble_eq_true rfl) ⟨(Nat.le_of_ble_eq_true rfl), (Nat.le_of_ble_eq_true rfl)⟩ dL_goesBack_2 rfl (fun E n9 w9 hx => hx.elim) (fun _ => rfl) (fun p_72 h => ?_)
  have h : Ok _ _ := h
  change J X K 12 False QQ 0 0 2064 (jl K (τ.1, p_72.2)) 5 [(0, .ref (K.2.2 + 47)), (1, .ref (K.2.2 + 0)), (2, .ref (K.2.2 + 1)), (3, .ref (K.2.2 + 42)), (4, .ref (K.2.2 + 43)), (5, .ref (K.2.2 + 45))] [.int p_72.1]
  obtain ⟨x6_13, e_x6_13, h⟩ := Ok.nm h
  refine J_istoreE (i := 6) (lv' := [(6, .int x6_13), (0, .ref (K.2.2 + 47)), (1, .ref (K.2.2 + 0)), (2, .ref (K.2.2 + 1)), (3, .ref (K.2.2 + 42)), (4, .ref (K.2.2 + 43)), (5, .ref (K.2.2 + 45))]) C e_x6_13 dL_goesBack_5 (Nat.le_of_ble_eq_true rfl) rfl rfl ?_
  refine J_aload_n (i := 1) (p := 2) C dL_goesBack_7 rfl rfl rfl ?_
  refine J_iconst (v := 1) C (by decide) dL_goesBack_8 rfl ?_
  refine J_bipush (v := 10) C (by decide) dL_goesBack_9 rfl ?_
  refine Jl_cS (rest := []) (st9 := fun p_73 => [.int p_73.1]) C hR hX cs_RL_137 (kL_from hl  (Ok.ofbnd h)) rfl rfl (Nat.le_of_ble_eq_true rfl) (Nat.le_of_ble_eq_true rfl) (Nat.le_of_ble_eq_true rfl) ⟨(Nat.le_of_ble_eq_true rfl), (Nat.le_of_ble_eq_true rfl)⟩ dL_goesBack_11 rfl (fun _ => rfl) (fun p_73 h => ?_)
  have h : Ok _ _ := h
  change J X K 12 False QQ 0 0 2064 (jl K p_73.2) 14 [(6, .int x6_13), (0, .ref (K.2.2 + 47)), (1, .ref (K.2.2 + 0)), (2, .ref (K.2.2 + 1)), (3, .ref (K.2.2 + 42)), (4, .ref (K.2.2 + 43)), (5, .ref (K.2.2 + 45))] [.int p_73.1]
  obtain ⟨x7_14, e_x7_14, h⟩ := Ok.nm h
  refine J_istoreE (i := 7) (lv' := [(7, .int x7_14), (6, .int x6_13), (0, .ref (K.2.2 + 47)), (1, .ref (K.2.2 + 0)), (2, .ref (K.2.2 + 1)), (3, .ref (K.2.2 + 42)), (4, .ref (K.2.2 + 43)), (5, .ref (K.2.2 + 45))]) C e_x7_14 dL_goesBack_14 (Nat.le_of_ble_eq_true rfl) rfl rfl ?_
  refine J_iconst (v := 0) C (by decide) dL_goesBack_16 rfl ?_
  obtain ⟨x8_15, e_x8_15, h⟩ := Ok.nm h
  refine J_istoreE (i := 8) (lv' := [(8, .int x8_15), (7, .int x7_14), (6, .int x6_13), (0, .ref (K.2.2 + 47)), (1, .ref (K.2.2 + 0)), (2, .ref (K.2.2 + 1)), (3, .ref (K.2.2 + 42)), (4, .ref (K.2.2 + 43)), (5, .ref (K.2.2 + 45))]) C e_x8_15 dL_goesBack_17 (Nat.le_of_ble_eq_true rfl) rfl rfl ?_
  refine J_iconst (v := 0) C (by decide) dL_goesBack_19 rfl ?_
  obtain ⟨x9_16, e_x9_16, h⟩ := Ok.nm h
  refine J_istoreE (i := 9) (lv' := [(9, .int x9_16), (8, .int x8_15), (7, .int x7_14), (6, .int x6_13), (0, .ref (K.2.2 + 47)), (1, .ref (K.2.2 + 0)), (2, .ref (K.2.2 + 1)), (3, .ref (K.2.2 + 42)), (4, .ref (K.2.2 + 43)), (5, .ref (K.2.2 + 45))]) C e_x9_16 dL_goesBack_20 (Nat.le_of_ble_eq_true rfl) rfl rfl ?_
  refine J.sub [4, 5, 6, 7, 8, 9, 3, 2, 1, 0] rfl ?_
  exact hj_22 p_73.2 x6_13 x7_14 x8_15 x9_16 h
def fL_branches_j340 (τ_340 : LawS) (s0_340 : Int32) : Option (Int32 × LawS) :=
  gd (isB s0_340) <|
  some (s0_340, τ_340)
def fL_branches_j339 (τ_339 : LawS) : Option (Int32 × LawS) :=
  fL_branches_j340 τ_339 (0 : Int32)
def fL_branches_j310 (τ_310 : LawS) (s0_310 : Int32) : Option (Int32 × LawS) :=
  stp s0_310 fun x8_1 =>
  if x8_1 = 0 then
    fL_branches_j339 τ_310
  else
    bnd (nox (f11_acts τ_310.2 (3 : Int32))) fun p_3 =>
    bnd (fL_done (τ_310.1, p_3.2) (12 : Int32) p_3.1 (0 : Int32) (0 : Int32)) fun p_4 =>
    if p_4.1 = (-1000004 : Int32) then
      fL_branches_j340 p_4.2 (1 : Int32)
    else
      fL_branches_j339 p_4.2
def fL_branches_j309 (τ_309 : LawS) : Option (Int32 × LawS) :=
  fL_branches_j310 τ_309 (0 : Int32)
def fL_branches_j205 (τ_205 : LawS) (l5_205 : Int32) (s0_205 : Int32) : Option (Int32 × LawS) :=
  stp s0_205 fun x8_2 =>
  if x8_2 = 0 then
    fL_branches_j309 τ_205
  else
    bnd (fL_done τ_205 (10 : Int32) (1 : Int32) (0 : Int32) (0 : Int32)) fun p_7 =>
    if p_7.1 = (1 : Int32) then
      bnd (fL_done p_7.2 (11 : Int32) (1 : Int32) (0 : Int32) (0 : Int32)) fun p_9 =>
      if p_9.1 = (1 : Int32) then
        bnd (fL_isLike p_9.2 3) fun p_11 =>
        if p_11.1 = 0 then
          fL_branches_j309 p_11.2
        else
          bnd (fL_done p_11.2 (10 : Int32) (1 : Int32) (0 : Int32) (0 : Int32)) fun p_13 =>
          if p_13.1 = (1 : Int32) then
            bnd (fL_done p_13.2 (12 : Int32) (l5_205 + (1 : Int32)) (0 : Int32) (0 : Int32)) fun p_15 =>
            if p_15.1 = (l5_205 + (2 : Int32)) then
              bnd (fL_done p_15.2 (11 : Int32) (1 : Int32) (0 : Int32) (0 : Int32)) fun p_17 =>
              if p_17.1 = (1 : Int32) then
                bnd (fL_isLike p_17.2 4) fun p_19 =>
                if p_19.1 = 0 then
                  fL_branches_j309 p_19.2
                else
                  fL_branches_j310 p_19.2 (1 : Int32)
              else
                fL_branches_j309 p_17.2
            else
              fL_branches_j309 p_15.2
          else
            fL_branches_j309 p_13.2
      else
        fL_branches_j309 p_9.2
    else
      fL_branches_j309 p_7.2
def fL_branches_j204 (τ_204 : LawS) (l5_204 : Int32) : Option (Int32 × LawS) :=
  fL_branches_j205 τ_204 l5_204 (0 : Int32)
def fL_branches_j96 (τ_96 : LawS) : Option (Int32 × LawS) :=
  some ((0 : Int32), τ_96)
def fL_branches_j37 (τ_37 : LawS) : Option (Int32 × LawS) :=
  some ((1 : Int32), τ_37)
def fL_branches (τ : LawS) : Option (Int32 × LawS) :=
  bnd (fL_sees τ 2) fun p_21 =>
  bnd (nox (f11_acts p_21.2 (3 : Int32))) fun p_22 =>
  stp p_22.1 fun x5_3 =>
  gd (inb (0 : Int32) 40) <|
  stp (uT (p_21.1, p_22.2) 43 (Int32.toNatClampNeg (0 : Int32)) (120 : Int32)) fun τx_4 =>
  bnd (fL_feeds τx_4 43 (1 : Int32)) fun p_24 =>
  if p_24.1 = 0 then
    fL_branches_j37 p_24.2
  else
    if x5_3 ≤ (8 : Int32) then
      bnd (fL_done p_24.2 (0 : Int32) (0 : Int32) (0 : Int32) (0 : Int32)) fun p_27 =>
      stp p_27.1 fun x6_5 =>
      if x6_5 = (-1000003 : Int32) then
        bnd (fL_isLike p_27.2 2) fun p_49 =>
        gd (isB p_49.1) <|
        some (p_49.1, p_49.2)
      else
        bnd (fL_sees p_27.2 3) fun p_29 =>
        bnd (fL_done p_29 (10 : Int32) (1 : Int32) (0 : Int32) (0 : Int32)) fun p_30 =>
        if p_30.1 = (1 : Int32) then
          bnd (fL_isLike p_30.2 2) fun p_32 =>
          if p_32.1 = 0 then
            fL_branches_j96 p_32.2
          else
            bnd (fL_done p_32.2 (2 : Int32) (0 : Int32) (0 : Int32) (0 : Int32)) fun p_34 =>
            stp p_34.1 fun x7_6 =>
            if x7_6 = (-1000003 : Int32) then
              some ((1 : Int32), p_34.2)
            else
              bnd (fL_sees p_34.2 4) fun p_36 =>
              if x6_5 ≤ 0 then
                fL_branches_j204 p_36 x5_3
              else
                if x7_6 ≤ 0 then
                  fL_branches_j204 p_36 x5_3
                else
                  bnd (fL_done p_36 (10 : Int32) (1 : Int32) (0 : Int32) (0 : Int32)) fun p_39 =>
                  if p_39.1 = (1 : Int32) then
                    bnd (nox (f11_acts p_39.2.2 (3 : Int32))) fun p_41 =>
                    if p_41.1 = (x5_3 + (2 : Int32)) then
                      bnd (fL_done (p_39.2.1, p_41.2) (12 : Int32) x5_3 (0 : Int32) (0 : Int32)) fun p_43 =>
                      if p_43.1 = (x5_3 + (2 : Int32)) then
                        bnd (fL_done p_43.2 (11 : Int32) (1 : Int32) (0 : Int32) (0 : Int32)) fun p_45 =>
                        if p_45.1 = (1 : Int32) then
                          bnd (fL_isLike p_45.2 3) fun p_47 =>
                          if p_47.1 = 0 then
                            fL_branches_j204 p_47.2 x5_3
                          else
                            fL_branches_j205 p_47.2 x5_3 (1 : Int32)
                        else
                          fL_branches_j204 p_45.2 x5_3
                      else
                        fL_branches_j204 p_43.2 x5_3
                    else
                      fL_branches_j204 (p_39.2.1, p_41.2) x5_3
                  else
                    fL_branches_j204 p_39.2 x5_3
        else
          fL_branches_j96 p_30.2
    else
      fL_branches_j37 p_24.2
set_option maxHeartbeats 4000000 in
set_option maxRecDepth 100000 in
theorem kL_branches {l : Launch} {K : JK} (hl : l.stackTraces = false) {τ : LawS}   {Qf : Int32 × LawS → Prop} (h : Ok (fL_branches τ) Qf) : Con l K yL_branches (.code yL_branches cL_branches 9 (some .boolean) :: TB) 10 12 72 False [.ref (K.2.2 + 47), .ref (K.2.2 + 0), .ref (K.2.2 + 1), .ref (K.2.2 + 42), .ref (K.2.2 + 43)] 2064 (jl K τ) (PL Qf (fun p => some (.int p.1)) (fun p => jl K p.2)) PN := by
  refine Con.enter (own := RL) hl (by decide) rfl (Nat.le_of_ble_eq_true rfl) ?_
  intro X hX hR C hret hnt
  generalize hQQ : jQ X K 12 72 (PL Qf (fun p => some (.int p.1)) (fun p => jl K p.2)) PN False = QQ
  change J X K 9 False QQ 0 0 2064 (jl K τ) 0 [(0, .ref (K.2.2 + 47)), (1, .ref (K.2.2 + 0)), (2, .ref (K.2.2 + 1)), (3, .ref (K.2.2 + 42)), (4, .ref (K.2.2 + 43))] []
  have hj_340 : (∀ (τ_340 : LawS) (s0_340 : Int32), Ok (fL_branches_j340 τ_340 s0_340) Qf → J X K 9 False QQ 12 72 2064 (jl K τ_340) 340 [] [.int s0_340]) := by
    intro τ_340 s0_340 h
    unfold fL_branches_j340 at h
    obtain ⟨g_1, h⟩ := Ok.ofgd h
    rw [← hQQ]
    exact J_zret C hret (narB g_1).1 (Nat.le_of_ble_eq_true rfl) (Nat.le_of_ble_eq_true rfl) ⟨_, h.osome, rfl, rfl, rfl⟩ dL_branches_340
  have hj_339 : (∀ (τ_339 : LawS), Ok (fL_branches_j339 τ_339) Qf → J X K 9 False QQ 12 72 2064 (jl K τ_339) 339 [] []) := by
    intro τ_339 h
    unfold fL_branches_j339 at h
    refine J_iconst (v := 0) C (by decide) dL_branches_339 rfl ?_
    exact hj_340 τ_339 (0 : Int32) h
  have hj_310 : (∀ (τ_310 : LawS) (s0_310 : Int32), Ok (fL_branches_j310 τ_310 s0_310) Qf → J X K 9 False QQ 11 66 2064 (jl K τ_310) 310 [(0, .ref (K.2.2 + 47))] [.int s0_310]) := by
    intro τ_310 s0_310 h
    unfold fL_branches_j310 at h
    obtain ⟨x8_1, e_x8_1, h⟩ := Ok.nm h
    refine J_istoreE (i := 8) (lv' := [(8, .int x8_1), (0, .ref (K.2.2 + 47))]) C e_x8_1 dL_branches_310 (Nat.le_of_ble_eq_true rfl) rfl rfl ?_
    refine J_iload (i := 8) (p := 0) C dL_branches_312 rfl rfl ?_
    refine J_if_eq (t := 339) C dL_branches_314 (by decide) rfl (fun c_2 => ?_) (fun c_2 => ?_)
    · have h := h.pos c_2
      refine J.widen (k' := 12) (sl' := 72) (Nat.le_of_ble_eq_true rfl) (Nat.le_of_ble_eq_true rfl) ?_
      refine J.sub [] rfl ?_
      exact hj_339 τ_310 h
    · have h := h.neg c_2
      refine J_aload_n (i := 0) (p := 1) C dL_branches_317 rfl rfl rfl ?_
      refine J_bipush (v := 12) C (by decide) dL_branches_318 rfl ?_
      refine J_aload_n (i := 0) (p := 1) C dL_branches_320 rfl rfl rfl ?_
      refine J_iconst (v := 3) C (by decide) dL_branches_321 rfl ?_
      refine Jl_cV (rest := [.int (12 : Int32), .ref (K.2.2 + 47)]) (st9 := fun p_3 => [.int p_3.1, .int (12 : Int32), .ref (K.2.2 + 47)]) (wd := fun p_3 => p_3.2) C hR hX cv_RL_189 (k11_acts_n hl (Ok.ofnox h) (fun c hc => hc)) rfl rfl (Nat.le_of_ble_eq_true rfl) (Nat.le_of_ble_eq_true rfl) (Nat.le_of_ble_eq_true rfl) ⟨(Nat.le_of_ble_eq_true rfl), (Nat.le_of_ble_eq_true rfl)⟩ dL_branches_322 rfl (fun E n9 w9 hx => hx.elim) (fun _ => rfl) (fun p_3 h => ?_)
      have h : Ok _ _ := h
      change J X K 9 False QQ 11 66 2064 (jl K (τ_310.1, p_3.2)) 325 [(8, .int x8_1), (0, .ref (K.2.2 + 47))] [.int p_3.1, .int (12 : Int32), .ref (K.2.2 + 47)]
      refine J_iconst (v := 0) C (by decide) dL_branches_325 rfl ?_
      refine J_iconst (v := 0) C (by decide) dL_branches_326 rfl ?_
      refine Jl_cH (rest := []) (st9 := fun p_4 => [.int p_4.1]) C hR hX ch_RL_174 (kL_done hl  (Ok.ofbnd h)) rfl rfl (Nat.le_of_ble_eq_true rfl) (Nat.le_of_ble_eq_true rfl) (Nat.le_of_ble_eq_true rfl) ⟨(Nat.le_of_ble_eq_true rfl), (Nat.le_of_ble_eq_true rfl)⟩ dL_branches_327 rfl (fun _ => rfl) (fun p_4 h => ?_)
      have h : Ok _ _ := h
      change J X K 9 False QQ 12 72 2064 (jl K p_4.2) 330 [(8, .int x8_1), (0, .ref (K.2.2 + 47))] [.int p_4.1]
      refine J_ldc (v := -1000004) C ci_RL_126 dL_branches_330 rfl ?_
      refine J_icmp_ne (t := 339) C dL_branches_332 (by decide) rfl (fun c_5 => ?_) (fun c_5 => ?_)
      · have h := h.neg c_5
        refine J.sub [] rfl ?_
        exact hj_339 p_4.2 h
      · have h := h.pos (Decidable.not_not.mp c_5)
        refine J_iconst (v := 1) C (by decide) dL_branches_335 rfl ?_
        refine J_goto (t := 340) C dL_branches_336 (by decide) ?_
        refine J.sub [] rfl ?_
        exact hj_340 p_4.2 (1 : Int32) h
  have hj_309 : (∀ (τ_309 : LawS), Ok (fL_branches_j309 τ_309) Qf → J X K 9 False QQ 11 66 2064 (jl K τ_309) 309 [(0, .ref (K.2.2 + 47))] []) := by
    intro τ_309 h
    unfold fL_branches_j309 at h
    refine J_iconst (v := 0) C (by decide) dL_branches_309 rfl ?_
    exact hj_310 τ_309 (0 : Int32) h
  have hj_205 : (∀ (τ_205 : LawS) (l5_205 : Int32) (s0_205 : Int32), Ok (fL_branches_j205 τ_205 l5_205 s0_205) Qf → J X K 9 False QQ 6 36 2064 (jl K τ_205) 205 [(0, .ref (K.2.2 + 47)), (2, .ref (K.2.2 + 1)), (3, .ref (K.2.2 + 42)), (5, .int l5_205)] [.int s0_205]) := by
    intro τ_205 l5_205 s0_205 h
    unfold fL_branches_j205 at h
    obtain ⟨x8_2, e_x8_2, h⟩ := Ok.nm h
    refine J_istoreE (i := 8) (lv' := [(8, .int x8_2), (0, .ref (K.2.2 + 47)), (2, .ref (K.2.2 + 1)), (3, .ref (K.2.2 + 42)), (5, .int l5_205)]) C e_x8_2 dL_branches_205 (Nat.le_of_ble_eq_true rfl) rfl rfl ?_
    refine J_iload (i := 8) (p := 0) C dL_branches_207 rfl rfl ?_
    refine J_if_eq (t := 309) C dL_branches_209 (by decide) rfl (fun c_6 => ?_) (fun c_6 => ?_)
    · have h := h.pos c_6
      refine J.widen (k' := 11) (sl' := 66) (Nat.le_of_ble_eq_true rfl) (Nat.le_of_ble_eq_true rfl) ?_
      refine J.sub [1] rfl ?_
      exact hj_309 τ_205 h
    · have h := h.neg c_6
      refine J_aload_n (i := 0) (p := 1) C dL_branches_212 rfl rfl rfl ?_
      refine J_bipush (v := 10) C (by decide) dL_branches_213 rfl ?_
      refine J_iconst (v := 1) C (by decide) dL_branches_215 rfl ?_
      refine J_iconst (v := 0) C (by decide) dL_branches_216 rfl ?_
      refine J_iconst (v := 0) C (by decide) dL_branches_217 rfl ?_
      refine Jl_cH (rest := []) (st9 := fun p_7 => [.int p_7.1]) C hR hX ch_RL_174 (kL_done hl  (Ok.ofbnd h)) rfl rfl (Nat.le_of_ble_eq_true rfl) (Nat.le_of_ble_eq_true rfl) (Nat.le_of_ble_eq_true rfl) ⟨(Nat.le_of_ble_eq_true rfl), (Nat.le_of_ble_eq_true rfl)⟩ dL_branches_218 rfl (fun _ => rfl) (fun p_7 h => ?_)
      have h : Ok _ _ := h
      change J X K 9 False QQ 7 42 2064 (jl K p_7.2) 221 [(8, .int x8_2), (0, .ref (K.2.2 + 47)), (2, .ref (K.2.2 + 1)), (3, .ref (K.2.2 + 42)), (5, .int l5_205)] [.int p_7.1]
      refine J_iconst (v := 1) C (by decide) dL_branches_221 rfl ?_
      refine J_icmp_ne (t := 309) C dL_branches_222 (by decide) rfl (fun c_8 => ?_) (fun c_8 => ?_)
      · have h := h.neg c_8
        refine J.widen (k' := 11) (sl' := 66) (Nat.le_of_ble_eq_true rfl) (Nat.le_of_ble_eq_true rfl) ?_
        refine J.sub [1] rfl ?_
        exact hj_309 p_7.2 h
      · have h := h.pos (Decidable.not_not.mp c_8)
        refine J_aload_n (i := 0) (p := 1) C dL_branches_225 rfl rfl rfl ?_
        refine J_bipush (v := 11) C (by decide) dL_branches_226 rfl ?_
        refine J_iconst (v := 1) C (by decide) dL_branches_228 rfl ?_
        refine J_iconst (v := 0) C (by decide) dL_branches_229 rfl ?_
        refine J_iconst (v := 0) C (by decide) dL_branches_230 rfl ?_
        refine Jl_cH (rest := []) (st9 := fun p_9 => [.int p_9.1]) C hR hX ch_RL_174 (kL_done hl  (Ok.ofbnd h)) rfl rfl (Nat.le_of_ble_eq_true rfl) (Nat.le_of_ble_eq_true rfl) (Nat.le_of_ble_eq_true rfl) ⟨(Nat.le_of_ble_eq_true rfl), (Nat.le_of_ble_eq_true rfl)⟩ dL_branches_231 rfl (fun _ => rfl) (fun p_9 h => ?_)
        have h : Ok _ _ := h
        change J X K 9 False QQ 8 48 2064 (jl K p_9.2) 234 [(8, .int x8_2), (0, .ref (K.2.2 + 47)), (2, .ref (K.2.2 + 1)), (3, .ref (K.2.2 + 42)), (5, .int l5_205)] [.int p_9.1]
        refine J_iconst (v := 1) C (by decide) dL_branches_234 rfl ?_
        refine J_icmp_ne (t := 309) C dL_branches_235 (by decide) rfl (fun c_10 => ?_) (fun c_10 => ?_)
        · have h := h.neg c_10
          refine J.widen (k' := 11) (sl' := 66) (Nat.le_of_ble_eq_true rfl) (Nat.le_of_ble_eq_true rfl) ?_
          refine J.sub [1] rfl ?_
          exact hj_309 p_9.2 h
        · have h := h.pos (Decidable.not_not.mp c_10)
          refine J_aload_n (i := 0) (p := 1) C dL_branches_238 rfl rfl rfl ?_
          refine J_aload_n (i := 2) (p := 2) C dL_branches_239 rfl rfl rfl ?_
          refine J_iconst (v := 1) C (by decide) dL_branches_240 rfl ?_
          refine Jl_aald (r2 := 3) C rfl (by decide) dL_branches_241 rfl ?_
          refine J_aload_n (i := 3) (p := 3) C dL_branches_242 rfl rfl rfl ?_
          refine Jl_cS (rest := []) (st9 := fun p_11 => [.int p_11.1]) C hR hX cs_RL_178 (kL_isLike hl rfl (Ok.ofbnd h)) rfl rfl (Nat.le_of_ble_eq_true rfl) (Nat.le_of_ble_eq_true rfl) (Nat.le_of_ble_eq_true rfl) ⟨(Nat.le_of_ble_eq_true rfl), (Nat.le_of_ble_eq_true rfl)⟩ dL_branches_243 rfl (fun _ => rfl) (fun p_11 h => ?_)
          have h : Ok _ _ := h
          change J X K 9 False QQ 8 48 2064 (jl K p_11.2) 246 [(8, .int x8_2), (0, .ref (K.2.2 + 47)), (2, .ref (K.2.2 + 1)), (3, .ref (K.2.2 + 42)), (5, .int l5_205)] [.int p_11.1]
          refine J_if_eq (t := 309) C dL_branches_246 (by decide) rfl (fun c_12 => ?_) (fun c_12 => ?_)
          · have h := h.pos c_12
            refine J.widen (k' := 11) (sl' := 66) (Nat.le_of_ble_eq_true rfl) (Nat.le_of_ble_eq_true rfl) ?_
            refine J.sub [1] rfl ?_
            exact hj_309 p_11.2 h
          · have h := h.neg c_12
            refine J_aload_n (i := 0) (p := 1) C dL_branches_249 rfl rfl rfl ?_
            refine J_bipush (v := 10) C (by decide) dL_branches_250 rfl ?_
            refine J_iconst (v := 1) C (by decide) dL_branches_252 rfl ?_
            refine J_iconst (v := 0) C (by decide) dL_branches_253 rfl ?_
            refine J_iconst (v := 0) C (by decide) dL_branches_254 rfl ?_
            refine Jl_cH (rest := []) (st9 := fun p_13 => [.int p_13.1]) C hR hX ch_RL_174 (kL_done hl  (Ok.ofbnd h)) rfl rfl (Nat.le_of_ble_eq_true rfl) (Nat.le_of_ble_eq_true rfl) (Nat.le_of_ble_eq_true rfl) ⟨(Nat.le_of_ble_eq_true rfl), (Nat.le_of_ble_eq_true rfl)⟩ dL_branches_255 rfl (fun _ => rfl) (fun p_13 h => ?_)
            have h : Ok _ _ := h
            change J X K 9 False QQ 9 54 2064 (jl K p_13.2) 258 [(8, .int x8_2), (0, .ref (K.2.2 + 47)), (2, .ref (K.2.2 + 1)), (3, .ref (K.2.2 + 42)), (5, .int l5_205)] [.int p_13.1]
            refine J_iconst (v := 1) C (by decide) dL_branches_258 rfl ?_
            refine J_icmp_ne (t := 309) C dL_branches_259 (by decide) rfl (fun c_14 => ?_) (fun c_14 => ?_)
            · have h := h.neg c_14
              refine J.widen (k' := 11) (sl' := 66) (Nat.le_of_ble_eq_true rfl) (Nat.le_of_ble_eq_true rfl) ?_
              refine J.sub [1] rfl ?_
              exact hj_309 p_13.2 h
            · have h := h.pos (Decidable.not_not.mp c_14)
              refine J_aload_n (i := 0) (p := 1) C dL_branches_262 rfl rfl rfl ?_
              refine J_bipush (v := 12) C (by decide) dL_branches_263 rfl ?_
              refine J_iload (i := 5) (p := 4) C dL_branches_265 rfl rfl ?_
              refine J_iconst (v := 1) C (by decide) dL_branches_267 rfl ?_
              refine J_iadd C dL_branches_268 rfl ?_
              refine J_iconst (v := 0) C (by decide) dL_branches_269 rfl ?_
              refine J_iconst (v := 0) C (by decide) dL_branches_270 rfl ?_
              refine Jl_cH (rest := []) (st9 := fun p_15 => [.int p_15.1]) C hR hX ch_RL_174 (kL_done hl  (Ok.ofbnd h)) rfl rfl (Nat.le_of_ble_eq_true rfl) (Nat.le_of_ble_eq_true rfl) (Nat.le_of_ble_eq_true rfl) ⟨(Nat.le_of_ble_eq_true rfl), (Nat.le_of_ble_eq_true rfl)⟩ dL_branches_271 rfl (fun _ => rfl) (fun p_15 h => ?_)
              have h : Ok _ _ := h
              change J X K 9 False QQ 10 60 2064 (jl K p_15.2) 274 [(8, .int x8_2), (0, .ref (K.2.2 + 47)), (2, .ref (K.2.2 + 1)), (3, .ref (K.2.2 + 42)), (5, .int l5_205)] [.int p_15.1]
              refine J_iload (i := 5) (p := 4) C dL_branches_274 rfl rfl ?_
              refine J_iconst (v := 2) C (by decide) dL_branches_276 rfl ?_
              refine J_iadd C dL_branches_277 rfl ?_
              refine J_icmp_ne (t := 309) C dL_branches_278 (by decide) rfl (fun c_16 => ?_) (fun c_16 => ?_)
              · have h := h.neg c_16
                refine J.widen (k' := 11) (sl' := 66) (Nat.le_of_ble_eq_true rfl) (Nat.le_of_ble_eq_true rfl) ?_
                refine J.sub [1] rfl ?_
                exact hj_309 p_15.2 h
              · have h := h.pos (Decidable.not_not.mp c_16)
                refine J_aload_n (i := 0) (p := 1) C dL_branches_281 rfl rfl rfl ?_
                refine J_bipush (v := 11) C (by decide) dL_branches_282 rfl ?_
                refine J_iconst (v := 1) C (by decide) dL_branches_284 rfl ?_
                refine J_iconst (v := 0) C (by decide) dL_branches_285 rfl ?_
                refine J_iconst (v := 0) C (by decide) dL_branches_286 rfl ?_
                refine Jl_cH (rest := []) (st9 := fun p_17 => [.int p_17.1]) C hR hX ch_RL_174 (kL_done hl  (Ok.ofbnd h)) rfl rfl (Nat.le_of_ble_eq_true rfl) (Nat.le_of_ble_eq_true rfl) (Nat.le_of_ble_eq_true rfl) ⟨(Nat.le_of_ble_eq_true rfl), (Nat.le_of_ble_eq_true rfl)⟩ dL_branches_287 rfl (fun _ => rfl) (fun p_17 h => ?_)
                have h : Ok _ _ := h
                change J X K 9 False QQ 11 66 2064 (jl K p_17.2) 290 [(8, .int x8_2), (0, .ref (K.2.2 + 47)), (2, .ref (K.2.2 + 1)), (3, .ref (K.2.2 + 42)), (5, .int l5_205)] [.int p_17.1]
                refine J_iconst (v := 1) C (by decide) dL_branches_290 rfl ?_
                refine J_icmp_ne (t := 309) C dL_branches_291 (by decide) rfl (fun c_18 => ?_) (fun c_18 => ?_)
                · have h := h.neg c_18
                  refine J.sub [1] rfl ?_
                  exact hj_309 p_17.2 h
                · have h := h.pos (Decidable.not_not.mp c_18)
                  refine J_aload_n (i := 0) (p := 1) C dL_branches_294 rfl rfl rfl ?_
                  refine J_aload_n (i := 2) (p := 2) C dL_branches_295 rfl rfl rfl ?_
                  refine J_iconst (v := 2) C (by decide) dL_branches_296 rfl ?_
                  refine Jl_aald (r2 := 4) C rfl (by decide) dL_branches_297 rfl ?_
                  refine J_aload_n (i := 3) (p := 3) C dL_branches_298 rfl rfl rfl ?_
                  refine Jl_cS (rest := []) (st9 := fun p_19 => [.int p_19.1]) C hR hX cs_RL_178 (kL_isLike hl rfl (Ok.ofbnd h)) rfl rfl (Nat.le_of_ble_eq_true rfl) (Nat.le_of_ble_eq_true rfl) (Nat.le_of_ble_eq_true rfl) ⟨(Nat.le_of_ble_eq_true rfl), (Nat.le_of_ble_eq_true rfl)⟩ dL_branches_299 rfl (fun _ => rfl) (fun p_19 h => ?_)
                  have h : Ok _ _ := h
                  change J X K 9 False QQ 11 66 2064 (jl K p_19.2) 302 [(8, .int x8_2), (0, .ref (K.2.2 + 47)), (2, .ref (K.2.2 + 1)), (3, .ref (K.2.2 + 42)), (5, .int l5_205)] [.int p_19.1]
                  refine J_if_eq (t := 309) C dL_branches_302 (by decide) rfl (fun c_20 => ?_) (fun c_20 => ?_)
                  · have h := h.pos c_20
                    refine J.sub [1] rfl ?_
                    exact hj_309 p_19.2 h
                  · have h := h.neg c_20
                    refine J_iconst (v := 1) C (by decide) dL_branches_305 rfl ?_
                    refine J_goto (t := 310) C dL_branches_306 (by decide) ?_
                    refine J.sub [1] rfl ?_
                    exact hj_310 p_19.2 (1 : Int32) h
  have hj_204 : (∀ (τ_204 : LawS) (l5_204 : Int32), Ok (fL_branches_j204 τ_204 l5_204) Qf → J X K 9 False QQ 6 36 2064 (jl K τ_204) 204 [(0, .ref (K.2.2 + 47)), (2, .ref (K.2.2 + 1)), (3, .ref (K.2.2 + 42)), (5, .int l5_204)] []) := by
    intro τ_204 l5_204 h
    unfold fL_branches_j204 at h
    refine J_iconst (v := 0) C (by decide) dL_branches_204 rfl ?_
    exact hj_205 τ_204 l5_204 (0 : Int32) h
  have hj_96 : (∀ (τ_96 : LawS), Ok (fL_branches_j96 τ_96) Qf → J X K 9 False QQ 2 12 2064 (jl K τ_96) 96 [] []) := by
    intro τ_96 h
    unfold fL_branches_j96 at h
    refine J_iconst (v := 0) C (by decide) dL_branches_96 rfl ?_
    rw [← hQQ]
    exact J_zret C hret rfl (Nat.le_of_ble_eq_true rfl) (Nat.le_of_ble_eq_true rfl) ⟨_, h.osome, rfl, rfl, rfl⟩ dL_branches_97
  have hj_37 : (∀ (τ_37 : LawS), Ok (fL_branches_j37 τ_37) Qf → J X K 9 False QQ 0 0 2064 (jl K τ_37) 37 [] []) := by
    intro τ_37 h
    unfold fL_branches_j37 at h
    refine J_iconst (v := 1) C (by decide) dL_branches_37 rfl ?_
    rw [← hQQ]
    exact J_zret C hret rfl (Nat.le_of_ble_eq_true rfl) (Nat.le_of_ble_eq_true rfl) ⟨_, h.osome, rfl, rfl, rfl⟩ dL_branches_38
  unfold fL_branches at h
  refine J_aload_n (i := 0) (p := 0) C dL_branches_0 rfl rfl rfl ?_
  refine J_aload_n (i := 2) (p := 2) C dL_branches_1 rfl rfl rfl ?_
  refine J_iconst (v := 0) C (by decide) dL_branches_2 rfl ?_
  refine Jl_aald (r2 := 2) C rfl (by decide) dL_branches_3 rfl ?_
  refine Jl_cS (rest := []) (st9 := fun p_21 => []) C hR hX cs_RL_151 (kL_sees hl rfl (Ok.ofbnd h)) rfl rfl (Nat.le_of_ble_eq_true rfl) (Nat.le_of_ble_eq_true rfl) (Nat.le_of_ble_eq_true rfl) ⟨(Nat.le_of_ble_eq_true rfl), (Nat.le_of_ble_eq_true rfl)⟩ dL_branches_4 rfl (fun _ => rfl) (fun p_21 h => ?_)
  have h : Ok _ _ := h
  change J X K 9 False QQ 0 0 2064 (jl K p_21) 7 [(0, .ref (K.2.2 + 47)), (1, .ref (K.2.2 + 0)), (2, .ref (K.2.2 + 1)), (3, .ref (K.2.2 + 42)), (4, .ref (K.2.2 + 43))] []
  refine J_aload_n (i := 0) (p := 0) C dL_branches_7 rfl rfl rfl ?_
  refine J_iconst (v := 3) C (by decide) dL_branches_8 rfl ?_
  refine Jl_cV (rest := []) (st9 := fun p_22 => [.int p_22.1]) (wd := fun p_22 => p_22.2) C hR hX cv_RL_189 (k11_acts_n hl (Ok.ofnox h) (fun c hc => hc)) rfl rfl (Nat.le_of_ble_eq_true rfl) (Nat.le_of_ble_eq_true rfl) (Nat.le_of_ble_eq_true rfl) ⟨(Nat.le_of_ble_eq_true rfl), (Nat.le_of_ble_eq_true rfl)⟩ dL_branches_9 rfl (fun E n9 w9 hx => hx.elim) (fun _ => rfl) (fun p_22 h => ?_)
  have h : Ok _ _ := h
  change J X K 9 False QQ 0 0 2064 (jl K (p_21.1, p_22.2)) 12 [(0, .ref (K.2.2 + 47)), (1, .ref (K.2.2 + 0)), (2, .ref (K.2.2 + 1)), (3, .ref (K.2.2 + 42)), (4, .ref (K.2.2 + 43))] [.int p_22.1]
  obtain ⟨x5_3, e_x5_3, h⟩ := Ok.nm h
  refine J_istoreE (i := 5) (lv' := [(5, .int x5_3), (0, .ref (K.2.2 + 47)), (1, .ref (K.2.2 + 0)), (2, .ref (K.2.2 + 1)), (3, .ref (K.2.2 + 42)), (4, .ref (K.2.2 + 43))]) C e_x5_3 dL_branches_12 (Nat.le_of_ble_eq_true rfl) rfl rfl ?_
  refine J_aload (i := 4) (p := 5) C dL_branches_14 rfl rfl ?_
  refine J_iconst (v := 0) C (by decide) dL_branches_16 rfl ?_
  refine J_bipush (v := 120) C (by decide) dL_branches_17 rfl ?_
  obtain ⟨g_23, h⟩ := Ok.ofgd h
  obtain ⟨τx_4, e_τx_4, h⟩ := Ok.nm h
  refine Jl_iast C id rfl rfl g_23 e_τx_4 dL_branches_19 rfl ?_
  refine J_aload_n (i := 0) (p := 1) C dL_branches_20 rfl rfl rfl ?_
  refine J_aload (i := 4) (p := 5) C dL_branches_21 rfl rfl ?_
  refine J_iconst (v := 1) C (by decide) dL_branches_23 rfl ?_
  refine Jl_cS (rest := []) (st9 := fun p_24 => [.int p_24.1]) C hR hX cs_RL_165 (kL_feeds hl rfl (Ok.ofbnd h)) rfl rfl (Nat.le_of_ble_eq_true rfl) (Nat.le_of_ble_eq_true rfl) (Nat.le_of_ble_eq_true rfl) ⟨(Nat.le_of_ble_eq_true rfl), (Nat.le_of_ble_eq_true rfl)⟩ dL_branches_24 rfl (fun _ => rfl) (fun p_24 h => ?_)
  have h : Ok _ _ := h
  change J X K 9 False QQ 0 0 2064 (jl K p_24.2) 27 [(5, .int x5_3), (0, .ref (K.2.2 + 47)), (1, .ref (K.2.2 + 0)), (2, .ref (K.2.2 + 1)), (3, .ref (K.2.2 + 42)), (4, .ref (K.2.2 + 43))] [.int p_24.1]
  refine J_if_eq (t := 37) C dL_branches_27 (by decide) rfl (fun c_25 => ?_) (fun c_25 => ?_)
  · have h := h.pos c_25
    refine J.sub [] rfl ?_
    exact hj_37 p_24.2 h
  · have h := h.neg c_25
    refine J_iload (i := 5) (p := 0) C dL_branches_30 rfl rfl ?_
    refine J_bipush (v := 8) C (by decide) dL_branches_32 rfl ?_
    refine J_icmp_le (t := 39) C dL_branches_34 (by decide) rfl (fun c_26 => ?_) (fun c_26 => ?_)
    · have h := h.pos c_26
      refine J_aload_n (i := 0) (p := 1) C dL_branches_39 rfl rfl rfl ?_
      refine J_iconst (v := 0) C (by decide) dL_branches_40 rfl ?_
      refine J_iconst (v := 0) C (by decide) dL_branches_41 rfl ?_
      refine J_iconst (v := 0) C (by decide) dL_branches_42 rfl ?_
      refine J_iconst (v := 0) C (by decide) dL_branches_43 rfl ?_
      refine Jl_cH (rest := []) (st9 := fun p_27 => [.int p_27.1]) C hR hX ch_RL_174 (kL_done hl  (Ok.ofbnd h)) rfl rfl (Nat.le_of_ble_eq_true rfl) (Nat.le_of_ble_eq_true rfl) (Nat.le_of_ble_eq_true rfl) ⟨(Nat.le_of_ble_eq_true rfl), (Nat.le_of_ble_eq_true rfl)⟩ dL_branches_44 rfl (fun _ => rfl) (fun p_27 h => ?_)
      have h : Ok _ _ := h
      change J X K 9 False QQ 1 6 2064 (jl K p_27.2) 47 [(5, .int x5_3), (0, .ref (K.2.2 + 47)), (1, .ref (K.2.2 + 0)), (2, .ref (K.2.2 + 1)), (3, .ref (K.2.2 + 42)), (4, .ref (K.2.2 + 43))] [.int p_27.1]
      obtain ⟨x6_5, e_x6_5, h⟩ := Ok.nm h
      refine J_istoreE (i := 6) (lv' := [(6, .int x6_5), (5, .int x5_3), (0, .ref (K.2.2 + 47)), (1, .ref (K.2.2 + 0)), (2, .ref (K.2.2 + 1)), (3, .ref (K.2.2 + 42)), (4, .ref (K.2.2 + 43))]) C e_x6_5 dL_branches_47 (Nat.le_of_ble_eq_true rfl) rfl rfl ?_
      refine J_iload (i := 6) (p := 0) C dL_branches_49 rfl rfl ?_
      refine J_ldc (v := -1000003) C ci_RL_123 dL_branches_51 rfl ?_
      refine J_icmp_ne (t := 65) C dL_branches_53 (by decide) rfl (fun c_28 => ?_) (fun c_28 => ?_)
      · have h := h.neg c_28
        refine J_aload_n (i := 0) (p := 2) C dL_branches_65 rfl rfl rfl ?_
        refine J_aload_n (i := 2) (p := 4) C dL_branches_66 rfl rfl rfl ?_
        refine J_iconst (v := 1) C (by decide) dL_branches_67 rfl ?_
        refine Jl_aald (r2 := 3) C rfl (by decide) dL_branches_68 rfl ?_
        refine Jl_cS (rest := []) (st9 := fun p_29 => []) C hR hX cs_RL_151 (kL_sees hl rfl (Ok.ofbnd h)) rfl rfl (Nat.le_of_ble_eq_true rfl) (Nat.le_of_ble_eq_true rfl) (Nat.le_of_ble_eq_true rfl) ⟨(Nat.le_of_ble_eq_true rfl), (Nat.le_of_ble_eq_true rfl)⟩ dL_branches_69 rfl (fun _ => rfl) (fun p_29 h => ?_)
        have h : Ok _ _ := h
        change J X K 9 False QQ 1 6 2064 (jl K p_29) 72 [(6, .int x6_5), (5, .int x5_3), (0, .ref (K.2.2 + 47)), (1, .ref (K.2.2 + 0)), (2, .ref (K.2.2 + 1)), (3, .ref (K.2.2 + 42)), (4, .ref (K.2.2 + 43))] []
        refine J_aload_n (i := 0) (p := 2) C dL_branches_72 rfl rfl rfl ?_
        refine J_bipush (v := 10) C (by decide) dL_branches_73 rfl ?_
        refine J_iconst (v := 1) C (by decide) dL_branches_75 rfl ?_
        refine J_iconst (v := 0) C (by decide) dL_branches_76 rfl ?_
        refine J_iconst (v := 0) C (by decide) dL_branches_77 rfl ?_
        refine Jl_cH (rest := []) (st9 := fun p_30 => [.int p_30.1]) C hR hX ch_RL_174 (kL_done hl  (Ok.ofbnd h)) rfl rfl (Nat.le_of_ble_eq_true rfl) (Nat.le_of_ble_eq_true rfl) (Nat.le_of_ble_eq_true rfl) ⟨(Nat.le_of_ble_eq_true rfl), (Nat.le_of_ble_eq_true rfl)⟩ dL_branches_78 rfl (fun _ => rfl) (fun p_30 h => ?_)
        have h : Ok _ _ := h
        change J X K 9 False QQ 2 12 2064 (jl K p_30.2) 81 [(6, .int x6_5), (5, .int x5_3), (0, .ref (K.2.2 + 47)), (1, .ref (K.2.2 + 0)), (2, .ref (K.2.2 + 1)), (3, .ref (K.2.2 + 42)), (4, .ref (K.2.2 + 43))] [.int p_30.1]
        refine J_iconst (v := 1) C (by decide) dL_branches_81 rfl ?_
        refine J_icmp_ne (t := 96) C dL_branches_82 (by decide) rfl (fun c_31 => ?_) (fun c_31 => ?_)
        · have h := h.neg c_31
          refine J.sub [] rfl ?_
          exact hj_96 p_30.2 h
        · have h := h.pos (Decidable.not_not.mp c_31)
          refine J_aload_n (i := 0) (p := 2) C dL_branches_85 rfl rfl rfl ?_
          refine J_aload_n (i := 2) (p := 4) C dL_branches_86 rfl rfl rfl ?_
          refine J_iconst (v := 0) C (by decide) dL_branches_87 rfl ?_
          refine Jl_aald (r2 := 2) C rfl (by decide) dL_branches_88 rfl ?_
          refine J_aload_n (i := 3) (p := 5) C dL_branches_89 rfl rfl rfl ?_
          refine Jl_cS (rest := []) (st9 := fun p_32 => [.int p_32.1]) C hR hX cs_RL_178 (kL_isLike hl rfl (Ok.ofbnd h)) rfl rfl (Nat.le_of_ble_eq_true rfl) (Nat.le_of_ble_eq_true rfl) (Nat.le_of_ble_eq_true rfl) ⟨(Nat.le_of_ble_eq_true rfl), (Nat.le_of_ble_eq_true rfl)⟩ dL_branches_90 rfl (fun _ => rfl) (fun p_32 h => ?_)
          have h : Ok _ _ := h
          change J X K 9 False QQ 2 12 2064 (jl K p_32.2) 93 [(6, .int x6_5), (5, .int x5_3), (0, .ref (K.2.2 + 47)), (1, .ref (K.2.2 + 0)), (2, .ref (K.2.2 + 1)), (3, .ref (K.2.2 + 42)), (4, .ref (K.2.2 + 43))] [.int p_32.1]
          refine J_if_ne (t := 98) C dL_branches_93 (by decide) rfl (fun c_33 => ?_) (fun c_33 => ?_)
          · have h := h.neg c_33
            refine J_aload_n (i := 0) (p := 2) C dL_branches_98 rfl rfl rfl ?_
            refine J_iconst (v := 2) C (by decide) dL_branches_99 rfl ?_
            refine J_iconst (v := 0) C (by decide) dL_branches_100 rfl ?_
            refine J_iconst (v := 0) C (by decide) dL_branches_101 rfl ?_
            refine J_iconst (v := 0) C (by decide) dL_branches_102 rfl ?_
            refine Jl_cH (rest := []) (st9 := fun p_34 => [.int p_34.1]) C hR hX ch_RL_174 (kL_done hl  (Ok.ofbnd h)) rfl rfl (Nat.le_of_ble_eq_true rfl) (Nat.le_of_ble_eq_true rfl) (Nat.le_of_ble_eq_true rfl) ⟨(Nat.le_of_ble_eq_true rfl), (Nat.le_of_ble_eq_true rfl)⟩ dL_branches_103 rfl (fun _ => rfl) (fun p_34 h => ?_)
            have h : Ok _ _ := h
            change J X K 9 False QQ 3 18 2064 (jl K p_34.2) 106 [(6, .int x6_5), (5, .int x5_3), (0, .ref (K.2.2 + 47)), (1, .ref (K.2.2 + 0)), (2, .ref (K.2.2 + 1)), (3, .ref (K.2.2 + 42)), (4, .ref (K.2.2 + 43))] [.int p_34.1]
            obtain ⟨x7_6, e_x7_6, h⟩ := Ok.nm h
            refine J_istoreE (i := 7) (lv' := [(7, .int x7_6), (6, .int x6_5), (5, .int x5_3), (0, .ref (K.2.2 + 47)), (1, .ref (K.2.2 + 0)), (2, .ref (K.2.2 + 1)), (3, .ref (K.2.2 + 42)), (4, .ref (K.2.2 + 43))]) C e_x7_6 dL_branches_106 (Nat.le_of_ble_eq_true rfl) rfl rfl ?_
            refine J_iload (i := 7) (p := 0) C dL_branches_108 rfl rfl ?_
            refine J_ldc (v := -1000003) C ci_RL_123 dL_branches_110 rfl ?_
            refine J_icmp_ne (t := 117) C dL_branches_112 (by decide) rfl (fun c_35 => ?_) (fun c_35 => ?_)
            · have h := h.neg c_35
              refine J_aload_n (i := 0) (p := 3) C dL_branches_117 rfl rfl rfl ?_
              refine J_aload_n (i := 2) (p := 5) C dL_branches_118 rfl rfl rfl ?_
              refine J_iconst (v := 2) C (by decide) dL_branches_119 rfl ?_
              refine Jl_aald (r2 := 4) C rfl (by decide) dL_branches_120 rfl ?_
              refine Jl_cS (rest := []) (st9 := fun p_36 => []) C hR hX cs_RL_151 (kL_sees hl rfl (Ok.ofbnd h)) rfl rfl (Nat.le_of_ble_eq_true rfl) (Nat.le_of_ble_eq_true rfl) (Nat.le_of_ble_eq_true rfl) ⟨(Nat.le_of_ble_eq_true rfl), (Nat.le_of_ble_eq_true rfl)⟩ dL_branches_121 rfl (fun _ => rfl) (fun p_36 h => ?_)
              have h : Ok _ _ := h
              change J X K 9 False QQ 3 18 2064 (jl K p_36) 124 [(7, .int x7_6), (6, .int x6_5), (5, .int x5_3), (0, .ref (K.2.2 + 47)), (1, .ref (K.2.2 + 0)), (2, .ref (K.2.2 + 1)), (3, .ref (K.2.2 + 42)), (4, .ref (K.2.2 + 43))] []
              refine J_iload (i := 6) (p := 1) C dL_branches_124 rfl rfl ?_
              refine J_if_le (t := 204) C dL_branches_126 (by decide) rfl (fun c_37 => ?_) (fun c_37 => ?_)
              · have h := h.pos c_37
                refine J.widen (k' := 6) (sl' := 36) (Nat.le_of_ble_eq_true rfl) (Nat.le_of_ble_eq_true rfl) ?_
                refine J.sub [3, 5, 6, 2] rfl ?_
                exact hj_204 p_36 x5_3 h
              · have h := h.neg c_37
                refine J_iload (i := 7) (p := 0) C dL_branches_129 rfl rfl ?_
                refine J_if_le (t := 204) C dL_branches_131 (by decide) rfl (fun c_38 => ?_) (fun c_38 => ?_)
                · have h := h.pos c_38
                  refine J.widen (k' := 6) (sl' := 36) (Nat.le_of_ble_eq_true rfl) (Nat.le_of_ble_eq_true rfl) ?_
                  refine J.sub [3, 5, 6, 2] rfl ?_
                  exact hj_204 p_36 x5_3 h
                · have h := h.neg c_38
                  refine J_aload_n (i := 0) (p := 3) C dL_branches_134 rfl rfl rfl ?_
                  refine J_bipush (v := 10) C (by decide) dL_branches_135 rfl ?_
                  refine J_iconst (v := 1) C (by decide) dL_branches_137 rfl ?_
                  refine J_iconst (v := 0) C (by decide) dL_branches_138 rfl ?_
                  refine J_iconst (v := 0) C (by decide) dL_branches_139 rfl ?_
                  refine Jl_cH (rest := []) (st9 := fun p_39 => [.int p_39.1]) C hR hX ch_RL_174 (kL_done hl  (Ok.ofbnd h)) rfl rfl (Nat.le_of_ble_eq_true rfl) (Nat.le_of_ble_eq_true rfl) (Nat.le_of_ble_eq_true rfl) ⟨(Nat.le_of_ble_eq_true rfl), (Nat.le_of_ble_eq_true rfl)⟩ dL_branches_140 rfl (fun _ => rfl) (fun p_39 h => ?_)
                  have h : Ok _ _ := h
                  change J X K 9 False QQ 4 24 2064 (jl K p_39.2) 143 [(7, .int x7_6), (6, .int x6_5), (5, .int x5_3), (0, .ref (K.2.2 + 47)), (1, .ref (K.2.2 + 0)), (2, .ref (K.2.2 + 1)), (3, .ref (K.2.2 + 42)), (4, .ref (K.2.2 + 43))] [.int p_39.1]
                  refine J_iconst (v := 1) C (by decide) dL_branches_143 rfl ?_
                  refine J_icmp_ne (t := 204) C dL_branches_144 (by decide) rfl (fun c_40 => ?_) (fun c_40 => ?_)
                  · have h := h.neg c_40
                    refine J.widen (k' := 6) (sl' := 36) (Nat.le_of_ble_eq_true rfl) (Nat.le_of_ble_eq_true rfl) ?_
                    refine J.sub [3, 5, 6, 2] rfl ?_
                    exact hj_204 p_39.2 x5_3 h
                  · have h := h.pos (Decidable.not_not.mp c_40)
                    refine J_aload_n (i := 0) (p := 3) C dL_branches_147 rfl rfl rfl ?_
                    refine J_iconst (v := 3) C (by decide) dL_branches_148 rfl ?_
                    refine Jl_cV (rest := []) (st9 := fun p_41 => [.int p_41.1]) (wd := fun p_41 => p_41.2) C hR hX cv_RL_189 (k11_acts_n hl (Ok.ofnox h) (fun c hc => hc)) rfl rfl (Nat.le_of_ble_eq_true rfl) (Nat.le_of_ble_eq_true rfl) (Nat.le_of_ble_eq_true rfl) ⟨(Nat.le_of_ble_eq_true rfl), (Nat.le_of_ble_eq_true rfl)⟩ dL_branches_149 rfl (fun E n9 w9 hx => hx.elim) (fun _ => rfl) (fun p_41 h => ?_)
                    have h : Ok _ _ := h
                    change J X K 9 False QQ 4 24 2064 (jl K (p_39.2.1, p_41.2)) 152 [(7, .int x7_6), (6, .int x6_5), (5, .int x5_3), (0, .ref (K.2.2 + 47)), (1, .ref (K.2.2 + 0)), (2, .ref (K.2.2 + 1)), (3, .ref (K.2.2 + 42)), (4, .ref (K.2.2 + 43))] [.int p_41.1]
                    refine J_iload (i := 5) (p := 2) C dL_branches_152 rfl rfl ?_
                    refine J_iconst (v := 2) C (by decide) dL_branches_154 rfl ?_
                    refine J_iadd C dL_branches_155 rfl ?_
                    refine J_icmp_ne (t := 204) C dL_branches_156 (by decide) rfl (fun c_42 => ?_) (fun c_42 => ?_)
                    · have h := h.neg c_42
                      refine J.widen (k' := 6) (sl' := 36) (Nat.le_of_ble_eq_true rfl) (Nat.le_of_ble_eq_true rfl) ?_
                      refine J.sub [3, 5, 6, 2] rfl ?_
                      exact hj_204 (p_39.2.1, p_41.2) x5_3 h
                    · have h := h.pos (Decidable.not_not.mp c_42)
                      refine J_aload_n (i := 0) (p := 3) C dL_branches_159 rfl rfl rfl ?_
                      refine J_bipush (v := 12) C (by decide) dL_branches_160 rfl ?_
                      refine J_iload (i := 5) (p := 2) C dL_branches_162 rfl rfl ?_
                      refine J_iconst (v := 0) C (by decide) dL_branches_164 rfl ?_
                      refine J_iconst (v := 0) C (by decide) dL_branches_165 rfl ?_
                      refine Jl_cH (rest := []) (st9 := fun p_43 => [.int p_43.1]) C hR hX ch_RL_174 (kL_done hl  (Ok.ofbnd h)) rfl rfl (Nat.le_of_ble_eq_true rfl) (Nat.le_of_ble_eq_true rfl) (Nat.le_of_ble_eq_true rfl) ⟨(Nat.le_of_ble_eq_true rfl), (Nat.le_of_ble_eq_true rfl)⟩ dL_branches_166 rfl (fun _ => rfl) (fun p_43 h => ?_)
                      have h : Ok _ _ := h
                      change J X K 9 False QQ 5 30 2064 (jl K p_43.2) 169 [(7, .int x7_6), (6, .int x6_5), (5, .int x5_3), (0, .ref (K.2.2 + 47)), (1, .ref (K.2.2 + 0)), (2, .ref (K.2.2 + 1)), (3, .ref (K.2.2 + 42)), (4, .ref (K.2.2 + 43))] [.int p_43.1]
                      refine J_iload (i := 5) (p := 2) C dL_branches_169 rfl rfl ?_
                      refine J_iconst (v := 2) C (by decide) dL_branches_171 rfl ?_
                      refine J_iadd C dL_branches_172 rfl ?_
                      refine J_icmp_ne (t := 204) C dL_branches_173 (by decide) rfl (fun c_44 => ?_) (fun c_44 => ?_)
                      · have h := h.neg c_44
                        refine J.widen (k' := 6) (sl' := 36) (Nat.le_of_ble_eq_true rfl) (Nat.le_of_ble_eq_true rfl) ?_
                        refine J.sub [3, 5, 6, 2] rfl ?_
                        exact hj_204 p_43.2 x5_3 h
                      · have h := h.pos (Decidable.not_not.mp c_44)
                        refine J_aload_n (i := 0) (p := 3) C dL_branches_176 rfl rfl rfl ?_
                        refine J_bipush (v := 11) C (by decide) dL_branches_177 rfl ?_
                        refine J_iconst (v := 1) C (by decide) dL_branches_179 rfl ?_
                        refine J_iconst (v := 0) C (by decide) dL_branches_180 rfl ?_
                        refine J_iconst (v := 0) C (by decide) dL_branches_181 rfl ?_
                        refine Jl_cH (rest := []) (st9 := fun p_45 => [.int p_45.1]) C hR hX ch_RL_174 (kL_done hl  (Ok.ofbnd h)) rfl rfl (Nat.le_of_ble_eq_true rfl) (Nat.le_of_ble_eq_true rfl) (Nat.le_of_ble_eq_true rfl) ⟨(Nat.le_of_ble_eq_true rfl), (Nat.le_of_ble_eq_true rfl)⟩ dL_branches_182 rfl (fun _ => rfl) (fun p_45 h => ?_)
                        have h : Ok _ _ := h
                        change J X K 9 False QQ 6 36 2064 (jl K p_45.2) 185 [(7, .int x7_6), (6, .int x6_5), (5, .int x5_3), (0, .ref (K.2.2 + 47)), (1, .ref (K.2.2 + 0)), (2, .ref (K.2.2 + 1)), (3, .ref (K.2.2 + 42)), (4, .ref (K.2.2 + 43))] [.int p_45.1]
                        refine J_iconst (v := 1) C (by decide) dL_branches_185 rfl ?_
                        refine J_icmp_ne (t := 204) C dL_branches_186 (by decide) rfl (fun c_46 => ?_) (fun c_46 => ?_)
                        · have h := h.neg c_46
                          refine J.sub [3, 5, 6, 2] rfl ?_
                          exact hj_204 p_45.2 x5_3 h
                        · have h := h.pos (Decidable.not_not.mp c_46)
                          refine J_aload_n (i := 0) (p := 3) C dL_branches_189 rfl rfl rfl ?_
                          refine J_aload_n (i := 2) (p := 5) C dL_branches_190 rfl rfl rfl ?_
                          refine J_iconst (v := 1) C (by decide) dL_branches_191 rfl ?_
                          refine Jl_aald (r2 := 3) C rfl (by decide) dL_branches_192 rfl ?_
                          refine J_aload_n (i := 3) (p := 6) C dL_branches_193 rfl rfl rfl ?_
                          refine Jl_cS (rest := []) (st9 := fun p_47 => [.int p_47.1]) C hR hX cs_RL_178 (kL_isLike hl rfl (Ok.ofbnd h)) rfl rfl (Nat.le_of_ble_eq_true rfl) (Nat.le_of_ble_eq_true rfl) (Nat.le_of_ble_eq_true rfl) ⟨(Nat.le_of_ble_eq_true rfl), (Nat.le_of_ble_eq_true rfl)⟩ dL_branches_194 rfl (fun _ => rfl) (fun p_47 h => ?_)
                          have h : Ok _ _ := h
                          change J X K 9 False QQ 6 36 2064 (jl K p_47.2) 197 [(7, .int x7_6), (6, .int x6_5), (5, .int x5_3), (0, .ref (K.2.2 + 47)), (1, .ref (K.2.2 + 0)), (2, .ref (K.2.2 + 1)), (3, .ref (K.2.2 + 42)), (4, .ref (K.2.2 + 43))] [.int p_47.1]
                          refine J_if_eq (t := 204) C dL_branches_197 (by decide) rfl (fun c_48 => ?_) (fun c_48 => ?_)
                          · have h := h.pos c_48
                            refine J.sub [3, 5, 6, 2] rfl ?_
                            exact hj_204 p_47.2 x5_3 h
                          · have h := h.neg c_48
                            refine J_iconst (v := 1) C (by decide) dL_branches_200 rfl ?_
                            refine J_goto (t := 205) C dL_branches_201 (by decide) ?_
                            refine J.sub [3, 5, 6, 2] rfl ?_
                            exact hj_205 p_47.2 x5_3 (1 : Int32) h
            · have h := h.pos (Decidable.not_not.mp c_35)
              refine J_iconst (v := 1) C (by decide) dL_branches_115 rfl ?_
              rw [← hQQ]
              exact J_zret C hret rfl (Nat.le_of_ble_eq_true rfl) (Nat.le_of_ble_eq_true rfl) ⟨_, h.osome, rfl, rfl, rfl⟩ dL_branches_116
          · have h := h.pos (Decidable.not_not.mp c_33)
            refine J.sub [] rfl ?_
            exact hj_96 p_32.2 h
      · have h := h.pos (Decidable.not_not.mp c_28)
        refine J_aload_n (i := 0) (p := 2) C dL_branches_56 rfl rfl rfl ?_
        refine J_aload_n (i := 2) (p := 4) C dL_branches_57 rfl rfl rfl ?_
        refine J_iconst (v := 0) C (by decide) dL_branches_58 rfl ?_
        refine Jl_aald (r2 := 2) C rfl (by decide) dL_branches_59 rfl ?_
        refine J_aload_n (i := 3) (p := 5) C dL_branches_60 rfl rfl rfl ?_
        refine Jl_cS (rest := []) (st9 := fun p_49 => [.int p_49.1]) C hR hX cs_RL_178 (kL_isLike hl rfl (Ok.ofbnd h)) rfl rfl (Nat.le_of_ble_eq_true rfl) (Nat.le_of_ble_eq_true rfl) (Nat.le_of_ble_eq_true rfl) ⟨(Nat.le_of_ble_eq_true rfl), (Nat.le_of_ble_eq_true rfl)⟩ dL_branches_61 rfl (fun _ => rfl) (fun p_49 h => ?_)
        have h : Ok _ _ := h
        change J X K 9 False QQ 1 6 2064 (jl K p_49.2) 64 [(6, .int x6_5), (5, .int x5_3), (0, .ref (K.2.2 + 47)), (1, .ref (K.2.2 + 0)), (2, .ref (K.2.2 + 1)), (3, .ref (K.2.2 + 42)), (4, .ref (K.2.2 + 43))] [.int p_49.1]
        obtain ⟨g_50, h⟩ := Ok.ofgd h
        rw [← hQQ]
        exact J_zret C hret (narB g_50).1 (Nat.le_of_ble_eq_true rfl) (Nat.le_of_ble_eq_true rfl) ⟨_, h.osome, rfl, rfl, rfl⟩ dL_branches_64
    · have h := h.neg c_26
      refine J.sub [] rfl ?_
      exact hj_37 p_24.2 h
def fL_records_j445 (τ_445 : LawS) (s0_445 : Int32) : Option (Int32 × LawS) :=
  gd (isB s0_445) <|
  some (s0_445, τ_445)
def fL_records_j444 (τ_444 : LawS) : Option (Int32 × LawS) :=
  fL_records_j445 τ_444 (0 : Int32)
def fL_records_j356 (τ_356 : LawS) (s0_356 : Int32) : Option (Int32 × LawS) :=
  gd (isB s0_356) <|
  some (s0_356, τ_356)
def fL_records_j355 (τ_355 : LawS) : Option (Int32 × LawS) :=
  fL_records_j356 τ_355 (0 : Int32)
def fL_records_j306 (τ_306 : LawS) (l6_306 : Int32) (l10_306 : Int32) (s0_306 : Int32) : Option (Int32 × LawS) :=
  stp s0_306 fun x7_1 =>
  bnd (fL_done τ_306 (24 : Int32) (1 : Int32) (0 : Int32) (0 : Int32)) fun p_3 =>
  stp p_3.1 fun x11_2 =>
  if x11_2 = 0 then
    if x7_1 = 0 then
      fL_records_j355 p_3.2
    else
      bnd (nox (f11_acts p_3.2.2 (0 : Int32))) fun p_20 =>
      if p_20.1 = (150 : Int32) then
        bnd (fL_isLike (p_3.2.1, p_20.2) 2) fun p_22 =>
        if p_22.1 = 0 then
          fL_records_j355 p_22.2
        else
          fL_records_j356 p_22.2 (1 : Int32)
      else
        fL_records_j355 (p_3.2.1, p_20.2)
  else
    if x7_1 = 0 then
      fL_records_j444 p_3.2
    else
      if x11_2 = l10_306 then
        bnd (fL_isLike p_3.2 3) fun p_7 =>
        if p_7.1 = 0 then
          fL_records_j444 p_7.2
        else
          bnd (nox (f11_acts p_7.2.2 (1 : Int32))) fun p_9 =>
          if p_9.1 = (l6_306 + (1 : Int32)) then
            bnd (fL_done (p_7.2.1, p_9.2) (10 : Int32) (1 : Int32) (0 : Int32) (0 : Int32)) fun p_11 =>
            if p_11.1 = (1 : Int32) then
              bnd (fL_isLike p_11.2 2) fun p_13 =>
              if p_13.1 = 0 then
                fL_records_j444 p_13.2
              else
                bnd (fL_done p_13.2 (11 : Int32) (1 : Int32) (0 : Int32) (0 : Int32)) fun p_15 =>
                if p_15.1 = (1 : Int32) then
                  bnd (fL_isLike p_15.2 3) fun p_17 =>
                  if p_17.1 = 0 then
                    fL_records_j444 p_17.2
                  else
                    fL_records_j445 p_17.2 (1 : Int32)
                else
                  fL_records_j444 p_15.2
            else
              fL_records_j444 p_11.2
          else
            fL_records_j444 (p_7.2.1, p_9.2)
      else
        fL_records_j444 p_3.2
def fL_records_j305 (τ_305 : LawS) (l6_305 : Int32) (l10_305 : Int32) : Option (Int32 × LawS) :=
  fL_records_j306 τ_305 l6_305 l10_305 (0 : Int32)
def fL_records_j243 (τ_243 : LawS) (l6_243 : Int32) (l8_243 : Int32) (l10_243 : Int32) (s0_243 : Int32) : Option (Int32 × LawS) :=
  stp s0_243 fun x7_3 =>
  if 0 ≤ l8_243 then
    bnd (fL_sees τ_243 3) fun p_25 =>
    if x7_3 = 0 then
      fL_records_j305 p_25 l6_243 l10_243
    else
      bnd (nox (f11_acts p_25.2 (1 : Int32))) fun p_27 =>
      if p_27.1 = (l6_243 + (1 : Int32)) then
        bnd (fL_done (p_25.1, p_27.2) (10 : Int32) (1 : Int32) (0 : Int32) (0 : Int32)) fun p_29 =>
        if p_29.1 = (1 : Int32) then
          bnd (fL_isLike p_29.2 2) fun p_31 =>
          if p_31.1 = 0 then
            fL_records_j305 p_31.2 l6_243 l10_243
          else
            fL_records_j306 p_31.2 l6_243 l10_243 (1 : Int32)
        else
          fL_records_j305 p_29.2 l6_243 l10_243
      else
        fL_records_j305 (p_25.1, p_27.2) l6_243 l10_243
  else
    gd (isB x7_3) <|
    some (x7_3, τ_243)
def fL_records_j242 (τ_242 : LawS) (l6_242 : Int32) (l8_242 : Int32) (l10_242 : Int32) : Option (Int32 × LawS) :=
  fL_records_j243 τ_242 l6_242 l8_242 l10_242 (0 : Int32)
def fL_records_j198 (l6_117 : Int32) (l7_117 : Int32) (l8_117 : Int32) (l9_117 : Int32) (τ_198 : LawS) (l11_198 : Int32) (s0_198 : Int32) (s1_198 : Int32) : Option ((LawS × Int32 × Int32) ⊕ (LawS × Int32)) :=
  bnd (fL_one s1_198) fun p_34 =>
  stp (s0_198 + p_34) fun x10_4 =>
  stp (l11_198 + (-1 : Int32)) fun x11_5 =>
  some (.inl (τ_198, x10_4, x11_5))
def fL_records_j184 (l6_117 : Int32) (l7_117 : Int32) (l8_117 : Int32) (l9_117 : Int32) (τ_184 : LawS) (l10_184 : Int32) (l11_184 : Int32) (s0_184 : Int32) : Option ((LawS × Int32 × Int32) ⊕ (LawS × Int32)) :=
  stp s0_184 fun x12_6 =>
  if x12_6 < 0 then
    fL_records_j198 l6_117 l7_117 l8_117 l9_117 τ_184 l11_184 l10_184 (0 : Int32)
  else
    fL_records_j198 l6_117 l7_117 l8_117 l9_117 τ_184 l11_184 l10_184 (1 : Int32)
def fL_records_b117 (τ_117 : LawS) (l6_117 : Int32) (l7_117 : Int32) (l8_117 : Int32) (l9_117 : Int32) (l10_117 : Int32) (l11_117 : Int32) : Option ((LawS × Int32 × Int32) ⊕ (LawS × Int32)) :=
  if l11_117 ≤ 0 then
    some (.inr (τ_117, l10_117))
  else
    bnd (fL_next τ_117) fun p_42 =>
    if (p_42.1 - p_42.1 / (2 : Int32) * (2 : Int32)) = 0 then
      bnd (fL_from p_42.2 (-3 : Int32) (3 : Int32)) fun p_49 =>
      bnd (fL_done p_49.2 (16 : Int32) l9_117 p_49.1 (0 : Int32)) fun p_50 =>
      fL_records_j184 l6_117 l7_117 l8_117 l9_117 p_50.2 l10_117 l11_117 p_50.1
    else
      bnd (fL_next p_42.2) fun p_44 =>
      if (p_44.1 - p_44.1 / (3 : Int32) * (3 : Int32)) = 0 then
        bnd (fL_done p_44.2 (4 : Int32) (0 : Int32) (0 : Int32) (0 : Int32)) fun p_48 =>
        fL_records_j184 l6_117 l7_117 l8_117 l9_117 p_48.2 l10_117 l11_117 p_48.1
      else
        bnd (fL_from p_44.2 (-4 : Int32) (4 : Int32)) fun p_46 =>
        bnd (fL_done p_46.2 (1 : Int32) p_46.1 (0 : Int32) (0 : Int32)) fun p_47 =>
        fL_records_j184 l6_117 l7_117 l8_117 l9_117 p_47.2 l10_117 l11_117 p_47.1
def fL_records_j117 (τ_117 : LawS) (l6_117 : Int32) (l7_117 : Int32) (l8_117 : Int32) (l9_117 : Int32) (l10_117 : Int32) (l11_117 : Int32) : Option (Int32 × LawS) :=
  bnd (loopF (fun s_117 => fL_records_b117 s_117.1 l6_117 l7_117 l8_117 l9_117 s_117.2.1 s_117.2.2) 4 (τ_117, l10_117, l11_117)) fun r_117 =>
    if l7_117 = 0 then
      fL_records_j242 r_117.1 l6_117 l8_117 r_117.2
    else
      bnd (f11_record r_117.1.2 (0 : Int32)) fun p_52 =>
      if p_52.1 = r_117.2 then
        bnd (fL_done (r_117.1.1, p_52.2) (13 : Int32) (0 : Int32) (0 : Int32) (0 : Int32)) fun p_54 =>
        if p_54.1 = (1 : Int32) then
          fL_records_j243 p_54.2 l6_117 l8_117 r_117.2 (1 : Int32)
        else
          fL_records_j242 p_54.2 l6_117 l8_117 r_117.2
      else
        fL_records_j242 (r_117.1.1, p_52.2) l6_117 l8_117 r_117.2
def fL_records_j104 (τ_104 : LawS) (l6_104 : Int32) (l7_104 : Int32) (l8_104 : Int32) (l9_104 : Int32) (s0_104 : Int32) : Option (Int32 × LawS) :=
  bnd (fL_one s0_104) fun p_56 =>
  stp p_56 fun x10_7 =>
  bnd (fL_next τ_104) fun p_57 =>
  stp (p_57.1 - p_57.1 / (4 : Int32) * (4 : Int32)) fun x11_8 =>
  fL_records_j117 p_57.2 l6_104 l7_104 l8_104 l9_104 x10_7 x11_8
def fL_records_j74 (τ_74 : LawS) (l6_74 : Int32) (s0_74 : Int32) : Option (Int32 × LawS) :=
  stp s0_74 fun x7_9 =>
  bnd (fL_done τ_74 (0 : Int32) (0 : Int32) (0 : Int32) (0 : Int32)) fun p_58 =>
  stp p_58.1 fun x8_10 =>
  bnd (fL_next p_58.2) fun p_59 =>
  stp (p_59.1 - p_59.1 / (5 : Int32) * (5 : Int32)) fun x9_11 =>
  if x8_10 < 0 then
    fL_records_j104 p_59.2 l6_74 x7_9 x8_10 x9_11 (0 : Int32)
  else
    fL_records_j104 p_59.2 l6_74 x7_9 x8_10 x9_11 (1 : Int32)
def fL_records_j73 (τ_73 : LawS) (l6_73 : Int32) : Option (Int32 × LawS) :=
  fL_records_j74 τ_73 l6_73 (0 : Int32)
def fL_records_j34 (τ_34 : LawS) (s0_34 : Int32) : Option (Int32 × LawS) :=
  gd (isB s0_34) <|
  some (s0_34, τ_34)
def fL_records_j24 (τ_24 : LawS) (l5_24 : Int32) : Option (Int32 × LawS) :=
  if l5_24 = 0 then
    fL_records_j34 τ_24 (1 : Int32)
  else
    fL_records_j34 τ_24 (0 : Int32)
def fL_records (τ : LawS) : Option (Int32 × LawS) :=
  bnd (fL_draws τ) fun p_63 =>
  stp p_63.1 fun x5_12 =>
  if x5_12 = 0 then
    fL_records_j24 p_63.2 x5_12
  else
    bnd (fL_feeds p_63.2 43 x5_12) fun p_65 =>
    if p_65.1 = 0 then
      fL_records_j24 p_65.2 x5_12
    else
      bnd (fL_sees p_65.2 2) fun p_67 =>
      bnd (nox (f11_acts p_67.2 (1 : Int32))) fun p_68 =>
      stp p_68.1 fun x6_13 =>
      bnd (fL_done (p_67.1, p_68.2) (13 : Int32) (1 : Int32) (0 : Int32) (0 : Int32)) fun p_69 =>
      if p_69.1 = 0 then
        bnd (f11_record p_69.2.2 (1 : Int32)) fun p_71 =>
        if p_71.1 < 0 then
          fL_records_j73 (p_69.2.1, p_71.2) x6_13
        else
          fL_records_j74 (p_69.2.1, p_71.2) x6_13 (1 : Int32)
      else
        fL_records_j73 p_69.2 x6_13
set_option maxHeartbeats 4000000 in
set_option maxRecDepth 100000 in
theorem kL_records {l : Launch} {K : JK} (hl : l.stackTraces = false) {τ : LawS}   {Qf : Int32 × LawS → Prop} (h : Ok (fL_records τ) Qf) : Con l K yL_records (.code yL_records cL_records 13 (some .boolean) :: TB) 10 11 66 False [.ref (K.2.2 + 47), .ref (K.2.2 + 0), .ref (K.2.2 + 1), .ref (K.2.2 + 42), .ref (K.2.2 + 43)] 2064 (jl K τ) (PL Qf (fun p => some (.int p.1)) (fun p => jl K p.2)) PN := by
  refine Con.enter (own := RL) hl (by decide) rfl (Nat.le_of_ble_eq_true rfl) ?_
  intro X hX hR C hret hnt
  generalize hQQ : jQ X K 11 66 (PL Qf (fun p => some (.int p.1)) (fun p => jl K p.2)) PN False = QQ
  change J X K 13 False QQ 0 0 2064 (jl K τ) 0 [(0, .ref (K.2.2 + 47)), (1, .ref (K.2.2 + 0)), (2, .ref (K.2.2 + 1)), (3, .ref (K.2.2 + 42)), (4, .ref (K.2.2 + 43))] []
  have hj_445 : (∀ (τ_445 : LawS) (s0_445 : Int32), Ok (fL_records_j445 τ_445 s0_445) Qf → J X K 13 False QQ 11 66 2064 (jl K τ_445) 445 [] [.int s0_445]) := by
    intro τ_445 s0_445 h
    unfold fL_records_j445 at h
    obtain ⟨g_1, h⟩ := Ok.ofgd h
    rw [← hQQ]
    exact J_zret C hret (narB g_1).1 (Nat.le_of_ble_eq_true rfl) (Nat.le_of_ble_eq_true rfl) ⟨_, h.osome, rfl, rfl, rfl⟩ dL_records_445
  have hj_444 : (∀ (τ_444 : LawS), Ok (fL_records_j444 τ_444) Qf → J X K 13 False QQ 11 66 2064 (jl K τ_444) 444 [] []) := by
    intro τ_444 h
    unfold fL_records_j444 at h
    refine J_iconst (v := 0) C (by decide) dL_records_444 rfl ?_
    exact hj_445 τ_444 (0 : Int32) h
  have hj_356 : (∀ (τ_356 : LawS) (s0_356 : Int32), Ok (fL_records_j356 τ_356 s0_356) Qf → J X K 13 False QQ 9 54 2064 (jl K τ_356) 356 [] [.int s0_356]) := by
    intro τ_356 s0_356 h
    unfold fL_records_j356 at h
    obtain ⟨g_2, h⟩ := Ok.ofgd h
    rw [← hQQ]
    exact J_zret C hret (narB g_2).1 (Nat.le_of_ble_eq_true rfl) (Nat.le_of_ble_eq_true rfl) ⟨_, h.osome, rfl, rfl, rfl⟩ dL_records_356
  have hj_355 : (∀ (τ_355 : LawS), Ok (fL_records_j355 τ_355) Qf → J X K 13 False QQ 9 54 2064 (jl K τ_355) 355 [] []) := by
    intro τ_355 h
    unfold fL_records_j355 at h
    refine J_iconst (v := 0) C (by decide) dL_records_355 rfl ?_
    exact hj_356 τ_355 (0 : Int32) h
  have hj_306 : (∀ (τ_306 : LawS) (l6_306 : Int32) (l10_306 : Int32) (s0_306 : Int32), Ok (fL_records_j306 τ_306 l6_306 l10_306 s0_306) Qf → J X K 13 False QQ 8 48 2064 (jl K τ_306) 306 [(0, .ref (K.2.2 + 47)), (2, .ref (K.2.2 + 1)), (3, .ref (K.2.2 + 42)), (6, .int l6_306), (10, .int l10_306)] [.int s0_306]) := by
    intro τ_306 l6_306 l10_306 s0_306 h
    unfold fL_records_j306 at h
    obtain ⟨x7_1, e_x7_1, h⟩ := Ok.nm h
    refine J_istoreE (i := 7) (lv' := [(7, .int x7_1), (0, .ref (K.2.2 + 47)), (2, .ref (K.2.2 + 1)), (3, .ref (K.2.2 + 42)), (6, .int l6_306), (10, .int l10_306)]) C e_x7_1 dL_records_306 (Nat.le_of_ble_eq_true rfl) rfl rfl ?_
    refine J_aload_n (i := 0) (p := 1) C dL_records_308 rfl rfl rfl ?_
    refine J_bipush (v := 24) C (by decide) dL_records_309 rfl ?_
    refine J_iconst (v := 1) C (by decide) dL_records_311 rfl ?_
    refine J_iconst (v := 0) C (by decide) dL_records_312 rfl ?_
    refine J_iconst (v := 0) C (by decide) dL_records_313 rfl ?_
    refine Jl_cH (rest := []) (st9 := fun p_3 => [.int p_3.1]) C hR hX ch_RL_174 (kL_done hl  (Ok.ofbnd h)) rfl rfl (Nat.le_of_ble_eq_true rfl) (Nat.le_of_ble_eq_true rfl) (Nat.le_of_ble_eq_true rfl) ⟨(Nat.le_of_ble_eq_true rfl), (Nat.le_of_ble_eq_true rfl)⟩ dL_records_314 rfl (fun _ => rfl) (fun p_3 h => ?_)
    have h : Ok _ _ := h
    change J X K 13 False QQ 9 54 2064 (jl K p_3.2) 317 [(7, .int x7_1), (0, .ref (K.2.2 + 47)), (2, .ref (K.2.2 + 1)), (3, .ref (K.2.2 + 42)), (6, .int l6_306), (10, .int l10_306)] [.int p_3.1]
    obtain ⟨x11_2, e_x11_2, h⟩ := Ok.nm h
    refine J_istoreE (i := 11) (lv' := [(11, .int x11_2), (7, .int x7_1), (0, .ref (K.2.2 + 47)), (2, .ref (K.2.2 + 1)), (3, .ref (K.2.2 + 42)), (6, .int l6_306), (10, .int l10_306)]) C e_x11_2 dL_records_317 (Nat.le_of_ble_eq_true rfl) rfl rfl ?_
    refine J_iload (i := 11) (p := 0) C dL_records_319 rfl rfl ?_
    refine J_if_ne (t := 357) C dL_records_321 (by decide) rfl (fun c_4 => ?_) (fun c_4 => ?_)
    · have h := h.neg c_4
      refine J_iload (i := 7) (p := 1) C dL_records_357 rfl rfl ?_
      refine J_if_eq (t := 444) C dL_records_359 (by decide) rfl (fun c_5 => ?_) (fun c_5 => ?_)
      · have h := h.pos c_5
        refine J.widen (k' := 11) (sl' := 66) (Nat.le_of_ble_eq_true rfl) (Nat.le_of_ble_eq_true rfl) ?_
        refine J.sub [] rfl ?_
        exact hj_444 p_3.2 h
      · have h := h.neg c_5
        refine J_iload (i := 11) (p := 0) C dL_records_362 rfl rfl ?_
        refine J_iload (i := 10) (p := 6) C dL_records_364 rfl rfl ?_
        refine J_icmp_ne (t := 444) C dL_records_366 (by decide) rfl (fun c_6 => ?_) (fun c_6 => ?_)
        · have h := h.neg c_6
          refine J.widen (k' := 11) (sl' := 66) (Nat.le_of_ble_eq_true rfl) (Nat.le_of_ble_eq_true rfl) ?_
          refine J.sub [] rfl ?_
          exact hj_444 p_3.2 h
        · have h := h.pos (Decidable.not_not.mp c_6)
          refine J_aload_n (i := 0) (p := 2) C dL_records_369 rfl rfl rfl ?_
          refine J_aload_n (i := 2) (p := 3) C dL_records_370 rfl rfl rfl ?_
          refine J_iconst (v := 1) C (by decide) dL_records_371 rfl ?_
          refine Jl_aald (r2 := 3) C rfl (by decide) dL_records_372 rfl ?_
          refine J_aload_n (i := 3) (p := 4) C dL_records_373 rfl rfl rfl ?_
          refine Jl_cS (rest := []) (st9 := fun p_7 => [.int p_7.1]) C hR hX cs_RL_178 (kL_isLike hl rfl (Ok.ofbnd h)) rfl rfl (Nat.le_of_ble_eq_true rfl) (Nat.le_of_ble_eq_true rfl) (Nat.le_of_ble_eq_true rfl) ⟨(Nat.le_of_ble_eq_true rfl), (Nat.le_of_ble_eq_true rfl)⟩ dL_records_374 rfl (fun _ => rfl) (fun p_7 h => ?_)
          have h : Ok _ _ := h
          change J X K 13 False QQ 9 54 2064 (jl K p_7.2) 377 [(11, .int x11_2), (7, .int x7_1), (0, .ref (K.2.2 + 47)), (2, .ref (K.2.2 + 1)), (3, .ref (K.2.2 + 42)), (6, .int l6_306), (10, .int l10_306)] [.int p_7.1]
          refine J_if_eq (t := 444) C dL_records_377 (by decide) rfl (fun c_8 => ?_) (fun c_8 => ?_)
          · have h := h.pos c_8
            refine J.widen (k' := 11) (sl' := 66) (Nat.le_of_ble_eq_true rfl) (Nat.le_of_ble_eq_true rfl) ?_
            refine J.sub [] rfl ?_
            exact hj_444 p_7.2 h
          · have h := h.neg c_8
            refine J_aload_n (i := 0) (p := 2) C dL_records_380 rfl rfl rfl ?_
            refine J_iconst (v := 1) C (by decide) dL_records_381 rfl ?_
            refine Jl_cV (rest := []) (st9 := fun p_9 => [.int p_9.1]) (wd := fun p_9 => p_9.2) C hR hX cv_RL_189 (k11_acts_n hl (Ok.ofnox h) (fun c hc => hc)) rfl rfl (Nat.le_of_ble_eq_true rfl) (Nat.le_of_ble_eq_true rfl) (Nat.le_of_ble_eq_true rfl) ⟨(Nat.le_of_ble_eq_true rfl), (Nat.le_of_ble_eq_true rfl)⟩ dL_records_382 rfl (fun E n9 w9 hx => hx.elim) (fun _ => rfl) (fun p_9 h => ?_)
            have h : Ok _ _ := h
            change J X K 13 False QQ 9 54 2064 (jl K (p_7.2.1, p_9.2)) 385 [(11, .int x11_2), (7, .int x7_1), (0, .ref (K.2.2 + 47)), (2, .ref (K.2.2 + 1)), (3, .ref (K.2.2 + 42)), (6, .int l6_306), (10, .int l10_306)] [.int p_9.1]
            refine J_iload (i := 6) (p := 5) C dL_records_385 rfl rfl ?_
            refine J_iconst (v := 1) C (by decide) dL_records_387 rfl ?_
            refine J_iadd C dL_records_388 rfl ?_
            refine J_icmp_ne (t := 444) C dL_records_389 (by decide) rfl (fun c_10 => ?_) (fun c_10 => ?_)
            · have h := h.neg c_10
              refine J.widen (k' := 11) (sl' := 66) (Nat.le_of_ble_eq_true rfl) (Nat.le_of_ble_eq_true rfl) ?_
              refine J.sub [] rfl ?_
              exact hj_444 (p_7.2.1, p_9.2) h
            · have h := h.pos (Decidable.not_not.mp c_10)
              refine J_aload_n (i := 0) (p := 2) C dL_records_392 rfl rfl rfl ?_
              refine J_bipush (v := 10) C (by decide) dL_records_393 rfl ?_
              refine J_iconst (v := 1) C (by decide) dL_records_395 rfl ?_
              refine J_iconst (v := 0) C (by decide) dL_records_396 rfl ?_
              refine J_iconst (v := 0) C (by decide) dL_records_397 rfl ?_
              refine Jl_cH (rest := []) (st9 := fun p_11 => [.int p_11.1]) C hR hX ch_RL_174 (kL_done hl  (Ok.ofbnd h)) rfl rfl (Nat.le_of_ble_eq_true rfl) (Nat.le_of_ble_eq_true rfl) (Nat.le_of_ble_eq_true rfl) ⟨(Nat.le_of_ble_eq_true rfl), (Nat.le_of_ble_eq_true rfl)⟩ dL_records_398 rfl (fun _ => rfl) (fun p_11 h => ?_)
              have h : Ok _ _ := h
              change J X K 13 False QQ 10 60 2064 (jl K p_11.2) 401 [(11, .int x11_2), (7, .int x7_1), (0, .ref (K.2.2 + 47)), (2, .ref (K.2.2 + 1)), (3, .ref (K.2.2 + 42)), (6, .int l6_306), (10, .int l10_306)] [.int p_11.1]
              refine J_iconst (v := 1) C (by decide) dL_records_401 rfl ?_
              refine J_icmp_ne (t := 444) C dL_records_402 (by decide) rfl (fun c_12 => ?_) (fun c_12 => ?_)
              · have h := h.neg c_12
                refine J.widen (k' := 11) (sl' := 66) (Nat.le_of_ble_eq_true rfl) (Nat.le_of_ble_eq_true rfl) ?_
                refine J.sub [] rfl ?_
                exact hj_444 p_11.2 h
              · have h := h.pos (Decidable.not_not.mp c_12)
                refine J_aload_n (i := 0) (p := 2) C dL_records_405 rfl rfl rfl ?_
                refine J_aload_n (i := 2) (p := 3) C dL_records_406 rfl rfl rfl ?_
                refine J_iconst (v := 0) C (by decide) dL_records_407 rfl ?_
                refine Jl_aald (r2 := 2) C rfl (by decide) dL_records_408 rfl ?_
                refine J_aload_n (i := 3) (p := 4) C dL_records_409 rfl rfl rfl ?_
                refine Jl_cS (rest := []) (st9 := fun p_13 => [.int p_13.1]) C hR hX cs_RL_178 (kL_isLike hl rfl (Ok.ofbnd h)) rfl rfl (Nat.le_of_ble_eq_true rfl) (Nat.le_of_ble_eq_true rfl) (Nat.le_of_ble_eq_true rfl) ⟨(Nat.le_of_ble_eq_true rfl), (Nat.le_of_ble_eq_true rfl)⟩ dL_records_410 rfl (fun _ => rfl) (fun p_13 h => ?_)
                have h : Ok _ _ := h
                change J X K 13 False QQ 10 60 2064 (jl K p_13.2) 413 [(11, .int x11_2), (7, .int x7_1), (0, .ref (K.2.2 + 47)), (2, .ref (K.2.2 + 1)), (3, .ref (K.2.2 + 42)), (6, .int l6_306), (10, .int l10_306)] [.int p_13.1]
                refine J_if_eq (t := 444) C dL_records_413 (by decide) rfl (fun c_14 => ?_) (fun c_14 => ?_)
                · have h := h.pos c_14
                  refine J.widen (k' := 11) (sl' := 66) (Nat.le_of_ble_eq_true rfl) (Nat.le_of_ble_eq_true rfl) ?_
                  refine J.sub [] rfl ?_
                  exact hj_444 p_13.2 h
                · have h := h.neg c_14
                  refine J_aload_n (i := 0) (p := 2) C dL_records_416 rfl rfl rfl ?_
                  refine J_bipush (v := 11) C (by decide) dL_records_417 rfl ?_
                  refine J_iconst (v := 1) C (by decide) dL_records_419 rfl ?_
                  refine J_iconst (v := 0) C (by decide) dL_records_420 rfl ?_
                  refine J_iconst (v := 0) C (by decide) dL_records_421 rfl ?_
                  refine Jl_cH (rest := []) (st9 := fun p_15 => [.int p_15.1]) C hR hX ch_RL_174 (kL_done hl  (Ok.ofbnd h)) rfl rfl (Nat.le_of_ble_eq_true rfl) (Nat.le_of_ble_eq_true rfl) (Nat.le_of_ble_eq_true rfl) ⟨(Nat.le_of_ble_eq_true rfl), (Nat.le_of_ble_eq_true rfl)⟩ dL_records_422 rfl (fun _ => rfl) (fun p_15 h => ?_)
                  have h : Ok _ _ := h
                  change J X K 13 False QQ 11 66 2064 (jl K p_15.2) 425 [(11, .int x11_2), (7, .int x7_1), (0, .ref (K.2.2 + 47)), (2, .ref (K.2.2 + 1)), (3, .ref (K.2.2 + 42)), (6, .int l6_306), (10, .int l10_306)] [.int p_15.1]
                  refine J_iconst (v := 1) C (by decide) dL_records_425 rfl ?_
                  refine J_icmp_ne (t := 444) C dL_records_426 (by decide) rfl (fun c_16 => ?_) (fun c_16 => ?_)
                  · have h := h.neg c_16
                    refine J.sub [] rfl ?_
                    exact hj_444 p_15.2 h
                  · have h := h.pos (Decidable.not_not.mp c_16)
                    refine J_aload_n (i := 0) (p := 2) C dL_records_429 rfl rfl rfl ?_
                    refine J_aload_n (i := 2) (p := 3) C dL_records_430 rfl rfl rfl ?_
                    refine J_iconst (v := 1) C (by decide) dL_records_431 rfl ?_
                    refine Jl_aald (r2 := 3) C rfl (by decide) dL_records_432 rfl ?_
                    refine J_aload_n (i := 3) (p := 4) C dL_records_433 rfl rfl rfl ?_
                    refine Jl_cS (rest := []) (st9 := fun p_17 => [.int p_17.1]) C hR hX cs_RL_178 (kL_isLike hl rfl (Ok.ofbnd h)) rfl rfl (Nat.le_of_ble_eq_true rfl) (Nat.le_of_ble_eq_true rfl) (Nat.le_of_ble_eq_true rfl) ⟨(Nat.le_of_ble_eq_true rfl), (Nat.le_of_ble_eq_true rfl)⟩ dL_records_434 rfl (fun _ => rfl) (fun p_17 h => ?_)
                    have h : Ok _ _ := h
                    change J X K 13 False QQ 11 66 2064 (jl K p_17.2) 437 [(11, .int x11_2), (7, .int x7_1), (0, .ref (K.2.2 + 47)), (2, .ref (K.2.2 + 1)), (3, .ref (K.2.2 + 42)), (6, .int l6_306), (10, .int l10_306)] [.int p_17.1]
                    refine J_if_eq (t := 444) C dL_records_437 (by decide) rfl (fun c_18 => ?_) (fun c_18 => ?_)
                    · have h := h.pos c_18
                      refine J.sub [] rfl ?_
                      exact hj_444 p_17.2 h
                    · have h := h.neg c_18
                      refine J_iconst (v := 1) C (by decide) dL_records_440 rfl ?_
                      refine J_goto (t := 445) C dL_records_441 (by decide) ?_
                      refine J.sub [] rfl ?_
                      exact hj_445 p_17.2 (1 : Int32) h
    · have h := h.pos (Decidable.not_not.mp c_4)
      refine J_iload (i := 7) (p := 1) C dL_records_324 rfl rfl ?_
      refine J_if_eq (t := 355) C dL_records_326 (by decide) rfl (fun c_19 => ?_) (fun c_19 => ?_)
      · have h := h.pos c_19
        refine J.sub [] rfl ?_
        exact hj_355 p_3.2 h
      · have h := h.neg c_19
        refine J_aload_n (i := 0) (p := 2) C dL_records_329 rfl rfl rfl ?_
        refine J_iconst (v := 0) C (by decide) dL_records_330 rfl ?_
        refine Jl_cV (rest := []) (st9 := fun p_20 => [.int p_20.1]) (wd := fun p_20 => p_20.2) C hR hX cv_RL_189 (k11_acts_n hl (Ok.ofnox h) (fun c hc => hc)) rfl rfl (Nat.le_of_ble_eq_true rfl) (Nat.le_of_ble_eq_true rfl) (Nat.le_of_ble_eq_true rfl) ⟨(Nat.le_of_ble_eq_true rfl), (Nat.le_of_ble_eq_true rfl)⟩ dL_records_331 rfl (fun E n9 w9 hx => hx.elim) (fun _ => rfl) (fun p_20 h => ?_)
        have h : Ok _ _ := h
        change J X K 13 False QQ 9 54 2064 (jl K (p_3.2.1, p_20.2)) 334 [(11, .int x11_2), (7, .int x7_1), (0, .ref (K.2.2 + 47)), (2, .ref (K.2.2 + 1)), (3, .ref (K.2.2 + 42)), (6, .int l6_306), (10, .int l10_306)] [.int p_20.1]
        refine J_sipush (v := 150) C (by decide) dL_records_334 rfl ?_
        refine J_icmp_ne (t := 355) C dL_records_337 (by decide) rfl (fun c_21 => ?_) (fun c_21 => ?_)
        · have h := h.neg c_21
          refine J.sub [] rfl ?_
          exact hj_355 (p_3.2.1, p_20.2) h
        · have h := h.pos (Decidable.not_not.mp c_21)
          refine J_aload_n (i := 0) (p := 2) C dL_records_340 rfl rfl rfl ?_
          refine J_aload_n (i := 2) (p := 3) C dL_records_341 rfl rfl rfl ?_
          refine J_iconst (v := 0) C (by decide) dL_records_342 rfl ?_
          refine Jl_aald (r2 := 2) C rfl (by decide) dL_records_343 rfl ?_
          refine J_aload_n (i := 3) (p := 4) C dL_records_344 rfl rfl rfl ?_
          refine Jl_cS (rest := []) (st9 := fun p_22 => [.int p_22.1]) C hR hX cs_RL_178 (kL_isLike hl rfl (Ok.ofbnd h)) rfl rfl (Nat.le_of_ble_eq_true rfl) (Nat.le_of_ble_eq_true rfl) (Nat.le_of_ble_eq_true rfl) ⟨(Nat.le_of_ble_eq_true rfl), (Nat.le_of_ble_eq_true rfl)⟩ dL_records_345 rfl (fun _ => rfl) (fun p_22 h => ?_)
          have h : Ok _ _ := h
          change J X K 13 False QQ 9 54 2064 (jl K p_22.2) 348 [(11, .int x11_2), (7, .int x7_1), (0, .ref (K.2.2 + 47)), (2, .ref (K.2.2 + 1)), (3, .ref (K.2.2 + 42)), (6, .int l6_306), (10, .int l10_306)] [.int p_22.1]
          refine J_if_eq (t := 355) C dL_records_348 (by decide) rfl (fun c_23 => ?_) (fun c_23 => ?_)
          · have h := h.pos c_23
            refine J.sub [] rfl ?_
            exact hj_355 p_22.2 h
          · have h := h.neg c_23
            refine J_iconst (v := 1) C (by decide) dL_records_351 rfl ?_
            refine J_goto (t := 356) C dL_records_352 (by decide) ?_
            refine J.sub [] rfl ?_
            exact hj_356 p_22.2 (1 : Int32) h
  have hj_305 : (∀ (τ_305 : LawS) (l6_305 : Int32) (l10_305 : Int32), Ok (fL_records_j305 τ_305 l6_305 l10_305) Qf → J X K 13 False QQ 8 48 2064 (jl K τ_305) 305 [(0, .ref (K.2.2 + 47)), (2, .ref (K.2.2 + 1)), (3, .ref (K.2.2 + 42)), (6, .int l6_305), (10, .int l10_305)] []) := by
    intro τ_305 l6_305 l10_305 h
    unfold fL_records_j305 at h
    refine J_iconst (v := 0) C (by decide) dL_records_305 rfl ?_
    exact hj_306 τ_305 l6_305 l10_305 (0 : Int32) h
  have hj_243 : (∀ (τ_243 : LawS) (l6_243 : Int32) (l8_243 : Int32) (l10_243 : Int32) (s0_243 : Int32), Ok (fL_records_j243 τ_243 l6_243 l8_243 l10_243 s0_243) Qf → J X K 13 False QQ 7 42 2064 (jl K τ_243) 243 [(0, .ref (K.2.2 + 47)), (2, .ref (K.2.2 + 1)), (3, .ref (K.2.2 + 42)), (6, .int l6_243), (8, .int l8_243), (10, .int l10_243)] [.int s0_243]) := by
    intro τ_243 l6_243 l8_243 l10_243 s0_243 h
    unfold fL_records_j243 at h
    obtain ⟨x7_3, e_x7_3, h⟩ := Ok.nm h
    refine J_istoreE (i := 7) (lv' := [(7, .int x7_3), (0, .ref (K.2.2 + 47)), (2, .ref (K.2.2 + 1)), (3, .ref (K.2.2 + 42)), (6, .int l6_243), (8, .int l8_243), (10, .int l10_243)]) C e_x7_3 dL_records_243 (Nat.le_of_ble_eq_true rfl) rfl rfl ?_
    refine J_iload (i := 8) (p := 5) C dL_records_245 rfl rfl ?_
    refine J_if_ge (t := 253) C dL_records_247 (by decide) rfl (fun c_24 => ?_) (fun c_24 => ?_)
    · have h := h.pos c_24
      refine J_aload_n (i := 0) (p := 1) C dL_records_253 rfl rfl rfl ?_
      refine J_aload_n (i := 2) (p := 2) C dL_records_254 rfl rfl rfl ?_
      refine J_iconst (v := 1) C (by decide) dL_records_255 rfl ?_
      refine Jl_aald (r2 := 3) C rfl (by decide) dL_records_256 rfl ?_
      refine Jl_cS (rest := []) (st9 := fun p_25 => []) C hR hX cs_RL_151 (kL_sees hl rfl (Ok.ofbnd h)) rfl rfl (Nat.le_of_ble_eq_true rfl) (Nat.le_of_ble_eq_true rfl) (Nat.le_of_ble_eq_true rfl) ⟨(Nat.le_of_ble_eq_true rfl), (Nat.le_of_ble_eq_true rfl)⟩ dL_records_257 rfl (fun _ => rfl) (fun p_25 h => ?_)
      have h : Ok _ _ := h
      change J X K 13 False QQ 7 42 2064 (jl K p_25) 260 [(7, .int x7_3), (0, .ref (K.2.2 + 47)), (2, .ref (K.2.2 + 1)), (3, .ref (K.2.2 + 42)), (6, .int l6_243), (8, .int l8_243), (10, .int l10_243)] []
      refine J_iload (i := 7) (p := 0) C dL_records_260 rfl rfl ?_
      refine J_if_eq (t := 305) C dL_records_262 (by decide) rfl (fun c_26 => ?_) (fun c_26 => ?_)
      · have h := h.pos c_26
        refine J.widen (k' := 8) (sl' := 48) (Nat.le_of_ble_eq_true rfl) (Nat.le_of_ble_eq_true rfl) ?_
        refine J.sub [1, 2, 3, 4, 6] rfl ?_
        exact hj_305 p_25 l6_243 l10_243 h
      · have h := h.neg c_26
        refine J_aload_n (i := 0) (p := 1) C dL_records_265 rfl rfl rfl ?_
        refine J_iconst (v := 1) C (by decide) dL_records_266 rfl ?_
        refine Jl_cV (rest := []) (st9 := fun p_27 => [.int p_27.1]) (wd := fun p_27 => p_27.2) C hR hX cv_RL_189 (k11_acts_n hl (Ok.ofnox h) (fun c hc => hc)) rfl rfl (Nat.le_of_ble_eq_true rfl) (Nat.le_of_ble_eq_true rfl) (Nat.le_of_ble_eq_true rfl) ⟨(Nat.le_of_ble_eq_true rfl), (Nat.le_of_ble_eq_true rfl)⟩ dL_records_267 rfl (fun E n9 w9 hx => hx.elim) (fun _ => rfl) (fun p_27 h => ?_)
        have h : Ok _ _ := h
        change J X K 13 False QQ 7 42 2064 (jl K (p_25.1, p_27.2)) 270 [(7, .int x7_3), (0, .ref (K.2.2 + 47)), (2, .ref (K.2.2 + 1)), (3, .ref (K.2.2 + 42)), (6, .int l6_243), (8, .int l8_243), (10, .int l10_243)] [.int p_27.1]
        refine J_iload (i := 6) (p := 4) C dL_records_270 rfl rfl ?_
        refine J_iconst (v := 1) C (by decide) dL_records_272 rfl ?_
        refine J_iadd C dL_records_273 rfl ?_
        refine J_icmp_ne (t := 305) C dL_records_274 (by decide) rfl (fun c_28 => ?_) (fun c_28 => ?_)
        · have h := h.neg c_28
          refine J.widen (k' := 8) (sl' := 48) (Nat.le_of_ble_eq_true rfl) (Nat.le_of_ble_eq_true rfl) ?_
          refine J.sub [1, 2, 3, 4, 6] rfl ?_
          exact hj_305 (p_25.1, p_27.2) l6_243 l10_243 h
        · have h := h.pos (Decidable.not_not.mp c_28)
          refine J_aload_n (i := 0) (p := 1) C dL_records_277 rfl rfl rfl ?_
          refine J_bipush (v := 10) C (by decide) dL_records_278 rfl ?_
          refine J_iconst (v := 1) C (by decide) dL_records_280 rfl ?_
          refine J_iconst (v := 0) C (by decide) dL_records_281 rfl ?_
          refine J_iconst (v := 0) C (by decide) dL_records_282 rfl ?_
          refine Jl_cH (rest := []) (st9 := fun p_29 => [.int p_29.1]) C hR hX ch_RL_174 (kL_done hl  (Ok.ofbnd h)) rfl rfl (Nat.le_of_ble_eq_true rfl) (Nat.le_of_ble_eq_true rfl) (Nat.le_of_ble_eq_true rfl) ⟨(Nat.le_of_ble_eq_true rfl), (Nat.le_of_ble_eq_true rfl)⟩ dL_records_283 rfl (fun _ => rfl) (fun p_29 h => ?_)
          have h : Ok _ _ := h
          change J X K 13 False QQ 8 48 2064 (jl K p_29.2) 286 [(7, .int x7_3), (0, .ref (K.2.2 + 47)), (2, .ref (K.2.2 + 1)), (3, .ref (K.2.2 + 42)), (6, .int l6_243), (8, .int l8_243), (10, .int l10_243)] [.int p_29.1]
          refine J_iconst (v := 1) C (by decide) dL_records_286 rfl ?_
          refine J_icmp_ne (t := 305) C dL_records_287 (by decide) rfl (fun c_30 => ?_) (fun c_30 => ?_)
          · have h := h.neg c_30
            refine J.sub [1, 2, 3, 4, 6] rfl ?_
            exact hj_305 p_29.2 l6_243 l10_243 h
          · have h := h.pos (Decidable.not_not.mp c_30)
            refine J_aload_n (i := 0) (p := 1) C dL_records_290 rfl rfl rfl ?_
            refine J_aload_n (i := 2) (p := 2) C dL_records_291 rfl rfl rfl ?_
            refine J_iconst (v := 0) C (by decide) dL_records_292 rfl ?_
            refine Jl_aald (r2 := 2) C rfl (by decide) dL_records_293 rfl ?_
            refine J_aload_n (i := 3) (p := 3) C dL_records_294 rfl rfl rfl ?_
            refine Jl_cS (rest := []) (st9 := fun p_31 => [.int p_31.1]) C hR hX cs_RL_178 (kL_isLike hl rfl (Ok.ofbnd h)) rfl rfl (Nat.le_of_ble_eq_true rfl) (Nat.le_of_ble_eq_true rfl) (Nat.le_of_ble_eq_true rfl) ⟨(Nat.le_of_ble_eq_true rfl), (Nat.le_of_ble_eq_true rfl)⟩ dL_records_295 rfl (fun _ => rfl) (fun p_31 h => ?_)
            have h : Ok _ _ := h
            change J X K 13 False QQ 8 48 2064 (jl K p_31.2) 298 [(7, .int x7_3), (0, .ref (K.2.2 + 47)), (2, .ref (K.2.2 + 1)), (3, .ref (K.2.2 + 42)), (6, .int l6_243), (8, .int l8_243), (10, .int l10_243)] [.int p_31.1]
            refine J_if_eq (t := 305) C dL_records_298 (by decide) rfl (fun c_32 => ?_) (fun c_32 => ?_)
            · have h := h.pos c_32
              refine J.sub [1, 2, 3, 4, 6] rfl ?_
              exact hj_305 p_31.2 l6_243 l10_243 h
            · have h := h.neg c_32
              refine J_iconst (v := 1) C (by decide) dL_records_301 rfl ?_
              refine J_goto (t := 306) C dL_records_302 (by decide) ?_
              refine J.sub [1, 2, 3, 4, 6] rfl ?_
              exact hj_306 p_31.2 l6_243 l10_243 (1 : Int32) h
    · have h := h.neg c_24
      refine J_iload (i := 7) (p := 0) C dL_records_250 rfl rfl ?_
      obtain ⟨g_33, h⟩ := Ok.ofgd h
      rw [← hQQ]
      exact J_zret C hret (narB g_33).1 (Nat.le_of_ble_eq_true rfl) (Nat.le_of_ble_eq_true rfl) ⟨_, h.osome, rfl, rfl, rfl⟩ dL_records_252
  have hj_242 : (∀ (τ_242 : LawS) (l6_242 : Int32) (l8_242 : Int32) (l10_242 : Int32), Ok (fL_records_j242 τ_242 l6_242 l8_242 l10_242) Qf → J X K 13 False QQ 7 42 2064 (jl K τ_242) 242 [(0, .ref (K.2.2 + 47)), (2, .ref (K.2.2 + 1)), (3, .ref (K.2.2 + 42)), (6, .int l6_242), (8, .int l8_242), (10, .int l10_242)] []) := by
    intro τ_242 l6_242 l8_242 l10_242 h
    unfold fL_records_j242 at h
    refine J_iconst (v := 0) C (by decide) dL_records_242 rfl ?_
    exact hj_243 τ_242 l6_242 l8_242 l10_242 (0 : Int32) h
  have hj_117 : (∀ (τ_117 : LawS) (l6_117 : Int32) (l7_117 : Int32) (l8_117 : Int32) (l9_117 : Int32) (l10_117 : Int32) (l11_117 : Int32), Ok (fL_records_j117 τ_117 l6_117 l7_117 l8_117 l9_117 l10_117 l11_117) Qf → J X K 13 False QQ 2 12 2064 (jl K τ_117) 117 [(0, .ref (K.2.2 + 47)), (1, .ref (K.2.2 + 0)), (2, .ref (K.2.2 + 1)), (3, .ref (K.2.2 + 42)), (6, .int l6_117), (7, .int l7_117), (8, .int l8_117), (9, .int l9_117), (10, .int l10_117), (11, .int l11_117)] []) := by
    intro τ_117 l6_117 l7_117 l8_117 l9_117 l10_117 l11_117 h
    unfold fL_records_j117 at h
    refine loop_room (S := LawS × Int32 × Int32) (P := fun m_117 s_117 => ∀ k_117 : Nat, k_117 + m_117 * 1 ≤ 6 → J X K 13 False QQ k_117 (6 * k_117) 2064 (jl K s_117.1) 117 [(0, .ref (K.2.2 + 47)), (1, .ref (K.2.2 + 0)), (2, .ref (K.2.2 + 1)), (3, .ref (K.2.2 + 42)), (6, .int l6_117), (7, .int l7_117), (8, .int l8_117), (9, .int l9_117), (10, .int s_117.2.1), (11, .int s_117.2.2)] []) ?_ 4 (τ_117, l10_117, l11_117) (Ok.ofbnd h) 2 (by omega)
    intro m_117 B_117 hB_117 hE_117 s_117 h k_117 hk_117
    obtain ⟨τ_117, l10_117, l11_117⟩ := s_117
    have h : Ok (fL_records_b117 τ_117 l6_117 l7_117 l8_117 l9_117 l10_117 l11_117) B_117 := h
    change J X K 13 False QQ k_117 (6 * k_117) 2064 (jl K τ_117) 117 [(0, .ref (K.2.2 + 47)), (1, .ref (K.2.2 + 0)), (2, .ref (K.2.2 + 1)), (3, .ref (K.2.2 + 42)), (6, .int l6_117), (7, .int l7_117), (8, .int l8_117), (9, .int l9_117), (10, .int l10_117), (11, .int l11_117)] []
    have hj_198 : (∀ (τ_198 : LawS) (l11_198 : Int32) (s0_198 : Int32) (s1_198 : Int32), Ok (fL_records_j198 l6_117 l7_117 l8_117 l9_117 τ_198 l11_198 s0_198 s1_198) B_117 → J X K 13 False QQ (k_117 + 1) (6 * (k_117 + 1)) 2064 (jl K τ_198) 198 [(0, .ref (K.2.2 + 47)), (1, .ref (K.2.2 + 0)), (2, .ref (K.2.2 + 1)), (3, .ref (K.2.2 + 42)), (6, .int l6_117), (7, .int l7_117), (8, .int l8_117), (9, .int l9_117), (11, .int l11_198)] [.int s1_198, .int s0_198]) := by
      intro τ_198 l11_198 s0_198 s1_198 h
      unfold fL_records_j198 at h
      refine Jl_cS (rest := [.int s0_198]) (st9 := fun p_34 => [.int p_34, .int s0_198]) C hR hX cs_RL_63 (kL_one hl  (Ok.ofbnd h)) rfl rfl (Nat.le_of_ble_eq_true rfl) (Nat.le_of_ble_eq_true rfl) (Nat.le_of_ble_eq_true rfl) ⟨(by omega), (by omega)⟩ dL_records_198 rfl (fun _ => rfl) (fun p_34 h => ?_)
      have h : Ok _ _ := h
      change J X K 13 False QQ (k_117 + 1) (6 * (k_117 + 1)) 2064 (jl K τ_198) 201 [(0, .ref (K.2.2 + 47)), (1, .ref (K.2.2 + 0)), (2, .ref (K.2.2 + 1)), (3, .ref (K.2.2 + 42)), (6, .int l6_117), (7, .int l7_117), (8, .int l8_117), (9, .int l9_117), (11, .int l11_198)] [.int p_34, .int s0_198]
      refine J_iadd C dL_records_201 rfl ?_
      obtain ⟨x10_4, e_x10_4, h⟩ := Ok.nm h
      refine J_istoreE (i := 10) (lv' := [(10, .int x10_4), (0, .ref (K.2.2 + 47)), (1, .ref (K.2.2 + 0)), (2, .ref (K.2.2 + 1)), (3, .ref (K.2.2 + 42)), (6, .int l6_117), (7, .int l7_117), (8, .int l8_117), (9, .int l9_117), (11, .int l11_198)]) C e_x10_4 dL_records_202 (Nat.le_of_ble_eq_true rfl) rfl rfl ?_
      obtain ⟨x11_5, e_x11_5, h⟩ := Ok.nm h
      refine J_iincE (i := 11) (p := 9) (lv' := [(11, .int x11_5), (10, .int x10_4), (0, .ref (K.2.2 + 47)), (1, .ref (K.2.2 + 0)), (2, .ref (K.2.2 + 1)), (3, .ref (K.2.2 + 42)), (6, .int l6_117), (7, .int l7_117), (8, .int l8_117), (9, .int l9_117)]) C e_x11_5 dL_records_204 rfl (by decide) (Nat.le_of_ble_eq_true rfl) rfl rfl ?_
      refine J_goto (t := 117) C dL_records_207 (by decide) ?_
      refine J.sub [2, 3, 4, 5, 6, 7, 8, 9, 1, 0] rfl ?_
      exact hB_117 (τ_198, x10_4, x11_5) h.osome (k_117 + 1) (by omega)
    have hj_184 : (∀ (τ_184 : LawS) (l10_184 : Int32) (l11_184 : Int32) (s0_184 : Int32), Ok (fL_records_j184 l6_117 l7_117 l8_117 l9_117 τ_184 l10_184 l11_184 s0_184) B_117 → J X K 13 False QQ (k_117 + 1) (6 * (k_117 + 1)) 2064 (jl K τ_184) 184 [(0, .ref (K.2.2 + 47)), (1, .ref (K.2.2 + 0)), (2, .ref (K.2.2 + 1)), (3, .ref (K.2.2 + 42)), (6, .int l6_117), (7, .int l7_117), (8, .int l8_117), (9, .int l9_117), (10, .int l10_184), (11, .int l11_184)] [.int s0_184]) := by
      intro τ_184 l10_184 l11_184 s0_184 h
      unfold fL_records_j184 at h
      obtain ⟨x12_6, e_x12_6, h⟩ := Ok.nm h
      refine J_istoreE (i := 12) (lv' := [(12, .int x12_6), (0, .ref (K.2.2 + 47)), (1, .ref (K.2.2 + 0)), (2, .ref (K.2.2 + 1)), (3, .ref (K.2.2 + 42)), (6, .int l6_117), (7, .int l7_117), (8, .int l8_117), (9, .int l9_117), (10, .int l10_184), (11, .int l11_184)]) C e_x12_6 dL_records_184 (Nat.le_of_ble_eq_true rfl) rfl rfl ?_
      refine J_iload (i := 10) (p := 9) C dL_records_186 rfl rfl ?_
      refine J_iload (i := 12) (p := 0) C dL_records_188 rfl rfl ?_
      refine J_if_lt (t := 197) C dL_records_190 (by decide) rfl (fun c_35 => ?_) (fun c_35 => ?_)
      · have h := h.pos c_35
        refine J_iconst (v := 0) C (by decide) dL_records_197 rfl ?_
        refine J.sub [1, 2, 3, 4, 5, 6, 7, 8, 10] rfl ?_
        exact hj_198 τ_184 l11_184 l10_184 (0 : Int32) h
      · have h := h.neg c_35
        refine J_iconst (v := 1) C (by decide) dL_records_193 rfl ?_
        refine J_goto (t := 198) C dL_records_194 (by decide) ?_
        refine J.sub [1, 2, 3, 4, 5, 6, 7, 8, 10] rfl ?_
        exact hj_198 τ_184 l11_184 l10_184 (1 : Int32) h
    unfold fL_records_b117 at h
    refine J_iload (i := 11) (p := 9) C dL_records_117 rfl rfl ?_
    refine J_if_le (t := 210) C dL_records_119 (by decide) rfl (fun c_36 => ?_) (fun c_36 => ?_)
    · have h := h.pos c_36
      have h := hE_117 (τ_117, l10_117) h.osome
      try dsimp only at h
      refine J.widen (k' := 6) (sl' := 36) (by omega) (by omega) ?_
      refine J_iload (i := 7) (p := 5) C dL_records_210 rfl rfl ?_
      refine J_if_eq (t := 242) C dL_records_212 (by decide) rfl (fun c_37 => ?_) (fun c_37 => ?_)
      · have h := h.pos c_37
        refine J.widen (k' := 7) (sl' := 42) (Nat.le_of_ble_eq_true rfl) (Nat.le_of_ble_eq_true rfl) ?_
        refine J.sub [0, 2, 3, 4, 6, 8] rfl ?_
        exact hj_242 τ_117 l6_117 l8_117 l10_117 h
      · have h := h.neg c_37
        refine J_aload_n (i := 0) (p := 0) C dL_records_215 rfl rfl rfl ?_
        refine J_iconst (v := 0) C (by decide) dL_records_216 rfl ?_
        refine Jl_cV (rest := []) (st9 := fun p_38 => [.int p_38.1]) (wd := fun p_38 => p_38.2) C hR hX cv_RL_200 (k11_record hl (Ok.ofbnd h)) rfl rfl (Nat.le_of_ble_eq_true rfl) (Nat.le_of_ble_eq_true rfl) (Nat.le_of_ble_eq_true rfl) ⟨(Nat.le_of_ble_eq_true rfl), (Nat.le_of_ble_eq_true rfl)⟩ dL_records_217 rfl (fun E n9 w9 hx => hx.elim) (fun _ => rfl) (fun p_38 h => ?_)
        have h : Ok _ _ := h
        change J X K 13 False QQ 6 36 2064 (jl K (τ_117.1, p_38.2)) 220 [(0, .ref (K.2.2 + 47)), (1, .ref (K.2.2 + 0)), (2, .ref (K.2.2 + 1)), (3, .ref (K.2.2 + 42)), (6, .int l6_117), (7, .int l7_117), (8, .int l8_117), (9, .int l9_117), (10, .int l10_117), (11, .int l11_117)] [.int p_38.1]
        refine J_iload (i := 10) (p := 8) C dL_records_220 rfl rfl ?_
        refine J_icmp_ne (t := 242) C dL_records_222 (by decide) rfl (fun c_39 => ?_) (fun c_39 => ?_)
        · have h := h.neg c_39
          refine J.widen (k' := 7) (sl' := 42) (Nat.le_of_ble_eq_true rfl) (Nat.le_of_ble_eq_true rfl) ?_
          refine J.sub [0, 2, 3, 4, 6, 8] rfl ?_
          exact hj_242 (τ_117.1, p_38.2) l6_117 l8_117 l10_117 h
        · have h := h.pos (Decidable.not_not.mp c_39)
          refine J_aload_n (i := 0) (p := 0) C dL_records_225 rfl rfl rfl ?_
          refine J_bipush (v := 13) C (by decide) dL_records_226 rfl ?_
          refine J_iconst (v := 0) C (by decide) dL_records_228 rfl ?_
          refine J_iconst (v := 0) C (by decide) dL_records_229 rfl ?_
          refine J_iconst (v := 0) C (by decide) dL_records_230 rfl ?_
          refine Jl_cH (rest := []) (st9 := fun p_40 => [.int p_40.1]) C hR hX ch_RL_174 (kL_done hl  (Ok.ofbnd h)) rfl rfl (Nat.le_of_ble_eq_true rfl) (Nat.le_of_ble_eq_true rfl) (Nat.le_of_ble_eq_true rfl) ⟨(Nat.le_of_ble_eq_true rfl), (Nat.le_of_ble_eq_true rfl)⟩ dL_records_231 rfl (fun _ => rfl) (fun p_40 h => ?_)
          have h : Ok _ _ := h
          change J X K 13 False QQ 7 42 2064 (jl K p_40.2) 234 [(0, .ref (K.2.2 + 47)), (1, .ref (K.2.2 + 0)), (2, .ref (K.2.2 + 1)), (3, .ref (K.2.2 + 42)), (6, .int l6_117), (7, .int l7_117), (8, .int l8_117), (9, .int l9_117), (10, .int l10_117), (11, .int l11_117)] [.int p_40.1]
          refine J_iconst (v := 1) C (by decide) dL_records_234 rfl ?_
          refine J_icmp_ne (t := 242) C dL_records_235 (by decide) rfl (fun c_41 => ?_) (fun c_41 => ?_)
          · have h := h.neg c_41
            refine J.sub [0, 2, 3, 4, 6, 8] rfl ?_
            exact hj_242 p_40.2 l6_117 l8_117 l10_117 h
          · have h := h.pos (Decidable.not_not.mp c_41)
            refine J_iconst (v := 1) C (by decide) dL_records_238 rfl ?_
            refine J_goto (t := 243) C dL_records_239 (by decide) ?_
            refine J.sub [0, 2, 3, 4, 6, 8] rfl ?_
            exact hj_243 p_40.2 l6_117 l8_117 l10_117 (1 : Int32) h
    · have h := h.neg c_36
      refine J_aload_n (i := 1) (p := 1) C dL_records_122 rfl rfl rfl ?_
      refine Jl_cS (rest := []) (st9 := fun p_42 => [.int p_42.1]) C hR hX cs_RL_8 (kL_next hl  (Ok.ofbnd h)) rfl rfl (Nat.le_of_ble_eq_true rfl) (Nat.le_of_ble_eq_true rfl) (Nat.le_of_ble_eq_true rfl) ⟨(by omega), (by omega)⟩ dL_records_123 rfl (fun _ => rfl) (fun p_42 h => ?_)
      have h : Ok _ _ := h
      change J X K 13 False QQ k_117 (6 * k_117) 2064 (jl K p_42.2) 126 [(0, .ref (K.2.2 + 47)), (1, .ref (K.2.2 + 0)), (2, .ref (K.2.2 + 1)), (3, .ref (K.2.2 + 42)), (6, .int l6_117), (7, .int l7_117), (8, .int l8_117), (9, .int l9_117), (10, .int l10_117), (11, .int l11_117)] [.int p_42.1]
      refine J_iconst (v := 2) C (by decide) dL_records_126 rfl ?_
      refine J_irem C (by decide) dL_records_127 rfl ?_
      refine J_if_ne (t := 150) C dL_records_128 (by decide) rfl (fun c_43 => ?_) (fun c_43 => ?_)
      · have h := h.neg c_43
        refine J_aload_n (i := 1) (p := 1) C dL_records_150 rfl rfl rfl ?_
        refine Jl_cS (rest := []) (st9 := fun p_44 => [.int p_44.1]) C hR hX cs_RL_8 (kL_next hl  (Ok.ofbnd h)) rfl rfl (Nat.le_of_ble_eq_true rfl) (Nat.le_of_ble_eq_true rfl) (Nat.le_of_ble_eq_true rfl) ⟨(by omega), (by omega)⟩ dL_records_151 rfl (fun _ => rfl) (fun p_44 h => ?_)
        have h : Ok _ _ := h
        change J X K 13 False QQ k_117 (6 * k_117) 2064 (jl K p_44.2) 154 [(0, .ref (K.2.2 + 47)), (1, .ref (K.2.2 + 0)), (2, .ref (K.2.2 + 1)), (3, .ref (K.2.2 + 42)), (6, .int l6_117), (7, .int l7_117), (8, .int l8_117), (9, .int l9_117), (10, .int l10_117), (11, .int l11_117)] [.int p_44.1]
        refine J_iconst (v := 3) C (by decide) dL_records_154 rfl ?_
        refine J_irem C (by decide) dL_records_155 rfl ?_
        refine J_if_ne (t := 170) C dL_records_156 (by decide) rfl (fun c_45 => ?_) (fun c_45 => ?_)
        · have h := h.neg c_45
          refine J_aload_n (i := 0) (p := 0) C dL_records_170 rfl rfl rfl ?_
          refine J_iconst (v := 1) C (by decide) dL_records_171 rfl ?_
          refine J_aload_n (i := 1) (p := 1) C dL_records_172 rfl rfl rfl ?_
          refine J_bipush (v := -4) C (by decide) dL_records_173 rfl ?_
          refine J_iconst (v := 4) C (by decide) dL_records_175 rfl ?_
          refine Jl_cS (rest := [.int (1 : Int32), .ref (K.2.2 + 47)]) (st9 := fun p_46 => [.int p_46.1, .int (1 : Int32), .ref (K.2.2 + 47)]) C hR hX cs_RL_137 (kL_from hl  (Ok.ofbnd h)) rfl rfl (Nat.le_of_ble_eq_true rfl) (Nat.le_of_ble_eq_true rfl) (Nat.le_of_ble_eq_true rfl) ⟨(by omega), (by omega)⟩ dL_records_176 rfl (fun _ => rfl) (fun p_46 h => ?_)
          have h : Ok _ _ := h
          change J X K 13 False QQ k_117 (6 * k_117) 2064 (jl K p_46.2) 179 [(0, .ref (K.2.2 + 47)), (1, .ref (K.2.2 + 0)), (2, .ref (K.2.2 + 1)), (3, .ref (K.2.2 + 42)), (6, .int l6_117), (7, .int l7_117), (8, .int l8_117), (9, .int l9_117), (10, .int l10_117), (11, .int l11_117)] [.int p_46.1, .int (1 : Int32), .ref (K.2.2 + 47)]
          refine J_iconst (v := 0) C (by decide) dL_records_179 rfl ?_
          refine J_iconst (v := 0) C (by decide) dL_records_180 rfl ?_
          refine Jl_cH (rest := []) (st9 := fun p_47 => [.int p_47.1]) C hR hX ch_RL_174 (kL_done hl  (Ok.ofbnd h)) rfl rfl (Nat.le_of_ble_eq_true rfl) (Nat.le_of_ble_eq_true rfl) (Nat.le_of_ble_eq_true rfl) ⟨(by omega), (by omega)⟩ dL_records_181 rfl (fun _ => rfl) (fun p_47 h => ?_)
          have h : Ok _ _ := h
          refine J.widen (k' := (k_117 + 1)) (sl' := (6 * (k_117 + 1))) (by omega) (by omega) ?_
          change J X K 13 False QQ (k_117 + 1) (6 * (k_117 + 1)) 2064 (jl K p_47.2) 184 [(0, .ref (K.2.2 + 47)), (1, .ref (K.2.2 + 0)), (2, .ref (K.2.2 + 1)), (3, .ref (K.2.2 + 42)), (6, .int l6_117), (7, .int l7_117), (8, .int l8_117), (9, .int l9_117), (10, .int l10_117), (11, .int l11_117)] [.int p_47.1]
          exact hj_184 p_47.2 l10_117 l11_117 p_47.1 h
        · have h := h.pos (Decidable.not_not.mp c_45)
          refine J_aload_n (i := 0) (p := 0) C dL_records_159 rfl rfl rfl ?_
          refine J_iconst (v := 4) C (by decide) dL_records_160 rfl ?_
          refine J_iconst (v := 0) C (by decide) dL_records_161 rfl ?_
          refine J_iconst (v := 0) C (by decide) dL_records_162 rfl ?_
          refine J_iconst (v := 0) C (by decide) dL_records_163 rfl ?_
          refine Jl_cH (rest := []) (st9 := fun p_48 => [.int p_48.1]) C hR hX ch_RL_174 (kL_done hl  (Ok.ofbnd h)) rfl rfl (Nat.le_of_ble_eq_true rfl) (Nat.le_of_ble_eq_true rfl) (Nat.le_of_ble_eq_true rfl) ⟨(by omega), (by omega)⟩ dL_records_164 rfl (fun _ => rfl) (fun p_48 h => ?_)
          have h : Ok _ _ := h
          refine J.widen (k' := (k_117 + 1)) (sl' := (6 * (k_117 + 1))) (by omega) (by omega) ?_
          change J X K 13 False QQ (k_117 + 1) (6 * (k_117 + 1)) 2064 (jl K p_48.2) 167 [(0, .ref (K.2.2 + 47)), (1, .ref (K.2.2 + 0)), (2, .ref (K.2.2 + 1)), (3, .ref (K.2.2 + 42)), (6, .int l6_117), (7, .int l7_117), (8, .int l8_117), (9, .int l9_117), (10, .int l10_117), (11, .int l11_117)] [.int p_48.1]
          refine J_goto (t := 184) C dL_records_167 (by decide) ?_
          exact hj_184 p_48.2 l10_117 l11_117 p_48.1 h
      · have h := h.pos (Decidable.not_not.mp c_43)
        refine J_aload_n (i := 0) (p := 0) C dL_records_131 rfl rfl rfl ?_
        refine J_bipush (v := 16) C (by decide) dL_records_132 rfl ?_
        refine J_iload (i := 9) (p := 7) C dL_records_134 rfl rfl ?_
        refine J_aload_n (i := 1) (p := 1) C dL_records_136 rfl rfl rfl ?_
        refine J_bipush (v := -3) C (by decide) dL_records_137 rfl ?_
        refine J_iconst (v := 3) C (by decide) dL_records_139 rfl ?_
        refine Jl_cS (rest := [.int l9_117, .int (16 : Int32), .ref (K.2.2 + 47)]) (st9 := fun p_49 => [.int p_49.1, .int l9_117, .int (16 : Int32), .ref (K.2.2 + 47)]) C hR hX cs_RL_137 (kL_from hl  (Ok.ofbnd h)) rfl rfl (Nat.le_of_ble_eq_true rfl) (Nat.le_of_ble_eq_true rfl) (Nat.le_of_ble_eq_true rfl) ⟨(by omega), (by omega)⟩ dL_records_140 rfl (fun _ => rfl) (fun p_49 h => ?_)
        have h : Ok _ _ := h
        change J X K 13 False QQ k_117 (6 * k_117) 2064 (jl K p_49.2) 143 [(0, .ref (K.2.2 + 47)), (1, .ref (K.2.2 + 0)), (2, .ref (K.2.2 + 1)), (3, .ref (K.2.2 + 42)), (6, .int l6_117), (7, .int l7_117), (8, .int l8_117), (9, .int l9_117), (10, .int l10_117), (11, .int l11_117)] [.int p_49.1, .int l9_117, .int (16 : Int32), .ref (K.2.2 + 47)]
        refine J_iconst (v := 0) C (by decide) dL_records_143 rfl ?_
        refine Jl_cH (rest := []) (st9 := fun p_50 => [.int p_50.1]) C hR hX ch_RL_174 (kL_done hl  (Ok.ofbnd h)) rfl rfl (Nat.le_of_ble_eq_true rfl) (Nat.le_of_ble_eq_true rfl) (Nat.le_of_ble_eq_true rfl) ⟨(by omega), (by omega)⟩ dL_records_144 rfl (fun _ => rfl) (fun p_50 h => ?_)
        have h : Ok _ _ := h
        refine J.widen (k' := (k_117 + 1)) (sl' := (6 * (k_117 + 1))) (by omega) (by omega) ?_
        change J X K 13 False QQ (k_117 + 1) (6 * (k_117 + 1)) 2064 (jl K p_50.2) 147 [(0, .ref (K.2.2 + 47)), (1, .ref (K.2.2 + 0)), (2, .ref (K.2.2 + 1)), (3, .ref (K.2.2 + 42)), (6, .int l6_117), (7, .int l7_117), (8, .int l8_117), (9, .int l9_117), (10, .int l10_117), (11, .int l11_117)] [.int p_50.1]
        refine J_goto (t := 184) C dL_records_147 (by decide) ?_
        exact hj_184 p_50.2 l10_117 l11_117 p_50.1 h
  have hj_104 : (∀ (τ_104 : LawS) (l6_104 : Int32) (l7_104 : Int32) (l8_104 : Int32) (l9_104 : Int32) (s0_104 : Int32), Ok (fL_records_j104 τ_104 l6_104 l7_104 l8_104 l9_104 s0_104) Qf → J X K 13 False QQ 2 12 2064 (jl K τ_104) 104 [(0, .ref (K.2.2 + 47)), (1, .ref (K.2.2 + 0)), (2, .ref (K.2.2 + 1)), (3, .ref (K.2.2 + 42)), (6, .int l6_104), (7, .int l7_104), (8, .int l8_104), (9, .int l9_104)] [.int s0_104]) := by
    intro τ_104 l6_104 l7_104 l8_104 l9_104 s0_104 h
    unfold fL_records_j104 at h
    refine Jl_cS (rest := []) (st9 := fun p_56 => [.int p_56]) C hR hX cs_RL_63 (kL_one hl  (Ok.ofbnd h)) rfl rfl (Nat.le_of_ble_eq_true rfl) (Nat.le_of_ble_eq_true rfl) (Nat.le_of_ble_eq_true rfl) ⟨(Nat.le_of_ble_eq_true rfl), (Nat.le_of_ble_eq_true rfl)⟩ dL_records_104 rfl (fun _ => rfl) (fun p_56 h => ?_)
    have h : Ok _ _ := h
    change J X K 13 False QQ 2 12 2064 (jl K τ_104) 107 [(0, .ref (K.2.2 + 47)), (1, .ref (K.2.2 + 0)), (2, .ref (K.2.2 + 1)), (3, .ref (K.2.2 + 42)), (6, .int l6_104), (7, .int l7_104), (8, .int l8_104), (9, .int l9_104)] [.int p_56]
    obtain ⟨x10_7, e_x10_7, h⟩ := Ok.nm h
    refine J_istoreE (i := 10) (lv' := [(10, .int x10_7), (0, .ref (K.2.2 + 47)), (1, .ref (K.2.2 + 0)), (2, .ref (K.2.2 + 1)), (3, .ref (K.2.2 + 42)), (6, .int l6_104), (7, .int l7_104), (8, .int l8_104), (9, .int l9_104)]) C e_x10_7 dL_records_107 (Nat.le_of_ble_eq_true rfl) rfl rfl ?_
    refine J_aload_n (i := 1) (p := 2) C dL_records_109 rfl rfl rfl ?_
    refine Jl_cS (rest := []) (st9 := fun p_57 => [.int p_57.1]) C hR hX cs_RL_8 (kL_next hl  (Ok.ofbnd h)) rfl rfl (Nat.le_of_ble_eq_true rfl) (Nat.le_of_ble_eq_true rfl) (Nat.le_of_ble_eq_true rfl) ⟨(Nat.le_of_ble_eq_true rfl), (Nat.le_of_ble_eq_true rfl)⟩ dL_records_110 rfl (fun _ => rfl) (fun p_57 h => ?_)
    have h : Ok _ _ := h
    change J X K 13 False QQ 2 12 2064 (jl K p_57.2) 113 [(10, .int x10_7), (0, .ref (K.2.2 + 47)), (1, .ref (K.2.2 + 0)), (2, .ref (K.2.2 + 1)), (3, .ref (K.2.2 + 42)), (6, .int l6_104), (7, .int l7_104), (8, .int l8_104), (9, .int l9_104)] [.int p_57.1]
    refine J_iconst (v := 4) C (by decide) dL_records_113 rfl ?_
    refine J_irem C (by decide) dL_records_114 rfl ?_
    obtain ⟨x11_8, e_x11_8, h⟩ := Ok.nm h
    refine J_istoreE (i := 11) (lv' := [(11, .int x11_8), (10, .int x10_7), (0, .ref (K.2.2 + 47)), (1, .ref (K.2.2 + 0)), (2, .ref (K.2.2 + 1)), (3, .ref (K.2.2 + 42)), (6, .int l6_104), (7, .int l7_104), (8, .int l8_104), (9, .int l9_104)]) C e_x11_8 dL_records_115 (Nat.le_of_ble_eq_true rfl) rfl rfl ?_
    refine J.sub [2, 3, 4, 5, 6, 7, 8, 9, 1, 0] rfl ?_
    exact hj_117 p_57.2 l6_104 l7_104 l8_104 l9_104 x10_7 x11_8 h
  have hj_74 : (∀ (τ_74 : LawS) (l6_74 : Int32) (s0_74 : Int32), Ok (fL_records_j74 τ_74 l6_74 s0_74) Qf → J X K 13 False QQ 1 6 2064 (jl K τ_74) 74 [(0, .ref (K.2.2 + 47)), (1, .ref (K.2.2 + 0)), (2, .ref (K.2.2 + 1)), (3, .ref (K.2.2 + 42)), (6, .int l6_74)] [.int s0_74]) := by
    intro τ_74 l6_74 s0_74 h
    unfold fL_records_j74 at h
    obtain ⟨x7_9, e_x7_9, h⟩ := Ok.nm h
    refine J_istoreE (i := 7) (lv' := [(7, .int x7_9), (0, .ref (K.2.2 + 47)), (1, .ref (K.2.2 + 0)), (2, .ref (K.2.2 + 1)), (3, .ref (K.2.2 + 42)), (6, .int l6_74)]) C e_x7_9 dL_records_74 (Nat.le_of_ble_eq_true rfl) rfl rfl ?_
    refine J_aload_n (i := 0) (p := 1) C dL_records_76 rfl rfl rfl ?_
    refine J_iconst (v := 0) C (by decide) dL_records_77 rfl ?_
    refine J_iconst (v := 0) C (by decide) dL_records_78 rfl ?_
    refine J_iconst (v := 0) C (by decide) dL_records_79 rfl ?_
    refine J_iconst (v := 0) C (by decide) dL_records_80 rfl ?_
    refine Jl_cH (rest := []) (st9 := fun p_58 => [.int p_58.1]) C hR hX ch_RL_174 (kL_done hl  (Ok.ofbnd h)) rfl rfl (Nat.le_of_ble_eq_true rfl) (Nat.le_of_ble_eq_true rfl) (Nat.le_of_ble_eq_true rfl) ⟨(Nat.le_of_ble_eq_true rfl), (Nat.le_of_ble_eq_true rfl)⟩ dL_records_81 rfl (fun _ => rfl) (fun p_58 h => ?_)
    have h : Ok _ _ := h
    change J X K 13 False QQ 2 12 2064 (jl K p_58.2) 84 [(7, .int x7_9), (0, .ref (K.2.2 + 47)), (1, .ref (K.2.2 + 0)), (2, .ref (K.2.2 + 1)), (3, .ref (K.2.2 + 42)), (6, .int l6_74)] [.int p_58.1]
    obtain ⟨x8_10, e_x8_10, h⟩ := Ok.nm h
    refine J_istoreE (i := 8) (lv' := [(8, .int x8_10), (7, .int x7_9), (0, .ref (K.2.2 + 47)), (1, .ref (K.2.2 + 0)), (2, .ref (K.2.2 + 1)), (3, .ref (K.2.2 + 42)), (6, .int l6_74)]) C e_x8_10 dL_records_84 (Nat.le_of_ble_eq_true rfl) rfl rfl ?_
    refine J_aload_n (i := 1) (p := 3) C dL_records_86 rfl rfl rfl ?_
    refine Jl_cS (rest := []) (st9 := fun p_59 => [.int p_59.1]) C hR hX cs_RL_8 (kL_next hl  (Ok.ofbnd h)) rfl rfl (Nat.le_of_ble_eq_true rfl) (Nat.le_of_ble_eq_true rfl) (Nat.le_of_ble_eq_true rfl) ⟨(Nat.le_of_ble_eq_true rfl), (Nat.le_of_ble_eq_true rfl)⟩ dL_records_87 rfl (fun _ => rfl) (fun p_59 h => ?_)
    have h : Ok _ _ := h
    change J X K 13 False QQ 2 12 2064 (jl K p_59.2) 90 [(8, .int x8_10), (7, .int x7_9), (0, .ref (K.2.2 + 47)), (1, .ref (K.2.2 + 0)), (2, .ref (K.2.2 + 1)), (3, .ref (K.2.2 + 42)), (6, .int l6_74)] [.int p_59.1]
    refine J_iconst (v := 5) C (by decide) dL_records_90 rfl ?_
    refine J_irem C (by decide) dL_records_91 rfl ?_
    obtain ⟨x9_11, e_x9_11, h⟩ := Ok.nm h
    refine J_istoreE (i := 9) (lv' := [(9, .int x9_11), (8, .int x8_10), (7, .int x7_9), (0, .ref (K.2.2 + 47)), (1, .ref (K.2.2 + 0)), (2, .ref (K.2.2 + 1)), (3, .ref (K.2.2 + 42)), (6, .int l6_74)]) C e_x9_11 dL_records_92 (Nat.le_of_ble_eq_true rfl) rfl rfl ?_
    refine J_iload (i := 8) (p := 1) C dL_records_94 rfl rfl ?_
    refine J_if_lt (t := 103) C dL_records_96 (by decide) rfl (fun c_60 => ?_) (fun c_60 => ?_)
    · have h := h.pos c_60
      refine J_iconst (v := 0) C (by decide) dL_records_103 rfl ?_
      refine J.sub [3, 4, 5, 6, 7, 2, 1, 0] rfl ?_
      exact hj_104 p_59.2 l6_74 x7_9 x8_10 x9_11 (0 : Int32) h
    · have h := h.neg c_60
      refine J_iconst (v := 1) C (by decide) dL_records_99 rfl ?_
      refine J_goto (t := 104) C dL_records_100 (by decide) ?_
      refine J.sub [3, 4, 5, 6, 7, 2, 1, 0] rfl ?_
      exact hj_104 p_59.2 l6_74 x7_9 x8_10 x9_11 (1 : Int32) h
  have hj_73 : (∀ (τ_73 : LawS) (l6_73 : Int32), Ok (fL_records_j73 τ_73 l6_73) Qf → J X K 13 False QQ 1 6 2064 (jl K τ_73) 73 [(0, .ref (K.2.2 + 47)), (1, .ref (K.2.2 + 0)), (2, .ref (K.2.2 + 1)), (3, .ref (K.2.2 + 42)), (6, .int l6_73)] []) := by
    intro τ_73 l6_73 h
    unfold fL_records_j73 at h
    refine J_iconst (v := 0) C (by decide) dL_records_73 rfl ?_
    exact hj_74 τ_73 l6_73 (0 : Int32) h
  have hj_34 : (∀ (τ_34 : LawS) (s0_34 : Int32), Ok (fL_records_j34 τ_34 s0_34) Qf → J X K 13 False QQ 0 0 2064 (jl K τ_34) 34 [] [.int s0_34]) := by
    intro τ_34 s0_34 h
    unfold fL_records_j34 at h
    obtain ⟨g_61, h⟩ := Ok.ofgd h
    rw [← hQQ]
    exact J_zret C hret (narB g_61).1 (Nat.le_of_ble_eq_true rfl) (Nat.le_of_ble_eq_true rfl) ⟨_, h.osome, rfl, rfl, rfl⟩ dL_records_34
  have hj_24 : (∀ (τ_24 : LawS) (l5_24 : Int32), Ok (fL_records_j24 τ_24 l5_24) Qf → J X K 13 False QQ 0 0 2064 (jl K τ_24) 24 [(5, .int l5_24)] []) := by
    intro τ_24 l5_24 h
    unfold fL_records_j24 at h
    refine J_iload (i := 5) (p := 0) C dL_records_24 rfl rfl ?_
    refine J_if_ne (t := 33) C dL_records_26 (by decide) rfl (fun c_62 => ?_) (fun c_62 => ?_)
    · have h := h.neg c_62
      refine J_iconst (v := 0) C (by decide) dL_records_33 rfl ?_
      refine J.sub [] rfl ?_
      exact hj_34 τ_24 (0 : Int32) h
    · have h := h.pos (Decidable.not_not.mp c_62)
      refine J_iconst (v := 1) C (by decide) dL_records_29 rfl ?_
      refine J_goto (t := 34) C dL_records_30 (by decide) ?_
      refine J.sub [] rfl ?_
      exact hj_34 τ_24 (1 : Int32) h
  unfold fL_records at h
  refine J_aload_n (i := 1) (p := 1) C dL_records_0 rfl rfl rfl ?_
  refine J_aload (i := 4) (p := 4) C dL_records_1 rfl rfl ?_
  refine Jl_cS (rest := []) (st9 := fun p_63 => [.int p_63.1]) C hR hX cs_RL_161 (kL_draws hl  (Ok.ofbnd h)) rfl rfl (Nat.le_of_ble_eq_true rfl) (Nat.le_of_ble_eq_true rfl) (Nat.le_of_ble_eq_true rfl) ⟨(Nat.le_of_ble_eq_true rfl), (Nat.le_of_ble_eq_true rfl)⟩ dL_records_3 rfl (fun _ => rfl) (fun p_63 h => ?_)
  have h : Ok _ _ := h
  change J X K 13 False QQ 0 0 2064 (jl K p_63.2) 6 [(0, .ref (K.2.2 + 47)), (1, .ref (K.2.2 + 0)), (2, .ref (K.2.2 + 1)), (3, .ref (K.2.2 + 42)), (4, .ref (K.2.2 + 43))] [.int p_63.1]
  obtain ⟨x5_12, e_x5_12, h⟩ := Ok.nm h
  refine J_istoreE (i := 5) (lv' := [(5, .int x5_12), (0, .ref (K.2.2 + 47)), (1, .ref (K.2.2 + 0)), (2, .ref (K.2.2 + 1)), (3, .ref (K.2.2 + 42)), (4, .ref (K.2.2 + 43))]) C e_x5_12 dL_records_6 (Nat.le_of_ble_eq_true rfl) rfl rfl ?_
  refine J_iload (i := 5) (p := 0) C dL_records_8 rfl rfl ?_
  refine J_if_eq (t := 24) C dL_records_10 (by decide) rfl (fun c_64 => ?_) (fun c_64 => ?_)
  · have h := h.pos c_64
    refine J.sub [0] rfl ?_
    exact hj_24 p_63.2 x5_12 h
  · have h := h.neg c_64
    refine J_aload_n (i := 0) (p := 1) C dL_records_13 rfl rfl rfl ?_
    refine J_aload (i := 4) (p := 5) C dL_records_14 rfl rfl ?_
    refine J_iload (i := 5) (p := 0) C dL_records_16 rfl rfl ?_
    refine Jl_cS (rest := []) (st9 := fun p_65 => [.int p_65.1]) C hR hX cs_RL_165 (kL_feeds hl rfl (Ok.ofbnd h)) rfl rfl (Nat.le_of_ble_eq_true rfl) (Nat.le_of_ble_eq_true rfl) (Nat.le_of_ble_eq_true rfl) ⟨(Nat.le_of_ble_eq_true rfl), (Nat.le_of_ble_eq_true rfl)⟩ dL_records_18 rfl (fun _ => rfl) (fun p_65 h => ?_)
    have h : Ok _ _ := h
    change J X K 13 False QQ 0 0 2064 (jl K p_65.2) 21 [(5, .int x5_12), (0, .ref (K.2.2 + 47)), (1, .ref (K.2.2 + 0)), (2, .ref (K.2.2 + 1)), (3, .ref (K.2.2 + 42)), (4, .ref (K.2.2 + 43))] [.int p_65.1]
    refine J_if_ne (t := 35) C dL_records_21 (by decide) rfl (fun c_66 => ?_) (fun c_66 => ?_)
    · have h := h.neg c_66
      refine J_aload_n (i := 0) (p := 1) C dL_records_35 rfl rfl rfl ?_
      refine J_aload_n (i := 2) (p := 3) C dL_records_36 rfl rfl rfl ?_
      refine J_iconst (v := 0) C (by decide) dL_records_37 rfl ?_
      refine Jl_aald (r2 := 2) C rfl (by decide) dL_records_38 rfl ?_
      refine Jl_cS (rest := []) (st9 := fun p_67 => []) C hR hX cs_RL_151 (kL_sees hl rfl (Ok.ofbnd h)) rfl rfl (Nat.le_of_ble_eq_true rfl) (Nat.le_of_ble_eq_true rfl) (Nat.le_of_ble_eq_true rfl) ⟨(Nat.le_of_ble_eq_true rfl), (Nat.le_of_ble_eq_true rfl)⟩ dL_records_39 rfl (fun _ => rfl) (fun p_67 h => ?_)
      have h : Ok _ _ := h
      change J X K 13 False QQ 0 0 2064 (jl K p_67) 42 [(5, .int x5_12), (0, .ref (K.2.2 + 47)), (1, .ref (K.2.2 + 0)), (2, .ref (K.2.2 + 1)), (3, .ref (K.2.2 + 42)), (4, .ref (K.2.2 + 43))] []
      refine J_aload_n (i := 0) (p := 1) C dL_records_42 rfl rfl rfl ?_
      refine J_iconst (v := 1) C (by decide) dL_records_43 rfl ?_
      refine Jl_cV (rest := []) (st9 := fun p_68 => [.int p_68.1]) (wd := fun p_68 => p_68.2) C hR hX cv_RL_189 (k11_acts_n hl (Ok.ofnox h) (fun c hc => hc)) rfl rfl (Nat.le_of_ble_eq_true rfl) (Nat.le_of_ble_eq_true rfl) (Nat.le_of_ble_eq_true rfl) ⟨(Nat.le_of_ble_eq_true rfl), (Nat.le_of_ble_eq_true rfl)⟩ dL_records_44 rfl (fun E n9 w9 hx => hx.elim) (fun _ => rfl) (fun p_68 h => ?_)
      have h : Ok _ _ := h
      change J X K 13 False QQ 0 0 2064 (jl K (p_67.1, p_68.2)) 47 [(5, .int x5_12), (0, .ref (K.2.2 + 47)), (1, .ref (K.2.2 + 0)), (2, .ref (K.2.2 + 1)), (3, .ref (K.2.2 + 42)), (4, .ref (K.2.2 + 43))] [.int p_68.1]
      obtain ⟨x6_13, e_x6_13, h⟩ := Ok.nm h
      refine J_istoreE (i := 6) (lv' := [(6, .int x6_13), (5, .int x5_12), (0, .ref (K.2.2 + 47)), (1, .ref (K.2.2 + 0)), (2, .ref (K.2.2 + 1)), (3, .ref (K.2.2 + 42)), (4, .ref (K.2.2 + 43))]) C e_x6_13 dL_records_47 (Nat.le_of_ble_eq_true rfl) rfl rfl ?_
      refine J_aload_n (i := 0) (p := 2) C dL_records_49 rfl rfl rfl ?_
      refine J_bipush (v := 13) C (by decide) dL_records_50 rfl ?_
      refine J_iconst (v := 1) C (by decide) dL_records_52 rfl ?_
      refine J_iconst (v := 0) C (by decide) dL_records_53 rfl ?_
      refine J_iconst (v := 0) C (by decide) dL_records_54 rfl ?_
      refine Jl_cH (rest := []) (st9 := fun p_69 => [.int p_69.1]) C hR hX ch_RL_174 (kL_done hl  (Ok.ofbnd h)) rfl rfl (Nat.le_of_ble_eq_true rfl) (Nat.le_of_ble_eq_true rfl) (Nat.le_of_ble_eq_true rfl) ⟨(Nat.le_of_ble_eq_true rfl), (Nat.le_of_ble_eq_true rfl)⟩ dL_records_55 rfl (fun _ => rfl) (fun p_69 h => ?_)
      have h : Ok _ _ := h
      change J X K 13 False QQ 1 6 2064 (jl K p_69.2) 58 [(6, .int x6_13), (5, .int x5_12), (0, .ref (K.2.2 + 47)), (1, .ref (K.2.2 + 0)), (2, .ref (K.2.2 + 1)), (3, .ref (K.2.2 + 42)), (4, .ref (K.2.2 + 43))] [.int p_69.1]
      refine J_if_ne (t := 73) C dL_records_58 (by decide) rfl (fun c_70 => ?_) (fun c_70 => ?_)
      · have h := h.neg c_70
        refine J.sub [2, 3, 4, 5, 0] rfl ?_
        exact hj_73 p_69.2 x6_13 h
      · have h := h.pos (Decidable.not_not.mp c_70)
        refine J_aload_n (i := 0) (p := 2) C dL_records_61 rfl rfl rfl ?_
        refine J_iconst (v := 1) C (by decide) dL_records_62 rfl ?_
        refine Jl_cV (rest := []) (st9 := fun p_71 => [.int p_71.1]) (wd := fun p_71 => p_71.2) C hR hX cv_RL_200 (k11_record hl (Ok.ofbnd h)) rfl rfl (Nat.le_of_ble_eq_true rfl) (Nat.le_of_ble_eq_true rfl) (Nat.le_of_ble_eq_true rfl) ⟨(Nat.le_of_ble_eq_true rfl), (Nat.le_of_ble_eq_true rfl)⟩ dL_records_63 rfl (fun E n9 w9 hx => hx.elim) (fun _ => rfl) (fun p_71 h => ?_)
        have h : Ok _ _ := h
        change J X K 13 False QQ 1 6 2064 (jl K (p_69.2.1, p_71.2)) 66 [(6, .int x6_13), (5, .int x5_12), (0, .ref (K.2.2 + 47)), (1, .ref (K.2.2 + 0)), (2, .ref (K.2.2 + 1)), (3, .ref (K.2.2 + 42)), (4, .ref (K.2.2 + 43))] [.int p_71.1]
        refine J_if_lt (t := 73) C dL_records_66 (by decide) rfl (fun c_72 => ?_) (fun c_72 => ?_)
        · have h := h.pos c_72
          refine J.sub [2, 3, 4, 5, 0] rfl ?_
          exact hj_73 (p_69.2.1, p_71.2) x6_13 h
        · have h := h.neg c_72
          refine J_iconst (v := 1) C (by decide) dL_records_69 rfl ?_
          refine J_goto (t := 74) C dL_records_70 (by decide) ?_
          refine J.sub [2, 3, 4, 5, 0] rfl ?_
          exact hj_74 (p_69.2.1, p_71.2) x6_13 (1 : Int32) h
    · have h := h.pos (Decidable.not_not.mp c_66)
      refine J.sub [0] rfl ?_
      exact hj_24 p_65.2 x5_12 h
def fL_plays_j581 (τ_581 : LawS) (s0_581 : Int32) : Option (Int32 × LawS) :=
  gd (isB s0_581) <|
  some (s0_581, τ_581)
def fL_plays_j580 (τ_580 : LawS) : Option (Int32 × LawS) :=
  fL_plays_j581 τ_580 (0 : Int32)
def fL_plays_j561 (τ_561 : LawS) (s0_561 : Int32) : Option (Int32 × LawS) :=
  stp s0_561 fun x9_1 =>
  if x9_1 = 0 then
    fL_plays_j580 τ_561
  else
    bnd (f11_errors τ_561.2) fun p_3 =>
    if p_3.1 = 0 then
      fL_plays_j581 (τ_561.1, p_3.2) (1 : Int32)
    else
      fL_plays_j580 (τ_561.1, p_3.2)
def fL_plays_j560 (τ_560 : LawS) : Option (Int32 × LawS) :=
  fL_plays_j561 τ_560 (0 : Int32)
def fL_plays_j416 (τ_416 : LawS) (l9_416 : Int32) : Option (Int32 × LawS) :=
  bnd (nox (f11_count τ_416.2 (0 : Int32))) fun p_5 =>
  stp p_5.1 fun x10_2 =>
  if l9_416 = 0 then
    fL_plays_j560 (τ_416.1, p_5.2)
  else
    bnd (fL_done (τ_416.1, p_5.2) (2 : Int32) (0 : Int32) (x10_2 + (1 : Int32)) (0 : Int32)) fun p_7 =>
    if p_7.1 = (-1000001 : Int32) then
      bnd (fL_done p_7.2 (2 : Int32) (0 : Int32) (-1 : Int32) (0 : Int32)) fun p_9 =>
      if p_9.1 = (-1000001 : Int32) then
        bnd (fL_done p_9.2 (1 : Int32) (101 : Int32) (0 : Int32) (0 : Int32)) fun p_11 =>
        if p_11.1 = (-1000002 : Int32) then
          bnd (fL_done p_11.2 (26 : Int32) x10_2 (0 : Int32) (0 : Int32)) fun p_13 =>
          if p_13.1 = (-1000001 : Int32) then
            bnd (fL_done p_13.2 (27 : Int32) (x10_2 + (1 : Int32)) (0 : Int32) (0 : Int32)) fun p_15 =>
            if p_15.1 = (-1000001 : Int32) then
              bnd (fL_done p_15.2 (16 : Int32) (5 : Int32) (0 : Int32) (0 : Int32)) fun p_17 =>
              if p_17.1 = (-1000002 : Int32) then
                bnd (fL_done p_17.2 (24 : Int32) (0 : Int32) (0 : Int32) (0 : Int32)) fun p_19 =>
                if p_19.1 = (-1000002 : Int32) then
                  bnd (fL_done p_19.2 (10 : Int32) (151 : Int32) (0 : Int32) (0 : Int32)) fun p_21 =>
                  if p_21.1 = (-1000002 : Int32) then
                    fL_plays_j561 p_21.2 (1 : Int32)
                  else
                    fL_plays_j560 p_21.2
                else
                  fL_plays_j560 p_19.2
              else
                fL_plays_j560 p_17.2
            else
              fL_plays_j560 p_15.2
          else
            fL_plays_j560 p_13.2
        else
          fL_plays_j560 p_11.2
      else
        fL_plays_j560 p_9.2
    else
      fL_plays_j560 p_7.2
def fL_plays_j408 (τ_408 : LawS) (l10_408 : Int32) (s0_408 : Int32) : Option ((LawS × Int32 × Int32) ⊕ ((LawS × Int32) ⊕ LawS)) :=
  stp s0_408 fun x9_3 =>
  stp (l10_408 + (1 : Int32)) fun x10_4 =>
  some (.inl (τ_408, x9_3, x10_4))
def fL_plays_j407 (τ_407 : LawS) (l10_407 : Int32) : Option ((LawS × Int32 × Int32) ⊕ ((LawS × Int32) ⊕ LawS)) :=
  fL_plays_j408 τ_407 l10_407 (0 : Int32)
def fL_plays_j387 (τ_387 : LawS) (l9_387 : Int32) (l10_387 : Int32) : Option ((LawS × Int32 × Int32) ⊕ ((LawS × Int32) ⊕ LawS)) :=
  if l9_387 = 0 then
    fL_plays_j407 τ_387 l10_387
  else
    bnd (fL_holds τ_387) fun p_24 =>
    if p_24.1 = 0 then
      fL_plays_j407 p_24.2 l10_387
    else
      fL_plays_j408 p_24.2 l10_387 (1 : Int32)
def fL_plays_j385 (τ_385 : LawS) (l10_385 : Int32) (s0_385 : Int32) : Option ((LawS × Int32 × Int32) ⊕ ((LawS × Int32) ⊕ LawS)) :=
  stp s0_385 fun x9_5 =>
  fL_plays_j387 τ_385 x9_5 l10_385
def fL_plays_j341 (τ_341 : LawS) (l10_341 : Int32) (s0_341 : Int32) : Option ((LawS × Int32 × Int32) ⊕ ((LawS × Int32) ⊕ LawS)) :=
  stp s0_341 fun x9_6 =>
  fL_plays_j387 τ_341 x9_6 l10_341
def fL_plays_j340 (τ_340 : LawS) (l10_340 : Int32) : Option ((LawS × Int32 × Int32) ⊕ ((LawS × Int32) ⊕ LawS)) :=
  fL_plays_j341 τ_340 l10_340 (0 : Int32)
def fL_plays_j154 (τ_154 : LawS) (l10_154 : Int32) (l11_154 : Int32) : Option ((LawS × Int32 × Int32) ⊕ ((LawS × Int32) ⊕ LawS)) :=
  if (2 : Int32) ≤ l11_154 then
    if l11_154 = (2 : Int32) then
      bnd (fL_replacesAll τ_154) fun p_53 =>
      stp p_53.1 fun x9_10 =>
      fL_plays_j387 p_53.2 x9_10 l10_154
    else
      if (5 : Int32) ≤ l11_154 then
        if l11_154 = (5 : Int32) then
          bnd (fL_branches τ_154) fun p_51 =>
          stp p_51.1 fun x9_8 =>
          fL_plays_j387 p_51.2 x9_8 l10_154
        else
          if (8 : Int32) ≤ l11_154 then
            if l11_154 = (8 : Int32) then
              bnd (f11_keep τ_154.2) fun p_37 =>
              bnd (nox (f11_count p_37.2 (1 : Int32))) fun p_38 =>
              if p_37.1 = p_38.1 then
                bnd (f11_differences p_38.2) fun p_40 =>
                if p_40.1 = 0 then
                  bnd (f11_sameShare p_40.2) fun p_42 =>
                  if (Op.cmpValue (FP.fcmp p_42.1 FP.fconst1) .l) = 0 then
                    bnd (fL_acts (τ_154.1, p_42.2)) fun p_44 =>
                    if p_44.1 ≤ (-1000009 : Int32) then
                      fL_plays_j340 p_44.2 l10_154
                    else
                      bnd (f11_differences p_44.2.2) fun p_46 =>
                      if p_46.1 < 0 then
                        fL_plays_j340 (p_44.2.1, p_46.2) l10_154
                      else
                        bnd (f11_sameShare p_46.2) fun p_48 =>
                        if 0 < (Op.cmpValue (FP.fcmp p_48.1 FP.fconst1) .g) then
                          fL_plays_j340 (p_44.2.1, p_48.2) l10_154
                        else
                          fL_plays_j341 (p_44.2.1, p_48.2) l10_154 (1 : Int32)
                  else
                    fL_plays_j340 (τ_154.1, p_42.2) l10_154
                else
                  fL_plays_j340 (τ_154.1, p_40.2) l10_154
              else
                fL_plays_j340 (τ_154.1, p_38.2) l10_154
            else
              bnd (fL_next τ_154) fun p_32 =>
              if (p_32.1 - p_32.1 / (2 : Int32) * (2 : Int32)) = 0 then
                bnd (fL_records p_32.2) fun p_36 =>
                fL_plays_j385 p_36.2 l10_154 p_36.1
              else
                bnd (fL_acts p_32.2) fun p_34 =>
                if p_34.1 ≤ (-1000009 : Int32) then
                  fL_plays_j385 p_34.2 l10_154 (0 : Int32)
                else
                  fL_plays_j385 p_34.2 l10_154 (1 : Int32)
          else
            bnd (fL_moves τ_154) fun p_50 =>
            stp p_50.1 fun x9_7 =>
            fL_plays_j387 p_50.2 x9_7 l10_154
      else
        bnd (fL_goesBack τ_154) fun p_52 =>
        stp p_52.1 fun x9_9 =>
        fL_plays_j387 p_52.2 x9_9 l10_154
  else
    bnd (fL_replaces τ_154) fun p_54 =>
    stp p_54.1 fun x9_11 =>
    fL_plays_j387 p_54.2 x9_11 l10_154
def fL_plays_b102 (τ_102 : LawS) (l9_102 : Int32) (l10_102 : Int32) : Option ((LawS × Int32 × Int32) ⊕ ((LawS × Int32) ⊕ LawS)) :=
  if (16 : Int32) ≤ l10_102 then
    some (.inr (Sum.inl (τ_102, l9_102)))
  else
    if l9_102 = 0 then
      some (.inr (Sum.inl (τ_102, l9_102)))
    else
      bnd (fL_next τ_102) fun p_57 =>
      stp (p_57.1 - p_57.1 / (10 : Int32) * (10 : Int32)) fun x11_12 =>
      bnd (nox (f11_count p_57.2.2 (0 : Int32))) fun p_58 =>
      if p_58.1 ≤ (350 : Int32) then
        fL_plays_j154 (p_57.2.1, p_58.2) l10_102 x11_12
      else
        bnd (fL_done (p_57.2.1, p_58.2) (3 : Int32) (100 : Int32) (300 : Int32) (0 : Int32)) fun p_60 =>
        if p_60.1 = (-1000009 : Int32) then
          some (.inr (Sum.inr p_60.2))
        else
          fL_plays_j154 p_60.2 l10_102 x11_12
def fL_plays_j102 (τ_102 : LawS) (l9_102 : Int32) (l10_102 : Int32) : Option (Int32 × LawS) :=
  bnd (loopF (fun s_102 => fL_plays_b102 s_102.1 s_102.2.1 s_102.2.2) 17 (τ_102, l9_102, l10_102)) fun r_102 =>
    match r_102 with
    | .inl r_102x =>
      fL_plays_j416 r_102x.1 r_102x.2
    | .inr r_102y =>
      some ((0 : Int32), r_102y)
def fL_plays_j97 (τ_97 : LawS) (s0_97 : Int32) : Option (Int32 × LawS) :=
  stp s0_97 fun x9_13 =>
  stp (0 : Int32) fun x10_14 =>
  fL_plays_j102 τ_97 x9_13 x10_14
def fL_plays_j96 (τ_96 : LawS) : Option (Int32 × LawS) :=
  fL_plays_j97 τ_96 (0 : Int32)
def fL_plays (τ : LawS) : Option (Int32 × LawS) :=
  bnd (nox (f11_count τ.2 (0 : Int32))) fun p_62 =>
  if p_62.1 = 0 then
    bnd (nox (f11_count p_62.2 (1 : Int32))) fun p_64 =>
    if p_64.1 = (1 : Int32) then
      bnd (nox (f11_cursorAt p_64.2 (0 : Int32))) fun p_66 =>
      if p_66.1 = 0 then
        bnd (fL_done (τ.1, p_66.2) (9 : Int32) (0 : Int32) (0 : Int32) (0 : Int32)) fun p_68 =>
        if p_68.1 = (-1000003 : Int32) then
          bnd (fL_done p_68.2 (10 : Int32) (1 : Int32) (0 : Int32) (0 : Int32)) fun p_70 =>
          if p_70.1 = 0 then
            bnd (fL_done p_70.2 (12 : Int32) (0 : Int32) (0 : Int32) (0 : Int32)) fun p_72 =>
            if p_72.1 = (-1000004 : Int32) then
              fL_plays_j97 p_72.2 (1 : Int32)
            else
              fL_plays_j96 p_72.2
          else
            fL_plays_j96 p_70.2
        else
          fL_plays_j96 p_68.2
      else
        fL_plays_j96 (τ.1, p_66.2)
    else
      fL_plays_j96 (τ.1, p_64.2)
  else
    fL_plays_j96 (τ.1, p_62.2)
set_option maxHeartbeats 4000000 in
set_option maxRecDepth 100000 in
theorem jL_plays {l : Launch} {K : JK} (hl : l.stackTraces = false) {τ : LawS}   {Qf : Int32 × LawS → Prop} (h : Ok (fL_plays τ) Qf) {X : JX} (hX : X.2.1 = l) (hR : X.2.2.2.1 = jR 12 4510 195832) (C : Cx X K 12 RL cL_plays) (hret : X.2.2.2.2.2.2.2.2.1.sig.returnType = (some .boolean)) : J X K 12 False (jQ X K 4510 195832 (PL Qf (fun p => some (.int p.1)) (fun p => jl K p.2)) PN False) 2017 180874 2064 (jl K τ) 9 [(0, .ref (K.2.2 + 0)), (1, .ref (K.2.2 + 1)), (2, .ref (K.2.2 + 43)), (3, .ref (K.2.2 + 44)), (4, .ref (K.2.2 + 45)), (5, .ref (K.2.2 + 46)), (6, .ref (K.2.2 + 47))] [] := by
  generalize hQQ : jQ X K 4510 195832 (PL Qf (fun p => some (.int p.1)) (fun p => jl K p.2)) PN False = QQ
  have hj_581 : (∀ (τ_581 : LawS) (s0_581 : Int32), Ok (fL_plays_j581 τ_581 s0_581) Qf → J X K 12 False QQ 4510 195832 2064 (jl K τ_581) 581 [] [.int s0_581]) := by
    intro τ_581 s0_581 h
    unfold fL_plays_j581 at h
    obtain ⟨g_1, h⟩ := Ok.ofgd h
    rw [← hQQ]
    exact J_zret C hret (narB g_1).1 (Nat.le_of_ble_eq_true rfl) (Nat.le_of_ble_eq_true rfl) ⟨_, h.osome, rfl, rfl, rfl⟩ dL_plays_581
  have hj_580 : (∀ (τ_580 : LawS), Ok (fL_plays_j580 τ_580) Qf → J X K 12 False QQ 4510 195832 2064 (jl K τ_580) 580 [] []) := by
    intro τ_580 h
    unfold fL_plays_j580 at h
    refine J_iconst (v := 0) C (by decide) dL_plays_580 rfl ?_
    exact hj_581 τ_580 (0 : Int32) h
  have hj_561 : (∀ (τ_561 : LawS) (s0_561 : Int32), Ok (fL_plays_j561 τ_561 s0_561) Qf → J X K 12 False QQ 4510 195832 2064 (jl K τ_561) 561 [(6, .ref (K.2.2 + 47))] [.int s0_561]) := by
    intro τ_561 s0_561 h
    unfold fL_plays_j561 at h
    obtain ⟨x9_1, e_x9_1, h⟩ := Ok.nm h
    refine J_istoreE (i := 9) (lv' := [(9, .int x9_1), (6, .ref (K.2.2 + 47))]) C e_x9_1 dL_plays_561 (Nat.le_of_ble_eq_true rfl) rfl rfl ?_
    refine J_iload (i := 9) (p := 0) C dL_plays_563 rfl rfl ?_
    refine J_if_eq (t := 580) C dL_plays_565 (by decide) rfl (fun c_2 => ?_) (fun c_2 => ?_)
    · have h := h.pos c_2
      refine J.sub [] rfl ?_
      exact hj_580 τ_561 h
    · have h := h.neg c_2
      refine J_aload (i := 6) (p := 1) C dL_plays_568 rfl rfl ?_
      refine Jl_cV (rest := []) (st9 := fun p_3 => [.int p_3.1]) (wd := fun p_3 => p_3.2) C hR hX cv_RL_236 (k11_errors hl (Ok.ofbnd h)) rfl rfl (Nat.le_of_ble_eq_true rfl) (Nat.le_of_ble_eq_true rfl) (Nat.le_of_ble_eq_true rfl) ⟨(Nat.le_of_ble_eq_true rfl), (Nat.le_of_ble_eq_true rfl)⟩ dL_plays_570 rfl (fun E n9 w9 hx => hx.elim) (fun _ => rfl) (fun p_3 h => ?_)
      have h : Ok _ _ := h
      change J X K 12 False QQ 4510 195832 2064 (jl K (τ_561.1, p_3.2)) 573 [(9, .int x9_1), (6, .ref (K.2.2 + 47))] [.int p_3.1]
      refine J_if_ne (t := 580) C dL_plays_573 (by decide) rfl (fun c_4 => ?_) (fun c_4 => ?_)
      · have h := h.neg c_4
        refine J.sub [] rfl ?_
        exact hj_580 (τ_561.1, p_3.2) h
      · have h := h.pos (Decidable.not_not.mp c_4)
        refine J_iconst (v := 1) C (by decide) dL_plays_576 rfl ?_
        refine J_goto (t := 581) C dL_plays_577 (by decide) ?_
        refine J.sub [] rfl ?_
        exact hj_581 (τ_561.1, p_3.2) (1 : Int32) h
  have hj_560 : (∀ (τ_560 : LawS), Ok (fL_plays_j560 τ_560) Qf → J X K 12 False QQ 4510 195832 2064 (jl K τ_560) 560 [(6, .ref (K.2.2 + 47))] []) := by
    intro τ_560 h
    unfold fL_plays_j560 at h
    refine J_iconst (v := 0) C (by decide) dL_plays_560 rfl ?_
    exact hj_561 τ_560 (0 : Int32) h
  have hj_416 : (∀ (τ_416 : LawS) (l9_416 : Int32), Ok (fL_plays_j416 τ_416 l9_416) Qf → J X K 12 False QQ 4502 195784 2064 (jl K τ_416) 416 [(6, .ref (K.2.2 + 47)), (9, .int l9_416)] []) := by
    intro τ_416 l9_416 h
    unfold fL_plays_j416 at h
    refine J_aload (i := 6) (p := 0) C dL_plays_416 rfl rfl ?_
    refine J_iconst (v := 0) C (by decide) dL_plays_418 rfl ?_
    refine Jl_cV (rest := []) (st9 := fun p_5 => [.int p_5.1]) (wd := fun p_5 => p_5.2) C hR hX cv_RL_134 (k11_count_n hl (Ok.ofnox h) (fun c hc => hc)) rfl rfl (Nat.le_of_ble_eq_true rfl) (Nat.le_of_ble_eq_true rfl) (Nat.le_of_ble_eq_true rfl) ⟨(Nat.le_of_ble_eq_true rfl), (Nat.le_of_ble_eq_true rfl)⟩ dL_plays_419 rfl (fun E n9 w9 hx => hx.elim) (fun _ => rfl) (fun p_5 h => ?_)
    have h : Ok _ _ := h
    change J X K 12 False QQ 4502 195784 2064 (jl K (τ_416.1, p_5.2)) 422 [(6, .ref (K.2.2 + 47)), (9, .int l9_416)] [.int p_5.1]
    obtain ⟨x10_2, e_x10_2, h⟩ := Ok.nm h
    refine J_istoreE (i := 10) (lv' := [(10, .int x10_2), (6, .ref (K.2.2 + 47)), (9, .int l9_416)]) C e_x10_2 dL_plays_422 (Nat.le_of_ble_eq_true rfl) rfl rfl ?_
    refine J_iload (i := 9) (p := 2) C dL_plays_424 rfl rfl ?_
    refine J_if_eq (t := 560) C dL_plays_426 (by decide) rfl (fun c_6 => ?_) (fun c_6 => ?_)
    · have h := h.pos c_6
      refine J.widen (k' := 4510) (sl' := 195832) (Nat.le_of_ble_eq_true rfl) (Nat.le_of_ble_eq_true rfl) ?_
      refine J.sub [1] rfl ?_
      exact hj_560 (τ_416.1, p_5.2) h
    · have h := h.neg c_6
      refine J_aload (i := 6) (p := 1) C dL_plays_429 rfl rfl ?_
      refine J_iconst (v := 2) C (by decide) dL_plays_431 rfl ?_
      refine J_iconst (v := 0) C (by decide) dL_plays_432 rfl ?_
      refine J_iload (i := 10) (p := 0) C dL_plays_433 rfl rfl ?_
      refine J_iconst (v := 1) C (by decide) dL_plays_435 rfl ?_
      refine J_iadd C dL_plays_436 rfl ?_
      refine J_iconst (v := 0) C (by decide) dL_plays_437 rfl ?_
      refine Jl_cH (rest := []) (st9 := fun p_7 => [.int p_7.1]) C hR hX ch_RL_174 (kL_done hl  (Ok.ofbnd h)) rfl rfl (Nat.le_of_ble_eq_true rfl) (Nat.le_of_ble_eq_true rfl) (Nat.le_of_ble_eq_true rfl) ⟨(Nat.le_of_ble_eq_true rfl), (Nat.le_of_ble_eq_true rfl)⟩ dL_plays_438 rfl (fun _ => rfl) (fun p_7 h => ?_)
      have h : Ok _ _ := h
      change J X K 12 False QQ 4503 195790 2064 (jl K p_7.2) 441 [(10, .int x10_2), (6, .ref (K.2.2 + 47)), (9, .int l9_416)] [.int p_7.1]
      refine J_ldc (v := -1000001) C ci_RL_117 dL_plays_441 rfl ?_
      refine J_icmp_ne (t := 560) C dL_plays_443 (by decide) rfl (fun c_8 => ?_) (fun c_8 => ?_)
      · have h := h.neg c_8
        refine J.widen (k' := 4510) (sl' := 195832) (Nat.le_of_ble_eq_true rfl) (Nat.le_of_ble_eq_true rfl) ?_
        refine J.sub [1] rfl ?_
        exact hj_560 p_7.2 h
      · have h := h.pos (Decidable.not_not.mp c_8)
        refine J_aload (i := 6) (p := 1) C dL_plays_446 rfl rfl ?_
        refine J_iconst (v := 2) C (by decide) dL_plays_448 rfl ?_
        refine J_iconst (v := 0) C (by decide) dL_plays_449 rfl ?_
        refine J_iconst (v := -1) C (by decide) dL_plays_450 rfl ?_
        refine J_iconst (v := 0) C (by decide) dL_plays_451 rfl ?_
        refine Jl_cH (rest := []) (st9 := fun p_9 => [.int p_9.1]) C hR hX ch_RL_174 (kL_done hl  (Ok.ofbnd h)) rfl rfl (Nat.le_of_ble_eq_true rfl) (Nat.le_of_ble_eq_true rfl) (Nat.le_of_ble_eq_true rfl) ⟨(Nat.le_of_ble_eq_true rfl), (Nat.le_of_ble_eq_true rfl)⟩ dL_plays_452 rfl (fun _ => rfl) (fun p_9 h => ?_)
        have h : Ok _ _ := h
        change J X K 12 False QQ 4504 195796 2064 (jl K p_9.2) 455 [(10, .int x10_2), (6, .ref (K.2.2 + 47)), (9, .int l9_416)] [.int p_9.1]
        refine J_ldc (v := -1000001) C ci_RL_117 dL_plays_455 rfl ?_
        refine J_icmp_ne (t := 560) C dL_plays_457 (by decide) rfl (fun c_10 => ?_) (fun c_10 => ?_)
        · have h := h.neg c_10
          refine J.widen (k' := 4510) (sl' := 195832) (Nat.le_of_ble_eq_true rfl) (Nat.le_of_ble_eq_true rfl) ?_
          refine J.sub [1] rfl ?_
          exact hj_560 p_9.2 h
        · have h := h.pos (Decidable.not_not.mp c_10)
          refine J_aload (i := 6) (p := 1) C dL_plays_460 rfl rfl ?_
          refine J_iconst (v := 1) C (by decide) dL_plays_462 rfl ?_
          refine J_bipush (v := 101) C (by decide) dL_plays_463 rfl ?_
          refine J_iconst (v := 0) C (by decide) dL_plays_465 rfl ?_
          refine J_iconst (v := 0) C (by decide) dL_plays_466 rfl ?_
          refine Jl_cH (rest := []) (st9 := fun p_11 => [.int p_11.1]) C hR hX ch_RL_174 (kL_done hl  (Ok.ofbnd h)) rfl rfl (Nat.le_of_ble_eq_true rfl) (Nat.le_of_ble_eq_true rfl) (Nat.le_of_ble_eq_true rfl) ⟨(Nat.le_of_ble_eq_true rfl), (Nat.le_of_ble_eq_true rfl)⟩ dL_plays_467 rfl (fun _ => rfl) (fun p_11 h => ?_)
          have h : Ok _ _ := h
          change J X K 12 False QQ 4505 195802 2064 (jl K p_11.2) 470 [(10, .int x10_2), (6, .ref (K.2.2 + 47)), (9, .int l9_416)] [.int p_11.1]
          refine J_ldc (v := -1000002) C ci_RL_120 dL_plays_470 rfl ?_
          refine J_icmp_ne (t := 560) C dL_plays_472 (by decide) rfl (fun c_12 => ?_) (fun c_12 => ?_)
          · have h := h.neg c_12
            refine J.widen (k' := 4510) (sl' := 195832) (Nat.le_of_ble_eq_true rfl) (Nat.le_of_ble_eq_true rfl) ?_
            refine J.sub [1] rfl ?_
            exact hj_560 p_11.2 h
          · have h := h.pos (Decidable.not_not.mp c_12)
            refine J_aload (i := 6) (p := 1) C dL_plays_475 rfl rfl ?_
            refine J_bipush (v := 26) C (by decide) dL_plays_477 rfl ?_
            refine J_iload (i := 10) (p := 0) C dL_plays_479 rfl rfl ?_
            refine J_iconst (v := 0) C (by decide) dL_plays_481 rfl ?_
            refine J_iconst (v := 0) C (by decide) dL_plays_482 rfl ?_
            refine Jl_cH (rest := []) (st9 := fun p_13 => [.int p_13.1]) C hR hX ch_RL_174 (kL_done hl  (Ok.ofbnd h)) rfl rfl (Nat.le_of_ble_eq_true rfl) (Nat.le_of_ble_eq_true rfl) (Nat.le_of_ble_eq_true rfl) ⟨(Nat.le_of_ble_eq_true rfl), (Nat.le_of_ble_eq_true rfl)⟩ dL_plays_483 rfl (fun _ => rfl) (fun p_13 h => ?_)
            have h : Ok _ _ := h
            change J X K 12 False QQ 4506 195808 2064 (jl K p_13.2) 486 [(10, .int x10_2), (6, .ref (K.2.2 + 47)), (9, .int l9_416)] [.int p_13.1]
            refine J_ldc (v := -1000001) C ci_RL_117 dL_plays_486 rfl ?_
            refine J_icmp_ne (t := 560) C dL_plays_488 (by decide) rfl (fun c_14 => ?_) (fun c_14 => ?_)
            · have h := h.neg c_14
              refine J.widen (k' := 4510) (sl' := 195832) (Nat.le_of_ble_eq_true rfl) (Nat.le_of_ble_eq_true rfl) ?_
              refine J.sub [1] rfl ?_
              exact hj_560 p_13.2 h
            · have h := h.pos (Decidable.not_not.mp c_14)
              refine J_aload (i := 6) (p := 1) C dL_plays_491 rfl rfl ?_
              refine J_bipush (v := 27) C (by decide) dL_plays_493 rfl ?_
              refine J_iload (i := 10) (p := 0) C dL_plays_495 rfl rfl ?_
              refine J_iconst (v := 1) C (by decide) dL_plays_497 rfl ?_
              refine J_iadd C dL_plays_498 rfl ?_
              refine J_iconst (v := 0) C (by decide) dL_plays_499 rfl ?_
              refine J_iconst (v := 0) C (by decide) dL_plays_500 rfl ?_
              refine Jl_cH (rest := []) (st9 := fun p_15 => [.int p_15.1]) C hR hX ch_RL_174 (kL_done hl  (Ok.ofbnd h)) rfl rfl (Nat.le_of_ble_eq_true rfl) (Nat.le_of_ble_eq_true rfl) (Nat.le_of_ble_eq_true rfl) ⟨(Nat.le_of_ble_eq_true rfl), (Nat.le_of_ble_eq_true rfl)⟩ dL_plays_501 rfl (fun _ => rfl) (fun p_15 h => ?_)
              have h : Ok _ _ := h
              change J X K 12 False QQ 4507 195814 2064 (jl K p_15.2) 504 [(10, .int x10_2), (6, .ref (K.2.2 + 47)), (9, .int l9_416)] [.int p_15.1]
              refine J_ldc (v := -1000001) C ci_RL_117 dL_plays_504 rfl ?_
              refine J_icmp_ne (t := 560) C dL_plays_506 (by decide) rfl (fun c_16 => ?_) (fun c_16 => ?_)
              · have h := h.neg c_16
                refine J.widen (k' := 4510) (sl' := 195832) (Nat.le_of_ble_eq_true rfl) (Nat.le_of_ble_eq_true rfl) ?_
                refine J.sub [1] rfl ?_
                exact hj_560 p_15.2 h
              · have h := h.pos (Decidable.not_not.mp c_16)
                refine J_aload (i := 6) (p := 1) C dL_plays_509 rfl rfl ?_
                refine J_bipush (v := 16) C (by decide) dL_plays_511 rfl ?_
                refine J_iconst (v := 5) C (by decide) dL_plays_513 rfl ?_
                refine J_iconst (v := 0) C (by decide) dL_plays_514 rfl ?_
                refine J_iconst (v := 0) C (by decide) dL_plays_515 rfl ?_
                refine Jl_cH (rest := []) (st9 := fun p_17 => [.int p_17.1]) C hR hX ch_RL_174 (kL_done hl  (Ok.ofbnd h)) rfl rfl (Nat.le_of_ble_eq_true rfl) (Nat.le_of_ble_eq_true rfl) (Nat.le_of_ble_eq_true rfl) ⟨(Nat.le_of_ble_eq_true rfl), (Nat.le_of_ble_eq_true rfl)⟩ dL_plays_516 rfl (fun _ => rfl) (fun p_17 h => ?_)
                have h : Ok _ _ := h
                change J X K 12 False QQ 4508 195820 2064 (jl K p_17.2) 519 [(10, .int x10_2), (6, .ref (K.2.2 + 47)), (9, .int l9_416)] [.int p_17.1]
                refine J_ldc (v := -1000002) C ci_RL_120 dL_plays_519 rfl ?_
                refine J_icmp_ne (t := 560) C dL_plays_521 (by decide) rfl (fun c_18 => ?_) (fun c_18 => ?_)
                · have h := h.neg c_18
                  refine J.widen (k' := 4510) (sl' := 195832) (Nat.le_of_ble_eq_true rfl) (Nat.le_of_ble_eq_true rfl) ?_
                  refine J.sub [1] rfl ?_
                  exact hj_560 p_17.2 h
                · have h := h.pos (Decidable.not_not.mp c_18)
                  refine J_aload (i := 6) (p := 1) C dL_plays_524 rfl rfl ?_
                  refine J_bipush (v := 24) C (by decide) dL_plays_526 rfl ?_
                  refine J_iconst (v := 0) C (by decide) dL_plays_528 rfl ?_
                  refine J_iconst (v := 0) C (by decide) dL_plays_529 rfl ?_
                  refine J_iconst (v := 0) C (by decide) dL_plays_530 rfl ?_
                  refine Jl_cH (rest := []) (st9 := fun p_19 => [.int p_19.1]) C hR hX ch_RL_174 (kL_done hl  (Ok.ofbnd h)) rfl rfl (Nat.le_of_ble_eq_true rfl) (Nat.le_of_ble_eq_true rfl) (Nat.le_of_ble_eq_true rfl) ⟨(Nat.le_of_ble_eq_true rfl), (Nat.le_of_ble_eq_true rfl)⟩ dL_plays_531 rfl (fun _ => rfl) (fun p_19 h => ?_)
                  have h : Ok _ _ := h
                  change J X K 12 False QQ 4509 195826 2064 (jl K p_19.2) 534 [(10, .int x10_2), (6, .ref (K.2.2 + 47)), (9, .int l9_416)] [.int p_19.1]
                  refine J_ldc (v := -1000002) C ci_RL_120 dL_plays_534 rfl ?_
                  refine J_icmp_ne (t := 560) C dL_plays_536 (by decide) rfl (fun c_20 => ?_) (fun c_20 => ?_)
                  · have h := h.neg c_20
                    refine J.widen (k' := 4510) (sl' := 195832) (Nat.le_of_ble_eq_true rfl) (Nat.le_of_ble_eq_true rfl) ?_
                    refine J.sub [1] rfl ?_
                    exact hj_560 p_19.2 h
                  · have h := h.pos (Decidable.not_not.mp c_20)
                    refine J_aload (i := 6) (p := 1) C dL_plays_539 rfl rfl ?_
                    refine J_bipush (v := 10) C (by decide) dL_plays_541 rfl ?_
                    refine J_sipush (v := 151) C (by decide) dL_plays_543 rfl ?_
                    refine J_iconst (v := 0) C (by decide) dL_plays_546 rfl ?_
                    refine J_iconst (v := 0) C (by decide) dL_plays_547 rfl ?_
                    refine Jl_cH (rest := []) (st9 := fun p_21 => [.int p_21.1]) C hR hX ch_RL_174 (kL_done hl  (Ok.ofbnd h)) rfl rfl (Nat.le_of_ble_eq_true rfl) (Nat.le_of_ble_eq_true rfl) (Nat.le_of_ble_eq_true rfl) ⟨(Nat.le_of_ble_eq_true rfl), (Nat.le_of_ble_eq_true rfl)⟩ dL_plays_548 rfl (fun _ => rfl) (fun p_21 h => ?_)
                    have h : Ok _ _ := h
                    change J X K 12 False QQ 4510 195832 2064 (jl K p_21.2) 551 [(10, .int x10_2), (6, .ref (K.2.2 + 47)), (9, .int l9_416)] [.int p_21.1]
                    refine J_ldc (v := -1000002) C ci_RL_120 dL_plays_551 rfl ?_
                    refine J_icmp_ne (t := 560) C dL_plays_553 (by decide) rfl (fun c_22 => ?_) (fun c_22 => ?_)
                    · have h := h.neg c_22
                      refine J.sub [1] rfl ?_
                      exact hj_560 p_21.2 h
                    · have h := h.pos (Decidable.not_not.mp c_22)
                      refine J_iconst (v := 1) C (by decide) dL_plays_556 rfl ?_
                      refine J_goto (t := 561) C dL_plays_557 (by decide) ?_
                      refine J.sub [1] rfl ?_
                      exact hj_561 p_21.2 (1 : Int32) h
  have hj_102 : (∀ (τ_102 : LawS) (l9_102 : Int32) (l10_102 : Int32), Ok (fL_plays_j102 τ_102 l9_102 l10_102) Qf → J X K 12 False QQ 2020 180892 2064 (jl K τ_102) 102 [(0, .ref (K.2.2 + 0)), (1, .ref (K.2.2 + 1)), (2, .ref (K.2.2 + 43)), (3, .ref (K.2.2 + 44)), (4, .ref (K.2.2 + 45)), (5, .ref (K.2.2 + 46)), (6, .ref (K.2.2 + 47)), (7, .ref (K.2.2 + 41)), (8, .ref (K.2.2 + 42)), (9, .int l9_102), (10, .int l10_102)] []) := by
    intro τ_102 l9_102 l10_102 h
    unfold fL_plays_j102 at h
    refine loop_room (S := LawS × Int32 × Int32) (P := fun m_102 s_102 => ∀ k_102 : Nat, k_102 + m_102 * 146 ≤ 4502 → J X K 12 False QQ k_102 (6 * k_102 + 168772) 2064 (jl K s_102.1) 102 [(0, .ref (K.2.2 + 0)), (1, .ref (K.2.2 + 1)), (2, .ref (K.2.2 + 43)), (3, .ref (K.2.2 + 44)), (4, .ref (K.2.2 + 45)), (5, .ref (K.2.2 + 46)), (6, .ref (K.2.2 + 47)), (7, .ref (K.2.2 + 41)), (8, .ref (K.2.2 + 42)), (9, .int s_102.2.1), (10, .int s_102.2.2)] []) ?_ 17 (τ_102, l9_102, l10_102) (Ok.ofbnd h) 2020 (by omega)
    intro m_102 B_102 hB_102 hE_102 s_102 h k_102 hk_102
    obtain ⟨τ_102, l9_102, l10_102⟩ := s_102
    have h : Ok (fL_plays_b102 τ_102 l9_102 l10_102) B_102 := h
    change J X K 12 False QQ k_102 (6 * k_102 + 168772) 2064 (jl K τ_102) 102 [(0, .ref (K.2.2 + 0)), (1, .ref (K.2.2 + 1)), (2, .ref (K.2.2 + 43)), (3, .ref (K.2.2 + 44)), (4, .ref (K.2.2 + 45)), (5, .ref (K.2.2 + 46)), (6, .ref (K.2.2 + 47)), (7, .ref (K.2.2 + 41)), (8, .ref (K.2.2 + 42)), (9, .int l9_102), (10, .int l10_102)] []
    have hj_408 : (∀ (τ_408 : LawS) (l10_408 : Int32) (s0_408 : Int32), Ok (fL_plays_j408 τ_408 l10_408 s0_408) B_102 → J X K 12 False QQ (k_102 + 146) (6 * (k_102 + 146) + 168772) 2064 (jl K τ_408) 408 [(0, .ref (K.2.2 + 0)), (1, .ref (K.2.2 + 1)), (2, .ref (K.2.2 + 43)), (3, .ref (K.2.2 + 44)), (4, .ref (K.2.2 + 45)), (5, .ref (K.2.2 + 46)), (6, .ref (K.2.2 + 47)), (7, .ref (K.2.2 + 41)), (8, .ref (K.2.2 + 42)), (10, .int l10_408)] [.int s0_408]) := by
      intro τ_408 l10_408 s0_408 h
      unfold fL_plays_j408 at h
      obtain ⟨x9_3, e_x9_3, h⟩ := Ok.nm h
      refine J_istoreE (i := 9) (lv' := [(9, .int x9_3), (0, .ref (K.2.2 + 0)), (1, .ref (K.2.2 + 1)), (2, .ref (K.2.2 + 43)), (3, .ref (K.2.2 + 44)), (4, .ref (K.2.2 + 45)), (5, .ref (K.2.2 + 46)), (6, .ref (K.2.2 + 47)), (7, .ref (K.2.2 + 41)), (8, .ref (K.2.2 + 42)), (10, .int l10_408)]) C e_x9_3 dL_plays_408 (Nat.le_of_ble_eq_true rfl) rfl rfl ?_
      obtain ⟨x10_4, e_x10_4, h⟩ := Ok.nm h
      refine J_iincE (i := 10) (p := 10) (lv' := [(10, .int x10_4), (9, .int x9_3), (0, .ref (K.2.2 + 0)), (1, .ref (K.2.2 + 1)), (2, .ref (K.2.2 + 43)), (3, .ref (K.2.2 + 44)), (4, .ref (K.2.2 + 45)), (5, .ref (K.2.2 + 46)), (6, .ref (K.2.2 + 47)), (7, .ref (K.2.2 + 41)), (8, .ref (K.2.2 + 42))]) C e_x10_4 dL_plays_410 rfl (by decide) (Nat.le_of_ble_eq_true rfl) rfl rfl ?_
      refine J_goto (t := 102) C dL_plays_413 (by decide) ?_
      refine J.sub [2, 3, 4, 5, 6, 7, 8, 9, 10, 1, 0] rfl ?_
      exact hB_102 (τ_408, x9_3, x10_4) h.osome (k_102 + 146) (by omega)
    have hj_407 : (∀ (τ_407 : LawS) (l10_407 : Int32), Ok (fL_plays_j407 τ_407 l10_407) B_102 → J X K 12 False QQ (k_102 + 146) (6 * (k_102 + 146) + 168772) 2064 (jl K τ_407) 407 [(0, .ref (K.2.2 + 0)), (1, .ref (K.2.2 + 1)), (2, .ref (K.2.2 + 43)), (3, .ref (K.2.2 + 44)), (4, .ref (K.2.2 + 45)), (5, .ref (K.2.2 + 46)), (6, .ref (K.2.2 + 47)), (7, .ref (K.2.2 + 41)), (8, .ref (K.2.2 + 42)), (10, .int l10_407)] []) := by
      intro τ_407 l10_407 h
      unfold fL_plays_j407 at h
      refine J_iconst (v := 0) C (by decide) dL_plays_407 rfl ?_
      exact hj_408 τ_407 l10_407 (0 : Int32) h
    have hj_387 : (∀ (τ_387 : LawS) (l9_387 : Int32) (l10_387 : Int32), Ok (fL_plays_j387 τ_387 l9_387 l10_387) B_102 → J X K 12 False QQ (k_102 + 146) (6 * (k_102 + 146) + 168772) 2064 (jl K τ_387) 387 [(0, .ref (K.2.2 + 0)), (1, .ref (K.2.2 + 1)), (2, .ref (K.2.2 + 43)), (3, .ref (K.2.2 + 44)), (4, .ref (K.2.2 + 45)), (5, .ref (K.2.2 + 46)), (6, .ref (K.2.2 + 47)), (7, .ref (K.2.2 + 41)), (8, .ref (K.2.2 + 42)), (9, .int l9_387), (10, .int l10_387)] []) := by
      intro τ_387 l9_387 l10_387 h
      unfold fL_plays_j387 at h
      refine J_iload (i := 9) (p := 9) C dL_plays_387 rfl rfl ?_
      refine J_if_eq (t := 407) C dL_plays_389 (by decide) rfl (fun c_23 => ?_) (fun c_23 => ?_)
      · have h := h.pos c_23
        refine J.sub [0, 1, 2, 3, 4, 5, 6, 7, 8, 10] rfl ?_
        exact hj_407 τ_387 l10_387 h
      · have h := h.neg c_23
        refine J_aload (i := 6) (p := 6) C dL_plays_392 rfl rfl ?_
        refine J_aload_n (i := 0) (p := 0) C dL_plays_394 rfl rfl rfl ?_
        refine J_aload (i := 8) (p := 8) C dL_plays_395 rfl rfl ?_
        refine Jl_cS (rest := []) (st9 := fun p_24 => [.int p_24.1]) C hR hX cs_RL_233 (kL_holds hl  (Ok.ofbnd h)) rfl rfl (Nat.le_of_ble_eq_true rfl) (Nat.le_of_ble_eq_true rfl) (Nat.le_of_ble_eq_true rfl) ⟨(by omega), (by omega)⟩ dL_plays_397 rfl (fun _ => rfl) (fun p_24 h => ?_)
        have h : Ok _ _ := h
        change J X K 12 False QQ (k_102 + 146) (6 * (k_102 + 146) + 168772) 2064 (jl K p_24.2) 400 [(0, .ref (K.2.2 + 0)), (1, .ref (K.2.2 + 1)), (2, .ref (K.2.2 + 43)), (3, .ref (K.2.2 + 44)), (4, .ref (K.2.2 + 45)), (5, .ref (K.2.2 + 46)), (6, .ref (K.2.2 + 47)), (7, .ref (K.2.2 + 41)), (8, .ref (K.2.2 + 42)), (9, .int l9_387), (10, .int l10_387)] [.int p_24.1]
        refine J_if_eq (t := 407) C dL_plays_400 (by decide) rfl (fun c_25 => ?_) (fun c_25 => ?_)
        · have h := h.pos c_25
          refine J.sub [0, 1, 2, 3, 4, 5, 6, 7, 8, 10] rfl ?_
          exact hj_407 p_24.2 l10_387 h
        · have h := h.neg c_25
          refine J_iconst (v := 1) C (by decide) dL_plays_403 rfl ?_
          refine J_goto (t := 408) C dL_plays_404 (by decide) ?_
          refine J.sub [0, 1, 2, 3, 4, 5, 6, 7, 8, 10] rfl ?_
          exact hj_408 p_24.2 l10_387 (1 : Int32) h
    have hj_385 : (∀ (τ_385 : LawS) (l10_385 : Int32) (s0_385 : Int32), Ok (fL_plays_j385 τ_385 l10_385 s0_385) B_102 → J X K 12 False QQ (k_102 + 12) (6 * (k_102 + 12) + 168772) 2064 (jl K τ_385) 385 [(0, .ref (K.2.2 + 0)), (1, .ref (K.2.2 + 1)), (2, .ref (K.2.2 + 43)), (3, .ref (K.2.2 + 44)), (4, .ref (K.2.2 + 45)), (5, .ref (K.2.2 + 46)), (6, .ref (K.2.2 + 47)), (7, .ref (K.2.2 + 41)), (8, .ref (K.2.2 + 42)), (10, .int l10_385)] [.int s0_385]) := by
      intro τ_385 l10_385 s0_385 h
      unfold fL_plays_j385 at h
      obtain ⟨x9_5, e_x9_5, h⟩ := Ok.nm h
      refine J_istoreE (i := 9) (lv' := [(9, .int x9_5), (0, .ref (K.2.2 + 0)), (1, .ref (K.2.2 + 1)), (2, .ref (K.2.2 + 43)), (3, .ref (K.2.2 + 44)), (4, .ref (K.2.2 + 45)), (5, .ref (K.2.2 + 46)), (6, .ref (K.2.2 + 47)), (7, .ref (K.2.2 + 41)), (8, .ref (K.2.2 + 42)), (10, .int l10_385)]) C e_x9_5 dL_plays_385 (Nat.le_of_ble_eq_true rfl) rfl rfl ?_
      refine J.widen (k' := (k_102 + 146)) (sl' := (6 * (k_102 + 146) + 168772)) (by omega) (by omega) ?_
      refine J.sub [1, 2, 3, 4, 5, 6, 7, 8, 9, 0, 10] rfl ?_
      exact hj_387 τ_385 x9_5 l10_385 h
    have hj_341 : (∀ (τ_341 : LawS) (l10_341 : Int32) (s0_341 : Int32), Ok (fL_plays_j341 τ_341 l10_341 s0_341) B_102 → J X K 12 False QQ (k_102 + 3) (6 * (k_102 + 3) + 168772) 2064 (jl K τ_341) 341 [(0, .ref (K.2.2 + 0)), (1, .ref (K.2.2 + 1)), (2, .ref (K.2.2 + 43)), (3, .ref (K.2.2 + 44)), (4, .ref (K.2.2 + 45)), (5, .ref (K.2.2 + 46)), (6, .ref (K.2.2 + 47)), (7, .ref (K.2.2 + 41)), (8, .ref (K.2.2 + 42)), (10, .int l10_341)] [.int s0_341]) := by
      intro τ_341 l10_341 s0_341 h
      unfold fL_plays_j341 at h
      obtain ⟨x9_6, e_x9_6, h⟩ := Ok.nm h
      refine J_istoreE (i := 9) (lv' := [(9, .int x9_6), (0, .ref (K.2.2 + 0)), (1, .ref (K.2.2 + 1)), (2, .ref (K.2.2 + 43)), (3, .ref (K.2.2 + 44)), (4, .ref (K.2.2 + 45)), (5, .ref (K.2.2 + 46)), (6, .ref (K.2.2 + 47)), (7, .ref (K.2.2 + 41)), (8, .ref (K.2.2 + 42)), (10, .int l10_341)]) C e_x9_6 dL_plays_341 (Nat.le_of_ble_eq_true rfl) rfl rfl ?_
      refine J_goto (t := 387) C dL_plays_343 (by decide) ?_
      refine J.widen (k' := (k_102 + 146)) (sl' := (6 * (k_102 + 146) + 168772)) (by omega) (by omega) ?_
      refine J.sub [1, 2, 3, 4, 5, 6, 7, 8, 9, 0, 10] rfl ?_
      exact hj_387 τ_341 x9_6 l10_341 h
    have hj_340 : (∀ (τ_340 : LawS) (l10_340 : Int32), Ok (fL_plays_j340 τ_340 l10_340) B_102 → J X K 12 False QQ (k_102 + 3) (6 * (k_102 + 3) + 168772) 2064 (jl K τ_340) 340 [(0, .ref (K.2.2 + 0)), (1, .ref (K.2.2 + 1)), (2, .ref (K.2.2 + 43)), (3, .ref (K.2.2 + 44)), (4, .ref (K.2.2 + 45)), (5, .ref (K.2.2 + 46)), (6, .ref (K.2.2 + 47)), (7, .ref (K.2.2 + 41)), (8, .ref (K.2.2 + 42)), (10, .int l10_340)] []) := by
      intro τ_340 l10_340 h
      unfold fL_plays_j340 at h
      refine J_iconst (v := 0) C (by decide) dL_plays_340 rfl ?_
      exact hj_341 τ_340 l10_340 (0 : Int32) h
    have hj_154 : (∀ (τ_154 : LawS) (l10_154 : Int32) (l11_154 : Int32), Ok (fL_plays_j154 τ_154 l10_154 l11_154) B_102 → J X K 12 False QQ (k_102 + 1) (6 * (k_102 + 1) + 168772) 2064 (jl K τ_154) 154 [(0, .ref (K.2.2 + 0)), (1, .ref (K.2.2 + 1)), (2, .ref (K.2.2 + 43)), (3, .ref (K.2.2 + 44)), (4, .ref (K.2.2 + 45)), (5, .ref (K.2.2 + 46)), (6, .ref (K.2.2 + 47)), (7, .ref (K.2.2 + 41)), (8, .ref (K.2.2 + 42)), (10, .int l10_154), (11, .int l11_154)] []) := by
      intro τ_154 l10_154 l11_154 h
      unfold fL_plays_j154 at h
      refine J_iload (i := 11) (p := 10) C dL_plays_154 rfl rfl ?_
      refine J_iconst (v := 2) C (by decide) dL_plays_156 rfl ?_
      refine J_icmp_ge (t := 178) C dL_plays_157 (by decide) rfl (fun c_26 => ?_) (fun c_26 => ?_)
      · have h := h.pos c_26
        refine J_iload (i := 11) (p := 10) C dL_plays_178 rfl rfl ?_
        refine J_iconst (v := 2) C (by decide) dL_plays_180 rfl ?_
        refine J_icmp_ne (t := 203) C dL_plays_181 (by decide) rfl (fun c_27 => ?_) (fun c_27 => ?_)
        · have h := h.neg c_27
          refine J_iload (i := 11) (p := 10) C dL_plays_203 rfl rfl ?_
          refine J_iconst (v := 5) C (by decide) dL_plays_205 rfl ?_
          refine J_icmp_ge (t := 226) C dL_plays_206 (by decide) rfl (fun c_28 => ?_) (fun c_28 => ?_)
          · have h := h.pos c_28
            refine J_iload (i := 11) (p := 10) C dL_plays_226 rfl rfl ?_
            refine J_iconst (v := 5) C (by decide) dL_plays_228 rfl ?_
            refine J_icmp_ne (t := 247) C dL_plays_229 (by decide) rfl (fun c_29 => ?_) (fun c_29 => ?_)
            · have h := h.neg c_29
              refine J_iload (i := 11) (p := 10) C dL_plays_247 rfl rfl ?_
              refine J_bipush (v := 8) C (by decide) dL_plays_249 rfl ?_
              refine J_icmp_ge (t := 267) C dL_plays_251 (by decide) rfl (fun c_30 => ?_) (fun c_30 => ?_)
              · have h := h.pos c_30
                refine J_iload (i := 11) (p := 10) C dL_plays_267 rfl rfl ?_
                refine J_bipush (v := 8) C (by decide) dL_plays_269 rfl ?_
                refine J_icmp_ne (t := 346) C dL_plays_271 (by decide) rfl (fun c_31 => ?_) (fun c_31 => ?_)
                · have h := h.neg c_31
                  refine J_aload_n (i := 0) (p := 0) C dL_plays_346 rfl rfl rfl ?_
                  refine Jl_cS (rest := []) (st9 := fun p_32 => [.int p_32.1]) C hR hX cs_RL_8 (kL_next hl  (Ok.ofbnd h)) rfl rfl (Nat.le_of_ble_eq_true rfl) (Nat.le_of_ble_eq_true rfl) (Nat.le_of_ble_eq_true rfl) ⟨(by omega), (by omega)⟩ dL_plays_347 rfl (fun _ => rfl) (fun p_32 h => ?_)
                  have h : Ok _ _ := h
                  change J X K 12 False QQ (k_102 + 1) (6 * (k_102 + 1) + 168772) 2064 (jl K p_32.2) 350 [(0, .ref (K.2.2 + 0)), (1, .ref (K.2.2 + 1)), (2, .ref (K.2.2 + 43)), (3, .ref (K.2.2 + 44)), (4, .ref (K.2.2 + 45)), (5, .ref (K.2.2 + 46)), (6, .ref (K.2.2 + 47)), (7, .ref (K.2.2 + 41)), (8, .ref (K.2.2 + 42)), (10, .int l10_154), (11, .int l11_154)] [.int p_32.1]
                  refine J_iconst (v := 2) C (by decide) dL_plays_350 rfl ?_
                  refine J_irem C (by decide) dL_plays_351 rfl ?_
                  refine J_if_ne (t := 368) C dL_plays_352 (by decide) rfl (fun c_33 => ?_) (fun c_33 => ?_)
                  · have h := h.neg c_33
                    refine J_aload (i := 6) (p := 6) C dL_plays_368 rfl rfl ?_
                    refine J_aload_n (i := 0) (p := 0) C dL_plays_370 rfl rfl rfl ?_
                    refine J_aload_n (i := 2) (p := 2) C dL_plays_371 rfl rfl rfl ?_
                    refine Jl_cS (rest := []) (st9 := fun p_34 => [.int p_34.1]) C hR hX cs_RL_193 (kL_acts hl  (Ok.ofbnd h)) rfl rfl (Nat.le_of_ble_eq_true rfl) (Nat.le_of_ble_eq_true rfl) (Nat.le_of_ble_eq_true rfl) ⟨(by omega), (by omega)⟩ dL_plays_372 rfl (fun _ => rfl) (fun p_34 h => ?_)
                    have h : Ok _ _ := h
                    refine J.widen (k' := (k_102 + 3)) (sl' := (6 * (k_102 + 3) + 168772)) (by omega) (by omega) ?_
                    change J X K 12 False QQ (k_102 + 3) (6 * (k_102 + 3) + 168772) 2064 (jl K p_34.2) 375 [(0, .ref (K.2.2 + 0)), (1, .ref (K.2.2 + 1)), (2, .ref (K.2.2 + 43)), (3, .ref (K.2.2 + 44)), (4, .ref (K.2.2 + 45)), (5, .ref (K.2.2 + 46)), (6, .ref (K.2.2 + 47)), (7, .ref (K.2.2 + 41)), (8, .ref (K.2.2 + 42)), (10, .int l10_154), (11, .int l11_154)] [.int p_34.1]
                    refine J_ldc (v := -1000009) C ci_RL_192 dL_plays_375 rfl ?_
                    refine J_icmp_le (t := 384) C dL_plays_377 (by decide) rfl (fun c_35 => ?_) (fun c_35 => ?_)
                    · have h := h.pos c_35
                      refine J_iconst (v := 0) C (by decide) dL_plays_384 rfl ?_
                      refine J.widen (k' := (k_102 + 12)) (sl' := (6 * (k_102 + 12) + 168772)) (by omega) (by omega) ?_
                      refine J.sub [0, 1, 2, 3, 4, 5, 6, 7, 8, 9] rfl ?_
                      exact hj_385 p_34.2 l10_154 (0 : Int32) h
                    · have h := h.neg c_35
                      refine J_iconst (v := 1) C (by decide) dL_plays_380 rfl ?_
                      refine J_goto (t := 385) C dL_plays_381 (by decide) ?_
                      refine J.widen (k' := (k_102 + 12)) (sl' := (6 * (k_102 + 12) + 168772)) (by omega) (by omega) ?_
                      refine J.sub [0, 1, 2, 3, 4, 5, 6, 7, 8, 9] rfl ?_
                      exact hj_385 p_34.2 l10_154 (1 : Int32) h
                  · have h := h.pos (Decidable.not_not.mp c_33)
                    refine J_aload (i := 6) (p := 6) C dL_plays_355 rfl rfl ?_
                    refine J_aload_n (i := 0) (p := 0) C dL_plays_357 rfl rfl rfl ?_
                    refine J_aload_n (i := 1) (p := 1) C dL_plays_358 rfl rfl rfl ?_
                    refine J_aload (i := 8) (p := 8) C dL_plays_359 rfl rfl ?_
                    refine J_aload_n (i := 2) (p := 2) C dL_plays_361 rfl rfl rfl ?_
                    refine Jl_cS (rest := []) (st9 := fun p_36 => [.int p_36.1]) C hR hX cs_RL_230 (kL_records hl  (Ok.ofbnd h)) rfl rfl (Nat.le_of_ble_eq_true rfl) (Nat.le_of_ble_eq_true rfl) (Nat.le_of_ble_eq_true rfl) ⟨(by omega), (by omega)⟩ dL_plays_362 rfl (fun _ => rfl) (fun p_36 h => ?_)
                    have h : Ok _ _ := h
                    refine J.widen (k' := (k_102 + 12)) (sl' := (6 * (k_102 + 12) + 168772)) (by omega) (by omega) ?_
                    change J X K 12 False QQ (k_102 + 12) (6 * (k_102 + 12) + 168772) 2064 (jl K p_36.2) 365 [(0, .ref (K.2.2 + 0)), (1, .ref (K.2.2 + 1)), (2, .ref (K.2.2 + 43)), (3, .ref (K.2.2 + 44)), (4, .ref (K.2.2 + 45)), (5, .ref (K.2.2 + 46)), (6, .ref (K.2.2 + 47)), (7, .ref (K.2.2 + 41)), (8, .ref (K.2.2 + 42)), (10, .int l10_154), (11, .int l11_154)] [.int p_36.1]
                    refine J_goto (t := 385) C dL_plays_365 (by decide) ?_
                    refine J.sub [0, 1, 2, 3, 4, 5, 6, 7, 8, 9] rfl ?_
                    exact hj_385 p_36.2 l10_154 p_36.1 h
                · have h := h.pos (Decidable.not_not.mp c_31)
                  refine J_aload (i := 6) (p := 6) C dL_plays_274 rfl rfl ?_
                  refine Jl_cV (rest := []) (st9 := fun p_37 => [.int p_37.1]) (wd := fun p_37 => p_37.2) C hR hX cv_RL_220 (k11_keep hl (Ok.ofbnd h)) rfl rfl (Nat.le_of_ble_eq_true rfl) (Nat.le_of_ble_eq_true rfl) (Nat.le_of_ble_eq_true rfl) ⟨(by omega), (by omega)⟩ dL_plays_276 rfl (fun E n9 w9 hx => hx.elim) (fun _ => rfl) (fun p_37 h => ?_)
                  have h : Ok _ _ := h
                  change J X K 12 False QQ (k_102 + 1) (6 * (k_102 + 1) + 168772) 2064 (jl K (τ_154.1, p_37.2)) 279 [(0, .ref (K.2.2 + 0)), (1, .ref (K.2.2 + 1)), (2, .ref (K.2.2 + 43)), (3, .ref (K.2.2 + 44)), (4, .ref (K.2.2 + 45)), (5, .ref (K.2.2 + 46)), (6, .ref (K.2.2 + 47)), (7, .ref (K.2.2 + 41)), (8, .ref (K.2.2 + 42)), (10, .int l10_154), (11, .int l11_154)] [.int p_37.1]
                  refine J_aload (i := 6) (p := 6) C dL_plays_279 rfl rfl ?_
                  refine J_iconst (v := 1) C (by decide) dL_plays_281 rfl ?_
                  refine Jl_cV (rest := [.int p_37.1]) (st9 := fun p_38 => [.int p_38.1, .int p_37.1]) (wd := fun p_38 => p_38.2) C hR hX cv_RL_134 (k11_count_n hl (Ok.ofnox h) (fun c hc => hc)) rfl rfl (Nat.le_of_ble_eq_true rfl) (Nat.le_of_ble_eq_true rfl) (Nat.le_of_ble_eq_true rfl) ⟨(by omega), (by omega)⟩ dL_plays_282 rfl (fun E n9 w9 hx => hx.elim) (fun _ => rfl) (fun p_38 h => ?_)
                  have h : Ok _ _ := h
                  change J X K 12 False QQ (k_102 + 1) (6 * (k_102 + 1) + 168772) 2064 (jl K (τ_154.1, p_38.2)) 285 [(0, .ref (K.2.2 + 0)), (1, .ref (K.2.2 + 1)), (2, .ref (K.2.2 + 43)), (3, .ref (K.2.2 + 44)), (4, .ref (K.2.2 + 45)), (5, .ref (K.2.2 + 46)), (6, .ref (K.2.2 + 47)), (7, .ref (K.2.2 + 41)), (8, .ref (K.2.2 + 42)), (10, .int l10_154), (11, .int l11_154)] [.int p_38.1, .int p_37.1]
                  refine J_icmp_ne (t := 340) C dL_plays_285 (by decide) rfl (fun c_39 => ?_) (fun c_39 => ?_)
                  · have h := h.neg c_39
                    refine J.widen (k' := (k_102 + 3)) (sl' := (6 * (k_102 + 3) + 168772)) (by omega) (by omega) ?_
                    refine J.sub [0, 1, 2, 3, 4, 5, 6, 7, 8, 9] rfl ?_
                    exact hj_340 (τ_154.1, p_38.2) l10_154 h
                  · have h := h.pos (Decidable.not_not.mp c_39)
                    refine J_aload (i := 6) (p := 6) C dL_plays_288 rfl rfl ?_
                    refine Jl_cV (rest := []) (st9 := fun p_40 => [.int p_40.1]) (wd := fun p_40 => p_40.2) C hR hX cv_RL_223 (k11_differences hl (Ok.ofbnd h)) rfl rfl (Nat.le_of_ble_eq_true rfl) (Nat.le_of_ble_eq_true rfl) (Nat.le_of_ble_eq_true rfl) ⟨(by omega), (by omega)⟩ dL_plays_290 rfl (fun E n9 w9 hx => hx.elim) (fun _ => rfl) (fun p_40 h => ?_)
                    have h : Ok _ _ := h
                    change J X K 12 False QQ (k_102 + 1) (6 * (k_102 + 1) + 168772) 2064 (jl K (τ_154.1, p_40.2)) 293 [(0, .ref (K.2.2 + 0)), (1, .ref (K.2.2 + 1)), (2, .ref (K.2.2 + 43)), (3, .ref (K.2.2 + 44)), (4, .ref (K.2.2 + 45)), (5, .ref (K.2.2 + 46)), (6, .ref (K.2.2 + 47)), (7, .ref (K.2.2 + 41)), (8, .ref (K.2.2 + 42)), (10, .int l10_154), (11, .int l11_154)] [.int p_40.1]
                    refine J_if_ne (t := 340) C dL_plays_293 (by decide) rfl (fun c_41 => ?_) (fun c_41 => ?_)
                    · have h := h.neg c_41
                      refine J.widen (k' := (k_102 + 3)) (sl' := (6 * (k_102 + 3) + 168772)) (by omega) (by omega) ?_
                      refine J.sub [0, 1, 2, 3, 4, 5, 6, 7, 8, 9] rfl ?_
                      exact hj_340 (τ_154.1, p_40.2) l10_154 h
                    · have h := h.pos (Decidable.not_not.mp c_41)
                      refine J_aload (i := 6) (p := 6) C dL_plays_296 rfl rfl ?_
                      refine Jl_cV (rest := []) (st9 := fun p_42 => [.float p_42.1]) (wd := fun p_42 => p_42.2) C hR hX cv_RL_226 (k11_sameShare hl (Ok.ofbnd h)) rfl rfl (Nat.le_of_ble_eq_true rfl) (Nat.le_of_ble_eq_true rfl) (Nat.le_of_ble_eq_true rfl) ⟨(by omega), (by omega)⟩ dL_plays_298 rfl (fun E n9 w9 hx => hx.elim) (fun _ => rfl) (fun p_42 h => ?_)
                      have h : Ok _ _ := h
                      change J X K 12 False QQ (k_102 + 1) (6 * (k_102 + 1) + 168772) 2064 (jl K (τ_154.1, p_42.2)) 301 [(0, .ref (K.2.2 + 0)), (1, .ref (K.2.2 + 1)), (2, .ref (K.2.2 + 43)), (3, .ref (K.2.2 + 44)), (4, .ref (K.2.2 + 45)), (5, .ref (K.2.2 + 46)), (6, .ref (K.2.2 + 47)), (7, .ref (K.2.2 + 41)), (8, .ref (K.2.2 + 42)), (10, .int l10_154), (11, .int l11_154)] [.float p_42.1]
                      refine J_fconst1 C dL_plays_301 rfl ?_
                      refine J_fcmp C dL_plays_302 rfl ?_
                      refine J_if_ne (t := 340) C dL_plays_303 (by decide) rfl (fun c_43 => ?_) (fun c_43 => ?_)
                      · have h := h.neg c_43
                        refine J.widen (k' := (k_102 + 3)) (sl' := (6 * (k_102 + 3) + 168772)) (by omega) (by omega) ?_
                        refine J.sub [0, 1, 2, 3, 4, 5, 6, 7, 8, 9] rfl ?_
                        exact hj_340 (τ_154.1, p_42.2) l10_154 h
                      · have h := h.pos (Decidable.not_not.mp c_43)
                        refine J_aload (i := 6) (p := 6) C dL_plays_306 rfl rfl ?_
                        refine J_aload_n (i := 0) (p := 0) C dL_plays_308 rfl rfl rfl ?_
                        refine J_aload_n (i := 2) (p := 2) C dL_plays_309 rfl rfl rfl ?_
                        refine Jl_cS (rest := []) (st9 := fun p_44 => [.int p_44.1]) C hR hX cs_RL_193 (kL_acts hl  (Ok.ofbnd h)) rfl rfl (Nat.le_of_ble_eq_true rfl) (Nat.le_of_ble_eq_true rfl) (Nat.le_of_ble_eq_true rfl) ⟨(by omega), (by omega)⟩ dL_plays_310 rfl (fun _ => rfl) (fun p_44 h => ?_)
                        have h : Ok _ _ := h
                        refine J.widen (k' := (k_102 + 3)) (sl' := (6 * (k_102 + 3) + 168772)) (by omega) (by omega) ?_
                        change J X K 12 False QQ (k_102 + 3) (6 * (k_102 + 3) + 168772) 2064 (jl K p_44.2) 313 [(0, .ref (K.2.2 + 0)), (1, .ref (K.2.2 + 1)), (2, .ref (K.2.2 + 43)), (3, .ref (K.2.2 + 44)), (4, .ref (K.2.2 + 45)), (5, .ref (K.2.2 + 46)), (6, .ref (K.2.2 + 47)), (7, .ref (K.2.2 + 41)), (8, .ref (K.2.2 + 42)), (10, .int l10_154), (11, .int l11_154)] [.int p_44.1]
                        refine J_ldc (v := -1000009) C ci_RL_192 dL_plays_313 rfl ?_
                        refine J_icmp_le (t := 340) C dL_plays_315 (by decide) rfl (fun c_45 => ?_) (fun c_45 => ?_)
                        · have h := h.pos c_45
                          refine J.sub [0, 1, 2, 3, 4, 5, 6, 7, 8, 9] rfl ?_
                          exact hj_340 p_44.2 l10_154 h
                        · have h := h.neg c_45
                          refine J_aload (i := 6) (p := 6) C dL_plays_318 rfl rfl ?_
                          refine Jl_cV (rest := []) (st9 := fun p_46 => [.int p_46.1]) (wd := fun p_46 => p_46.2) C hR hX cv_RL_223 (k11_differences hl (Ok.ofbnd h)) rfl rfl (Nat.le_of_ble_eq_true rfl) (Nat.le_of_ble_eq_true rfl) (Nat.le_of_ble_eq_true rfl) ⟨(by omega), (by omega)⟩ dL_plays_320 rfl (fun E n9 w9 hx => hx.elim) (fun _ => rfl) (fun p_46 h => ?_)
                          have h : Ok _ _ := h
                          change J X K 12 False QQ (k_102 + 3) (6 * (k_102 + 3) + 168772) 2064 (jl K (p_44.2.1, p_46.2)) 323 [(0, .ref (K.2.2 + 0)), (1, .ref (K.2.2 + 1)), (2, .ref (K.2.2 + 43)), (3, .ref (K.2.2 + 44)), (4, .ref (K.2.2 + 45)), (5, .ref (K.2.2 + 46)), (6, .ref (K.2.2 + 47)), (7, .ref (K.2.2 + 41)), (8, .ref (K.2.2 + 42)), (10, .int l10_154), (11, .int l11_154)] [.int p_46.1]
                          refine J_if_lt (t := 340) C dL_plays_323 (by decide) rfl (fun c_47 => ?_) (fun c_47 => ?_)
                          · have h := h.pos c_47
                            refine J.sub [0, 1, 2, 3, 4, 5, 6, 7, 8, 9] rfl ?_
                            exact hj_340 (p_44.2.1, p_46.2) l10_154 h
                          · have h := h.neg c_47
                            refine J_aload (i := 6) (p := 6) C dL_plays_326 rfl rfl ?_
                            refine Jl_cV (rest := []) (st9 := fun p_48 => [.float p_48.1]) (wd := fun p_48 => p_48.2) C hR hX cv_RL_226 (k11_sameShare hl (Ok.ofbnd h)) rfl rfl (Nat.le_of_ble_eq_true rfl) (Nat.le_of_ble_eq_true rfl) (Nat.le_of_ble_eq_true rfl) ⟨(by omega), (by omega)⟩ dL_plays_328 rfl (fun E n9 w9 hx => hx.elim) (fun _ => rfl) (fun p_48 h => ?_)
                            have h : Ok _ _ := h
                            change J X K 12 False QQ (k_102 + 3) (6 * (k_102 + 3) + 168772) 2064 (jl K (p_44.2.1, p_48.2)) 331 [(0, .ref (K.2.2 + 0)), (1, .ref (K.2.2 + 1)), (2, .ref (K.2.2 + 43)), (3, .ref (K.2.2 + 44)), (4, .ref (K.2.2 + 45)), (5, .ref (K.2.2 + 46)), (6, .ref (K.2.2 + 47)), (7, .ref (K.2.2 + 41)), (8, .ref (K.2.2 + 42)), (10, .int l10_154), (11, .int l11_154)] [.float p_48.1]
                            refine J_fconst1 C dL_plays_331 rfl ?_
                            refine J_fcmp C dL_plays_332 rfl ?_
                            refine J_if_gt (t := 340) C dL_plays_333 (by decide) rfl (fun c_49 => ?_) (fun c_49 => ?_)
                            · have h := h.pos c_49
                              refine J.sub [0, 1, 2, 3, 4, 5, 6, 7, 8, 9] rfl ?_
                              exact hj_340 (p_44.2.1, p_48.2) l10_154 h
                            · have h := h.neg c_49
                              refine J_iconst (v := 1) C (by decide) dL_plays_336 rfl ?_
                              refine J_goto (t := 341) C dL_plays_337 (by decide) ?_
                              refine J.sub [0, 1, 2, 3, 4, 5, 6, 7, 8, 9] rfl ?_
                              exact hj_341 (p_44.2.1, p_48.2) l10_154 (1 : Int32) h
              · have h := h.neg c_30
                refine J_aload (i := 6) (p := 6) C dL_plays_254 rfl rfl ?_
                refine J_aload_n (i := 0) (p := 0) C dL_plays_256 rfl rfl rfl ?_
                refine J_aload (i := 4) (p := 4) C dL_plays_257 rfl rfl ?_
                refine Jl_cS (rest := []) (st9 := fun p_50 => [.int p_50.1]) C hR hX cs_RL_196 (kL_moves hl  (Ok.ofbnd h)) rfl rfl (Nat.le_of_ble_eq_true rfl) (Nat.le_of_ble_eq_true rfl) (Nat.le_of_ble_eq_true rfl) ⟨(by omega), (by omega)⟩ dL_plays_259 rfl (fun _ => rfl) (fun p_50 h => ?_)
                have h : Ok _ _ := h
                refine J.widen (k' := (k_102 + 2)) (sl' := (6 * (k_102 + 2) + 168772)) (by omega) (by omega) ?_
                change J X K 12 False QQ (k_102 + 2) (6 * (k_102 + 2) + 168772) 2064 (jl K p_50.2) 262 [(0, .ref (K.2.2 + 0)), (1, .ref (K.2.2 + 1)), (2, .ref (K.2.2 + 43)), (3, .ref (K.2.2 + 44)), (4, .ref (K.2.2 + 45)), (5, .ref (K.2.2 + 46)), (6, .ref (K.2.2 + 47)), (7, .ref (K.2.2 + 41)), (8, .ref (K.2.2 + 42)), (10, .int l10_154), (11, .int l11_154)] [.int p_50.1]
                obtain ⟨x9_7, e_x9_7, h⟩ := Ok.nm h
                refine J_istoreE (i := 9) (lv' := [(9, .int x9_7), (0, .ref (K.2.2 + 0)), (1, .ref (K.2.2 + 1)), (2, .ref (K.2.2 + 43)), (3, .ref (K.2.2 + 44)), (4, .ref (K.2.2 + 45)), (5, .ref (K.2.2 + 46)), (6, .ref (K.2.2 + 47)), (7, .ref (K.2.2 + 41)), (8, .ref (K.2.2 + 42)), (10, .int l10_154), (11, .int l11_154)]) C e_x9_7 dL_plays_262 (Nat.le_of_ble_eq_true rfl) rfl rfl ?_
                refine J_goto (t := 387) C dL_plays_264 (by decide) ?_
                refine J.widen (k' := (k_102 + 146)) (sl' := (6 * (k_102 + 146) + 168772)) (by omega) (by omega) ?_
                refine J.sub [1, 2, 3, 4, 5, 6, 7, 8, 9, 0, 10] rfl ?_
                exact hj_387 p_50.2 x9_7 l10_154 h
            · have h := h.pos (Decidable.not_not.mp c_29)
              refine J_aload (i := 6) (p := 6) C dL_plays_232 rfl rfl ?_
              refine J_aload_n (i := 0) (p := 0) C dL_plays_234 rfl rfl rfl ?_
              refine J_aload_n (i := 1) (p := 1) C dL_plays_235 rfl rfl rfl ?_
              refine J_aload (i := 8) (p := 8) C dL_plays_236 rfl rfl ?_
              refine J_aload_n (i := 2) (p := 2) C dL_plays_238 rfl rfl rfl ?_
              refine Jl_cS (rest := []) (st9 := fun p_51 => [.int p_51.1]) C hR hX cs_RL_216 (kL_branches hl  (Ok.ofbnd h)) rfl rfl (Nat.le_of_ble_eq_true rfl) (Nat.le_of_ble_eq_true rfl) (Nat.le_of_ble_eq_true rfl) ⟨(by omega), (by omega)⟩ dL_plays_239 rfl (fun _ => rfl) (fun p_51 h => ?_)
              have h : Ok _ _ := h
              refine J.widen (k' := (k_102 + 13)) (sl' := (6 * (k_102 + 13) + 168772)) (by omega) (by omega) ?_
              change J X K 12 False QQ (k_102 + 13) (6 * (k_102 + 13) + 168772) 2064 (jl K p_51.2) 242 [(0, .ref (K.2.2 + 0)), (1, .ref (K.2.2 + 1)), (2, .ref (K.2.2 + 43)), (3, .ref (K.2.2 + 44)), (4, .ref (K.2.2 + 45)), (5, .ref (K.2.2 + 46)), (6, .ref (K.2.2 + 47)), (7, .ref (K.2.2 + 41)), (8, .ref (K.2.2 + 42)), (10, .int l10_154), (11, .int l11_154)] [.int p_51.1]
              obtain ⟨x9_8, e_x9_8, h⟩ := Ok.nm h
              refine J_istoreE (i := 9) (lv' := [(9, .int x9_8), (0, .ref (K.2.2 + 0)), (1, .ref (K.2.2 + 1)), (2, .ref (K.2.2 + 43)), (3, .ref (K.2.2 + 44)), (4, .ref (K.2.2 + 45)), (5, .ref (K.2.2 + 46)), (6, .ref (K.2.2 + 47)), (7, .ref (K.2.2 + 41)), (8, .ref (K.2.2 + 42)), (10, .int l10_154), (11, .int l11_154)]) C e_x9_8 dL_plays_242 (Nat.le_of_ble_eq_true rfl) rfl rfl ?_
              refine J_goto (t := 387) C dL_plays_244 (by decide) ?_
              refine J.widen (k' := (k_102 + 146)) (sl' := (6 * (k_102 + 146) + 168772)) (by omega) (by omega) ?_
              refine J.sub [1, 2, 3, 4, 5, 6, 7, 8, 9, 0, 10] rfl ?_
              exact hj_387 p_51.2 x9_8 l10_154 h
          · have h := h.neg c_28
            refine J_aload (i := 6) (p := 6) C dL_plays_209 rfl rfl ?_
            refine J_aload_n (i := 0) (p := 0) C dL_plays_211 rfl rfl rfl ?_
            refine J_aload_n (i := 1) (p := 1) C dL_plays_212 rfl rfl rfl ?_
            refine J_aload (i := 8) (p := 8) C dL_plays_213 rfl rfl ?_
            refine J_aload_n (i := 2) (p := 2) C dL_plays_215 rfl rfl rfl ?_
            refine J_aload (i := 4) (p := 4) C dL_plays_216 rfl rfl ?_
            refine Jl_cS (rest := []) (st9 := fun p_52 => [.int p_52.1]) C hR hX cs_RL_212 (kL_goesBack hl  (Ok.ofbnd h)) rfl rfl (Nat.le_of_ble_eq_true rfl) (Nat.le_of_ble_eq_true rfl) (Nat.le_of_ble_eq_true rfl) ⟨(by omega), (by omega)⟩ dL_plays_218 rfl (fun _ => rfl) (fun p_52 h => ?_)
            have h : Ok _ _ := h
            refine J.widen (k' := (k_102 + 146)) (sl' := (6 * (k_102 + 146) + 168772)) (by omega) (by omega) ?_
            change J X K 12 False QQ (k_102 + 146) (6 * (k_102 + 146) + 168772) 2064 (jl K p_52.2) 221 [(0, .ref (K.2.2 + 0)), (1, .ref (K.2.2 + 1)), (2, .ref (K.2.2 + 43)), (3, .ref (K.2.2 + 44)), (4, .ref (K.2.2 + 45)), (5, .ref (K.2.2 + 46)), (6, .ref (K.2.2 + 47)), (7, .ref (K.2.2 + 41)), (8, .ref (K.2.2 + 42)), (10, .int l10_154), (11, .int l11_154)] [.int p_52.1]
            obtain ⟨x9_9, e_x9_9, h⟩ := Ok.nm h
            refine J_istoreE (i := 9) (lv' := [(9, .int x9_9), (0, .ref (K.2.2 + 0)), (1, .ref (K.2.2 + 1)), (2, .ref (K.2.2 + 43)), (3, .ref (K.2.2 + 44)), (4, .ref (K.2.2 + 45)), (5, .ref (K.2.2 + 46)), (6, .ref (K.2.2 + 47)), (7, .ref (K.2.2 + 41)), (8, .ref (K.2.2 + 42)), (10, .int l10_154), (11, .int l11_154)]) C e_x9_9 dL_plays_221 (Nat.le_of_ble_eq_true rfl) rfl rfl ?_
            refine J_goto (t := 387) C dL_plays_223 (by decide) ?_
            refine J.sub [1, 2, 3, 4, 5, 6, 7, 8, 9, 0, 10] rfl ?_
            exact hj_387 p_52.2 x9_9 l10_154 h
        · have h := h.pos (Decidable.not_not.mp c_27)
          refine J_aload (i := 6) (p := 6) C dL_plays_184 rfl rfl ?_
          refine J_aload_n (i := 0) (p := 0) C dL_plays_186 rfl rfl rfl ?_
          refine J_aload (i := 7) (p := 7) C dL_plays_187 rfl rfl ?_
          refine J_aload (i := 8) (p := 8) C dL_plays_189 rfl rfl ?_
          refine J_aload_n (i := 2) (p := 2) C dL_plays_191 rfl rfl rfl ?_
          refine J_aload_n (i := 3) (p := 3) C dL_plays_192 rfl rfl rfl ?_
          refine J_aload (i := 5) (p := 5) C dL_plays_193 rfl rfl ?_
          refine Jl_cS (rest := []) (st9 := fun p_53 => [.int p_53.1]) C hR hX cs_RL_208 (kL_replacesAll hl  (Ok.ofbnd h)) rfl rfl (Nat.le_of_ble_eq_true rfl) (Nat.le_of_ble_eq_true rfl) (Nat.le_of_ble_eq_true rfl) ⟨(by omega), (by omega)⟩ dL_plays_195 rfl (fun _ => rfl) (fun p_53 h => ?_)
          have h : Ok _ _ := h
          refine J.widen (k' := (k_102 + 5)) (sl' := (6 * (k_102 + 5) + 168772)) (by omega) (by omega) ?_
          change J X K 12 False QQ (k_102 + 5) (6 * (k_102 + 5) + 168772) 2064 (jl K p_53.2) 198 [(0, .ref (K.2.2 + 0)), (1, .ref (K.2.2 + 1)), (2, .ref (K.2.2 + 43)), (3, .ref (K.2.2 + 44)), (4, .ref (K.2.2 + 45)), (5, .ref (K.2.2 + 46)), (6, .ref (K.2.2 + 47)), (7, .ref (K.2.2 + 41)), (8, .ref (K.2.2 + 42)), (10, .int l10_154), (11, .int l11_154)] [.int p_53.1]
          obtain ⟨x9_10, e_x9_10, h⟩ := Ok.nm h
          refine J_istoreE (i := 9) (lv' := [(9, .int x9_10), (0, .ref (K.2.2 + 0)), (1, .ref (K.2.2 + 1)), (2, .ref (K.2.2 + 43)), (3, .ref (K.2.2 + 44)), (4, .ref (K.2.2 + 45)), (5, .ref (K.2.2 + 46)), (6, .ref (K.2.2 + 47)), (7, .ref (K.2.2 + 41)), (8, .ref (K.2.2 + 42)), (10, .int l10_154), (11, .int l11_154)]) C e_x9_10 dL_plays_198 (Nat.le_of_ble_eq_true rfl) rfl rfl ?_
          refine J_goto (t := 387) C dL_plays_200 (by decide) ?_
          refine J.widen (k' := (k_102 + 146)) (sl' := (6 * (k_102 + 146) + 168772)) (by omega) (by omega) ?_
          refine J.sub [1, 2, 3, 4, 5, 6, 7, 8, 9, 0, 10] rfl ?_
          exact hj_387 p_53.2 x9_10 l10_154 h
      · have h := h.neg c_26
        refine J_aload (i := 6) (p := 6) C dL_plays_160 rfl rfl ?_
        refine J_aload_n (i := 0) (p := 0) C dL_plays_162 rfl rfl rfl ?_
        refine J_aload (i := 7) (p := 7) C dL_plays_163 rfl rfl ?_
        refine J_aload (i := 8) (p := 8) C dL_plays_165 rfl rfl ?_
        refine J_aload_n (i := 2) (p := 2) C dL_plays_167 rfl rfl rfl ?_
        refine J_aload (i := 4) (p := 4) C dL_plays_168 rfl rfl ?_
        refine Jl_cS (rest := []) (st9 := fun p_54 => [.int p_54.1]) C hR hX cs_RL_204 (kL_replaces hl  (Ok.ofbnd h)) rfl rfl (Nat.le_of_ble_eq_true rfl) (Nat.le_of_ble_eq_true rfl) (Nat.le_of_ble_eq_true rfl) ⟨(by omega), (by omega)⟩ dL_plays_170 rfl (fun _ => rfl) (fun p_54 h => ?_)
        have h : Ok _ _ := h
        refine J.widen (k' := (k_102 + 2)) (sl' := (6 * (k_102 + 2) + 168772)) (by omega) (by omega) ?_
        change J X K 12 False QQ (k_102 + 2) (6 * (k_102 + 2) + 168772) 2064 (jl K p_54.2) 173 [(0, .ref (K.2.2 + 0)), (1, .ref (K.2.2 + 1)), (2, .ref (K.2.2 + 43)), (3, .ref (K.2.2 + 44)), (4, .ref (K.2.2 + 45)), (5, .ref (K.2.2 + 46)), (6, .ref (K.2.2 + 47)), (7, .ref (K.2.2 + 41)), (8, .ref (K.2.2 + 42)), (10, .int l10_154), (11, .int l11_154)] [.int p_54.1]
        obtain ⟨x9_11, e_x9_11, h⟩ := Ok.nm h
        refine J_istoreE (i := 9) (lv' := [(9, .int x9_11), (0, .ref (K.2.2 + 0)), (1, .ref (K.2.2 + 1)), (2, .ref (K.2.2 + 43)), (3, .ref (K.2.2 + 44)), (4, .ref (K.2.2 + 45)), (5, .ref (K.2.2 + 46)), (6, .ref (K.2.2 + 47)), (7, .ref (K.2.2 + 41)), (8, .ref (K.2.2 + 42)), (10, .int l10_154), (11, .int l11_154)]) C e_x9_11 dL_plays_173 (Nat.le_of_ble_eq_true rfl) rfl rfl ?_
        refine J_goto (t := 387) C dL_plays_175 (by decide) ?_
        refine J.widen (k' := (k_102 + 146)) (sl' := (6 * (k_102 + 146) + 168772)) (by omega) (by omega) ?_
        refine J.sub [1, 2, 3, 4, 5, 6, 7, 8, 9, 0, 10] rfl ?_
        exact hj_387 p_54.2 x9_11 l10_154 h
    unfold fL_plays_b102 at h
    refine J_iload (i := 10) (p := 10) C dL_plays_102 rfl rfl ?_
    refine J_bipush (v := 16) C (by decide) dL_plays_104 rfl ?_
    refine J_icmp_ge (t := 416) C dL_plays_106 (by decide) rfl (fun c_55 => ?_) (fun c_55 => ?_)
    · have h := h.pos c_55
      have h := hE_102 (Sum.inl (τ_102, l9_102)) h.osome
      try dsimp only at h
      refine J.widen (k' := 4502) (sl' := 195784) (by omega) (by omega) ?_
      refine J.sub [6, 9] rfl ?_
      exact hj_416 τ_102 l9_102 h
    · have h := h.neg c_55
      refine J_iload (i := 9) (p := 9) C dL_plays_109 rfl rfl ?_
      refine J_if_eq (t := 416) C dL_plays_111 (by decide) rfl (fun c_56 => ?_) (fun c_56 => ?_)
      · have h := h.pos c_56
        have h := hE_102 (Sum.inl (τ_102, l9_102)) h.osome
        try dsimp only at h
        refine J.widen (k' := 4502) (sl' := 195784) (by omega) (by omega) ?_
        refine J.sub [6, 9] rfl ?_
        exact hj_416 τ_102 l9_102 h
      · have h := h.neg c_56
        refine J_aload_n (i := 0) (p := 0) C dL_plays_114 rfl rfl rfl ?_
        refine Jl_cS (rest := []) (st9 := fun p_57 => [.int p_57.1]) C hR hX cs_RL_8 (kL_next hl  (Ok.ofbnd h)) rfl rfl (Nat.le_of_ble_eq_true rfl) (Nat.le_of_ble_eq_true rfl) (Nat.le_of_ble_eq_true rfl) ⟨(by omega), (by omega)⟩ dL_plays_115 rfl (fun _ => rfl) (fun p_57 h => ?_)
        have h : Ok _ _ := h
        change J X K 12 False QQ k_102 (6 * k_102 + 168772) 2064 (jl K p_57.2) 118 [(0, .ref (K.2.2 + 0)), (1, .ref (K.2.2 + 1)), (2, .ref (K.2.2 + 43)), (3, .ref (K.2.2 + 44)), (4, .ref (K.2.2 + 45)), (5, .ref (K.2.2 + 46)), (6, .ref (K.2.2 + 47)), (7, .ref (K.2.2 + 41)), (8, .ref (K.2.2 + 42)), (9, .int l9_102), (10, .int l10_102)] [.int p_57.1]
        refine J_bipush (v := 10) C (by decide) dL_plays_118 rfl ?_
        refine J_irem C (by decide) dL_plays_120 rfl ?_
        obtain ⟨x11_12, e_x11_12, h⟩ := Ok.nm h
        refine J_istoreE (i := 11) (lv' := [(11, .int x11_12), (0, .ref (K.2.2 + 0)), (1, .ref (K.2.2 + 1)), (2, .ref (K.2.2 + 43)), (3, .ref (K.2.2 + 44)), (4, .ref (K.2.2 + 45)), (5, .ref (K.2.2 + 46)), (6, .ref (K.2.2 + 47)), (7, .ref (K.2.2 + 41)), (8, .ref (K.2.2 + 42)), (9, .int l9_102), (10, .int l10_102)]) C e_x11_12 dL_plays_121 (Nat.le_of_ble_eq_true rfl) rfl rfl ?_
        refine J_aload (i := 6) (p := 7) C dL_plays_123 rfl rfl ?_
        refine J_iconst (v := 0) C (by decide) dL_plays_125 rfl ?_
        refine Jl_cV (rest := []) (st9 := fun p_58 => [.int p_58.1]) (wd := fun p_58 => p_58.2) C hR hX cv_RL_134 (k11_count_n hl (Ok.ofnox h) (fun c hc => hc)) rfl rfl (Nat.le_of_ble_eq_true rfl) (Nat.le_of_ble_eq_true rfl) (Nat.le_of_ble_eq_true rfl) ⟨(by omega), (by omega)⟩ dL_plays_126 rfl (fun E n9 w9 hx => hx.elim) (fun _ => rfl) (fun p_58 h => ?_)
        have h : Ok _ _ := h
        change J X K 12 False QQ k_102 (6 * k_102 + 168772) 2064 (jl K (p_57.2.1, p_58.2)) 129 [(11, .int x11_12), (0, .ref (K.2.2 + 0)), (1, .ref (K.2.2 + 1)), (2, .ref (K.2.2 + 43)), (3, .ref (K.2.2 + 44)), (4, .ref (K.2.2 + 45)), (5, .ref (K.2.2 + 46)), (6, .ref (K.2.2 + 47)), (7, .ref (K.2.2 + 41)), (8, .ref (K.2.2 + 42)), (9, .int l9_102), (10, .int l10_102)] [.int p_58.1]
        refine J_sipush (v := 350) C (by decide) dL_plays_129 rfl ?_
        refine J_icmp_le (t := 154) C dL_plays_132 (by decide) rfl (fun c_59 => ?_) (fun c_59 => ?_)
        · have h := h.pos c_59
          refine J.widen (k' := (k_102 + 1)) (sl' := (6 * (k_102 + 1) + 168772)) (by omega) (by omega) ?_
          refine J.sub [1, 2, 3, 4, 5, 6, 7, 8, 9, 11, 0] rfl ?_
          exact hj_154 (p_57.2.1, p_58.2) l10_102 x11_12 h
        · have h := h.neg c_59
          refine J_aload (i := 6) (p := 7) C dL_plays_135 rfl rfl ?_
          refine J_iconst (v := 3) C (by decide) dL_plays_137 rfl ?_
          refine J_bipush (v := 100) C (by decide) dL_plays_138 rfl ?_
          refine J_sipush (v := 300) C (by decide) dL_plays_140 rfl ?_
          refine J_iconst (v := 0) C (by decide) dL_plays_143 rfl ?_
          refine Jl_cH (rest := []) (st9 := fun p_60 => [.int p_60.1]) C hR hX ch_RL_174 (kL_done hl  (Ok.ofbnd h)) rfl rfl (Nat.le_of_ble_eq_true rfl) (Nat.le_of_ble_eq_true rfl) (Nat.le_of_ble_eq_true rfl) ⟨(by omega), (by omega)⟩ dL_plays_144 rfl (fun _ => rfl) (fun p_60 h => ?_)
          have h : Ok _ _ := h
          refine J.widen (k' := (k_102 + 1)) (sl' := (6 * (k_102 + 1) + 168772)) (by omega) (by omega) ?_
          change J X K 12 False QQ (k_102 + 1) (6 * (k_102 + 1) + 168772) 2064 (jl K p_60.2) 147 [(11, .int x11_12), (0, .ref (K.2.2 + 0)), (1, .ref (K.2.2 + 1)), (2, .ref (K.2.2 + 43)), (3, .ref (K.2.2 + 44)), (4, .ref (K.2.2 + 45)), (5, .ref (K.2.2 + 46)), (6, .ref (K.2.2 + 47)), (7, .ref (K.2.2 + 41)), (8, .ref (K.2.2 + 42)), (9, .int l9_102), (10, .int l10_102)] [.int p_60.1]
          refine J_ldc (v := -1000009) C ci_RL_192 dL_plays_147 rfl ?_
          refine J_icmp_ne (t := 154) C dL_plays_149 (by decide) rfl (fun c_61 => ?_) (fun c_61 => ?_)
          · have h := h.neg c_61
            refine J.sub [1, 2, 3, 4, 5, 6, 7, 8, 9, 11, 0] rfl ?_
            exact hj_154 p_60.2 l10_102 x11_12 h
          · have h := h.pos (Decidable.not_not.mp c_61)
            have h := hE_102 (Sum.inr p_60.2) h.osome
            try dsimp only at h
            refine J.widen (k' := 4502) (sl' := 195784) (by omega) (by omega) ?_
            refine J_iconst (v := 0) C (by decide) dL_plays_152 rfl ?_
            rw [← hQQ]
            exact J_zret C hret rfl (Nat.le_of_ble_eq_true rfl) (Nat.le_of_ble_eq_true rfl) ⟨_, h.osome, rfl, rfl, rfl⟩ dL_plays_153
  have hj_97 : (∀ (τ_97 : LawS) (s0_97 : Int32), Ok (fL_plays_j97 τ_97 s0_97) Qf → J X K 12 False QQ 2020 180892 2064 (jl K τ_97) 97 [(0, .ref (K.2.2 + 0)), (1, .ref (K.2.2 + 1)), (2, .ref (K.2.2 + 43)), (3, .ref (K.2.2 + 44)), (4, .ref (K.2.2 + 45)), (5, .ref (K.2.2 + 46)), (6, .ref (K.2.2 + 47)), (7, .ref (K.2.2 + 41)), (8, .ref (K.2.2 + 42))] [.int s0_97]) := by
    intro τ_97 s0_97 h
    unfold fL_plays_j97 at h
    obtain ⟨x9_13, e_x9_13, h⟩ := Ok.nm h
    refine J_istoreE (i := 9) (lv' := [(9, .int x9_13), (0, .ref (K.2.2 + 0)), (1, .ref (K.2.2 + 1)), (2, .ref (K.2.2 + 43)), (3, .ref (K.2.2 + 44)), (4, .ref (K.2.2 + 45)), (5, .ref (K.2.2 + 46)), (6, .ref (K.2.2 + 47)), (7, .ref (K.2.2 + 41)), (8, .ref (K.2.2 + 42))]) C e_x9_13 dL_plays_97 (Nat.le_of_ble_eq_true rfl) rfl rfl ?_
    refine J_iconst (v := 0) C (by decide) dL_plays_99 rfl ?_
    obtain ⟨x10_14, e_x10_14, h⟩ := Ok.nm h
    refine J_istoreE (i := 10) (lv' := [(10, .int x10_14), (9, .int x9_13), (0, .ref (K.2.2 + 0)), (1, .ref (K.2.2 + 1)), (2, .ref (K.2.2 + 43)), (3, .ref (K.2.2 + 44)), (4, .ref (K.2.2 + 45)), (5, .ref (K.2.2 + 46)), (6, .ref (K.2.2 + 47)), (7, .ref (K.2.2 + 41)), (8, .ref (K.2.2 + 42))]) C e_x10_14 dL_plays_100 (Nat.le_of_ble_eq_true rfl) rfl rfl ?_
    refine J.sub [2, 3, 4, 5, 6, 7, 8, 9, 10, 1, 0] rfl ?_
    exact hj_102 τ_97 x9_13 x10_14 h
  have hj_96 : (∀ (τ_96 : LawS), Ok (fL_plays_j96 τ_96) Qf → J X K 12 False QQ 2020 180892 2064 (jl K τ_96) 96 [(0, .ref (K.2.2 + 0)), (1, .ref (K.2.2 + 1)), (2, .ref (K.2.2 + 43)), (3, .ref (K.2.2 + 44)), (4, .ref (K.2.2 + 45)), (5, .ref (K.2.2 + 46)), (6, .ref (K.2.2 + 47)), (7, .ref (K.2.2 + 41)), (8, .ref (K.2.2 + 42))] []) := by
    intro τ_96 h
    unfold fL_plays_j96 at h
    refine J_iconst (v := 0) C (by decide) dL_plays_96 rfl ?_
    exact hj_97 τ_96 (0 : Int32) h
  unfold fL_plays at h
  refine J_aload_n (i := 1) (p := 1) C dL_plays_9 rfl rfl rfl ?_
  refine J_bipush (v := 39) C (by decide) dL_plays_10 rfl ?_
  refine Jl_aald (r2 := 41) C rfl (by decide) dL_plays_12 rfl ?_
  refine J_astore (i := 7) (lv' := [(7, .ref (K.2.2 + 41)), (0, .ref (K.2.2 + 0)), (1, .ref (K.2.2 + 1)), (2, .ref (K.2.2 + 43)), (3, .ref (K.2.2 + 44)), (4, .ref (K.2.2 + 45)), (5, .ref (K.2.2 + 46)), (6, .ref (K.2.2 + 47))]) C dL_plays_13 (Nat.le_of_ble_eq_true rfl) rfl rfl ?_
  refine J_aload_n (i := 1) (p := 2) C dL_plays_15 rfl rfl rfl ?_
  refine J_bipush (v := 40) C (by decide) dL_plays_16 rfl ?_
  refine Jl_aald (r2 := 42) C rfl (by decide) dL_plays_18 rfl ?_
  refine J_astore (i := 8) (lv' := [(8, .ref (K.2.2 + 42)), (7, .ref (K.2.2 + 41)), (0, .ref (K.2.2 + 0)), (1, .ref (K.2.2 + 1)), (2, .ref (K.2.2 + 43)), (3, .ref (K.2.2 + 44)), (4, .ref (K.2.2 + 45)), (5, .ref (K.2.2 + 46)), (6, .ref (K.2.2 + 47))]) C dL_plays_19 (Nat.le_of_ble_eq_true rfl) rfl rfl ?_
  refine J_aload (i := 6) (p := 8) C dL_plays_21 rfl rfl ?_
  refine J_iconst (v := 0) C (by decide) dL_plays_23 rfl ?_
  refine Jl_cV (rest := []) (st9 := fun p_62 => [.int p_62.1]) (wd := fun p_62 => p_62.2) C hR hX cv_RL_134 (k11_count_n hl (Ok.ofnox h) (fun c hc => hc)) rfl rfl (Nat.le_of_ble_eq_true rfl) (Nat.le_of_ble_eq_true rfl) (Nat.le_of_ble_eq_true rfl) ⟨(Nat.le_of_ble_eq_true rfl), (Nat.le_of_ble_eq_true rfl)⟩ dL_plays_24 rfl (fun E n9 w9 hx => hx.elim) (fun _ => rfl) (fun p_62 h => ?_)
  have h : Ok _ _ := h
  change J X K 12 False QQ 2017 180874 2064 (jl K (τ.1, p_62.2)) 27 [(8, .ref (K.2.2 + 42)), (7, .ref (K.2.2 + 41)), (0, .ref (K.2.2 + 0)), (1, .ref (K.2.2 + 1)), (2, .ref (K.2.2 + 43)), (3, .ref (K.2.2 + 44)), (4, .ref (K.2.2 + 45)), (5, .ref (K.2.2 + 46)), (6, .ref (K.2.2 + 47))] [.int p_62.1]
  refine J_if_ne (t := 96) C dL_plays_27 (by decide) rfl (fun c_63 => ?_) (fun c_63 => ?_)
  · have h := h.neg c_63
    refine J.widen (k' := 2020) (sl' := 180892) (Nat.le_of_ble_eq_true rfl) (Nat.le_of_ble_eq_true rfl) ?_
    refine J.sub [2, 3, 4, 5, 6, 7, 8, 1, 0] rfl ?_
    exact hj_96 (τ.1, p_62.2) h
  · have h := h.pos (Decidable.not_not.mp c_63)
    refine J_aload (i := 6) (p := 8) C dL_plays_30 rfl rfl ?_
    refine J_iconst (v := 1) C (by decide) dL_plays_32 rfl ?_
    refine Jl_cV (rest := []) (st9 := fun p_64 => [.int p_64.1]) (wd := fun p_64 => p_64.2) C hR hX cv_RL_134 (k11_count_n hl (Ok.ofnox h) (fun c hc => hc)) rfl rfl (Nat.le_of_ble_eq_true rfl) (Nat.le_of_ble_eq_true rfl) (Nat.le_of_ble_eq_true rfl) ⟨(Nat.le_of_ble_eq_true rfl), (Nat.le_of_ble_eq_true rfl)⟩ dL_plays_33 rfl (fun E n9 w9 hx => hx.elim) (fun _ => rfl) (fun p_64 h => ?_)
    have h : Ok _ _ := h
    change J X K 12 False QQ 2017 180874 2064 (jl K (τ.1, p_64.2)) 36 [(8, .ref (K.2.2 + 42)), (7, .ref (K.2.2 + 41)), (0, .ref (K.2.2 + 0)), (1, .ref (K.2.2 + 1)), (2, .ref (K.2.2 + 43)), (3, .ref (K.2.2 + 44)), (4, .ref (K.2.2 + 45)), (5, .ref (K.2.2 + 46)), (6, .ref (K.2.2 + 47))] [.int p_64.1]
    refine J_iconst (v := 1) C (by decide) dL_plays_36 rfl ?_
    refine J_icmp_ne (t := 96) C dL_plays_37 (by decide) rfl (fun c_65 => ?_) (fun c_65 => ?_)
    · have h := h.neg c_65
      refine J.widen (k' := 2020) (sl' := 180892) (Nat.le_of_ble_eq_true rfl) (Nat.le_of_ble_eq_true rfl) ?_
      refine J.sub [2, 3, 4, 5, 6, 7, 8, 1, 0] rfl ?_
      exact hj_96 (τ.1, p_64.2) h
    · have h := h.pos (Decidable.not_not.mp c_65)
      refine J_aload (i := 6) (p := 8) C dL_plays_40 rfl rfl ?_
      refine J_iconst (v := 0) C (by decide) dL_plays_42 rfl ?_
      refine Jl_cV (rest := []) (st9 := fun p_66 => [.int p_66.1]) (wd := fun p_66 => p_66.2) C hR hX cv_RL_141 (k11_cursorAt_n hl (Ok.ofnox h) (fun c hc => hc)) rfl rfl (Nat.le_of_ble_eq_true rfl) (Nat.le_of_ble_eq_true rfl) (Nat.le_of_ble_eq_true rfl) ⟨(Nat.le_of_ble_eq_true rfl), (Nat.le_of_ble_eq_true rfl)⟩ dL_plays_43 rfl (fun E n9 w9 hx => hx.elim) (fun _ => rfl) (fun p_66 h => ?_)
      have h : Ok _ _ := h
      change J X K 12 False QQ 2017 180874 2064 (jl K (τ.1, p_66.2)) 46 [(8, .ref (K.2.2 + 42)), (7, .ref (K.2.2 + 41)), (0, .ref (K.2.2 + 0)), (1, .ref (K.2.2 + 1)), (2, .ref (K.2.2 + 43)), (3, .ref (K.2.2 + 44)), (4, .ref (K.2.2 + 45)), (5, .ref (K.2.2 + 46)), (6, .ref (K.2.2 + 47))] [.int p_66.1]
      refine J_if_ne (t := 96) C dL_plays_46 (by decide) rfl (fun c_67 => ?_) (fun c_67 => ?_)
      · have h := h.neg c_67
        refine J.widen (k' := 2020) (sl' := 180892) (Nat.le_of_ble_eq_true rfl) (Nat.le_of_ble_eq_true rfl) ?_
        refine J.sub [2, 3, 4, 5, 6, 7, 8, 1, 0] rfl ?_
        exact hj_96 (τ.1, p_66.2) h
      · have h := h.pos (Decidable.not_not.mp c_67)
        refine J_aload (i := 6) (p := 8) C dL_plays_49 rfl rfl ?_
        refine J_bipush (v := 9) C (by decide) dL_plays_51 rfl ?_
        refine J_iconst (v := 0) C (by decide) dL_plays_53 rfl ?_
        refine J_iconst (v := 0) C (by decide) dL_plays_54 rfl ?_
        refine J_iconst (v := 0) C (by decide) dL_plays_55 rfl ?_
        refine Jl_cH (rest := []) (st9 := fun p_68 => [.int p_68.1]) C hR hX ch_RL_174 (kL_done hl  (Ok.ofbnd h)) rfl rfl (Nat.le_of_ble_eq_true rfl) (Nat.le_of_ble_eq_true rfl) (Nat.le_of_ble_eq_true rfl) ⟨(Nat.le_of_ble_eq_true rfl), (Nat.le_of_ble_eq_true rfl)⟩ dL_plays_56 rfl (fun _ => rfl) (fun p_68 h => ?_)
        have h : Ok _ _ := h
        change J X K 12 False QQ 2018 180880 2064 (jl K p_68.2) 59 [(8, .ref (K.2.2 + 42)), (7, .ref (K.2.2 + 41)), (0, .ref (K.2.2 + 0)), (1, .ref (K.2.2 + 1)), (2, .ref (K.2.2 + 43)), (3, .ref (K.2.2 + 44)), (4, .ref (K.2.2 + 45)), (5, .ref (K.2.2 + 46)), (6, .ref (K.2.2 + 47))] [.int p_68.1]
        refine J_ldc (v := -1000003) C ci_RL_123 dL_plays_59 rfl ?_
        refine J_icmp_ne (t := 96) C dL_plays_61 (by decide) rfl (fun c_69 => ?_) (fun c_69 => ?_)
        · have h := h.neg c_69
          refine J.widen (k' := 2020) (sl' := 180892) (Nat.le_of_ble_eq_true rfl) (Nat.le_of_ble_eq_true rfl) ?_
          refine J.sub [2, 3, 4, 5, 6, 7, 8, 1, 0] rfl ?_
          exact hj_96 p_68.2 h
        · have h := h.pos (Decidable.not_not.mp c_69)
          refine J_aload (i := 6) (p := 8) C dL_plays_64 rfl rfl ?_
          refine J_bipush (v := 10) C (by decide) dL_plays_66 rfl ?_
          refine J_iconst (v := 1) C (by decide) dL_plays_68 rfl ?_
          refine J_iconst (v := 0) C (by decide) dL_plays_69 rfl ?_
          refine J_iconst (v := 0) C (by decide) dL_plays_70 rfl ?_
          refine Jl_cH (rest := []) (st9 := fun p_70 => [.int p_70.1]) C hR hX ch_RL_174 (kL_done hl  (Ok.ofbnd h)) rfl rfl (Nat.le_of_ble_eq_true rfl) (Nat.le_of_ble_eq_true rfl) (Nat.le_of_ble_eq_true rfl) ⟨(Nat.le_of_ble_eq_true rfl), (Nat.le_of_ble_eq_true rfl)⟩ dL_plays_71 rfl (fun _ => rfl) (fun p_70 h => ?_)
          have h : Ok _ _ := h
          change J X K 12 False QQ 2019 180886 2064 (jl K p_70.2) 74 [(8, .ref (K.2.2 + 42)), (7, .ref (K.2.2 + 41)), (0, .ref (K.2.2 + 0)), (1, .ref (K.2.2 + 1)), (2, .ref (K.2.2 + 43)), (3, .ref (K.2.2 + 44)), (4, .ref (K.2.2 + 45)), (5, .ref (K.2.2 + 46)), (6, .ref (K.2.2 + 47))] [.int p_70.1]
          refine J_if_ne (t := 96) C dL_plays_74 (by decide) rfl (fun c_71 => ?_) (fun c_71 => ?_)
          · have h := h.neg c_71
            refine J.widen (k' := 2020) (sl' := 180892) (Nat.le_of_ble_eq_true rfl) (Nat.le_of_ble_eq_true rfl) ?_
            refine J.sub [2, 3, 4, 5, 6, 7, 8, 1, 0] rfl ?_
            exact hj_96 p_70.2 h
          · have h := h.pos (Decidable.not_not.mp c_71)
            refine J_aload (i := 6) (p := 8) C dL_plays_77 rfl rfl ?_
            refine J_bipush (v := 12) C (by decide) dL_plays_79 rfl ?_
            refine J_iconst (v := 0) C (by decide) dL_plays_81 rfl ?_
            refine J_iconst (v := 0) C (by decide) dL_plays_82 rfl ?_
            refine J_iconst (v := 0) C (by decide) dL_plays_83 rfl ?_
            refine Jl_cH (rest := []) (st9 := fun p_72 => [.int p_72.1]) C hR hX ch_RL_174 (kL_done hl  (Ok.ofbnd h)) rfl rfl (Nat.le_of_ble_eq_true rfl) (Nat.le_of_ble_eq_true rfl) (Nat.le_of_ble_eq_true rfl) ⟨(Nat.le_of_ble_eq_true rfl), (Nat.le_of_ble_eq_true rfl)⟩ dL_plays_84 rfl (fun _ => rfl) (fun p_72 h => ?_)
            have h : Ok _ _ := h
            change J X K 12 False QQ 2020 180892 2064 (jl K p_72.2) 87 [(8, .ref (K.2.2 + 42)), (7, .ref (K.2.2 + 41)), (0, .ref (K.2.2 + 0)), (1, .ref (K.2.2 + 1)), (2, .ref (K.2.2 + 43)), (3, .ref (K.2.2 + 44)), (4, .ref (K.2.2 + 45)), (5, .ref (K.2.2 + 46)), (6, .ref (K.2.2 + 47))] [.int p_72.1]
            refine J_ldc (v := -1000004) C ci_RL_126 dL_plays_87 rfl ?_
            refine J_icmp_ne (t := 96) C dL_plays_89 (by decide) rfl (fun c_73 => ?_) (fun c_73 => ?_)
            · have h := h.neg c_73
              refine J.sub [2, 3, 4, 5, 6, 7, 8, 1, 0] rfl ?_
              exact hj_96 p_72.2 h
            · have h := h.pos (Decidable.not_not.mp c_73)
              refine J_iconst (v := 1) C (by decide) dL_plays_92 rfl ?_
              refine J_goto (t := 97) C dL_plays_93 (by decide) ?_
              refine J.sub [2, 3, 4, 5, 6, 7, 8, 1, 0] rfl ?_
              exact hj_97 p_72.2 (1 : Int32) h
