set_option maxHeartbeats 4000000 in
set_option maxRecDepth 100000 in
theorem kL_moves {l : Launch} {K : JK} (hl : l.stackTraces = false) {τ : LawS}   {Qf : Int32 × LawS → Prop} (h : Ok (fL_moves τ) Qf) : Con l K yL_moves (.code yL_moves cL_moves 12 (some .boolean) :: TB) 10 4 24 False [.ref (K.2.2 + 47), .ref (K.2.2 + 0), .ref (K.2.2 + 45)] 2064 (jl K τ) (PL Qf (fun p => some (.int p.1)) (fun p => jl K p.2)) PN := by
  refine Con.enter (own := RL) hl (by decide) rfl (Nat.le_of_ble_eq_true rfl) ?_
  intro X hX hR C hret hnt
  generalize hQQ : jQ X K 4 24 (PL Qf (fun p => some (.int p.1)) (fun p => jl K p.2)) PN False = QQ
  change J X K 12 False QQ 0 0 2064 (jl K τ) 0 [(0, .ref (K.2.2 + 47)), (1, .ref (K.2.2 + 0)), (2, .ref (K.2.2 + 45))] []
  have hj_461 : (∀ (τ_461 : LawS) (s0_461 : Int32), Ok (fL_moves_j461 τ_461 s0_461) Qf → J X K 12 False QQ 4 24 2064 (jl K τ_461) 461 [] [.int s0_461]) := by
    intro τ_461 s0_461 h
    unfold fL_moves_j461 at h
    obtain ⟨g_1, h⟩ := Ok.ofgd h
    rw [← hQQ]
    exact J_zret C hret (narB g_1).1 (Nat.le_of_ble_eq_true rfl) (Nat.le_of_ble_eq_true rfl) ⟨_, h.osome, rfl, rfl, rfl⟩ dL_moves_461
  have hj_460 : (∀ (τ_460 : LawS), Ok (fL_moves_j460 τ_460) Qf → J X K 12 False QQ 4 24 2064 (jl K τ_460) 460 [] []) := by
    intro τ_460 h
    unfold fL_moves_j460 at h
    refine J_iconst (v := 0) C (by decide) dL_moves_460 rfl ?_
    exact hj_461 τ_460 (0 : Int32) h
  have hj_429 : (∀ (τ_429 : LawS) (l7_429 : Int32) (l9_429 : Int32) (l10_429 : Int32) (l11_429 : Int32) (s0_429 : Int32), Ok (fL_moves_j429 τ_429 l7_429 l9_429 l10_429 l11_429 s0_429) Qf → J X K 12 False QQ 4 24 2064 (jl K τ_429) 429 [(0, .ref (K.2.2 + 47)), (7, .int l7_429), (9, .int l9_429), (10, .int l10_429), (11, .int l11_429)] [.int s0_429]) := by
    intro τ_429 l7_429 l9_429 l10_429 l11_429 s0_429 h
    unfold fL_moves_j429 at h
    refine J_iload (i := 10) (p := 3) C dL_moves_429 rfl rfl ?_
    refine J_icmp_ne (t := 460) C dL_moves_431 (by decide) rfl (fun c_2 => ?_) (fun c_2 => ?_)
    · have h := h.neg c_2
      refine J.sub [] rfl ?_
      exact hj_460 τ_429 h
    · have h := h.pos (Decidable.not_not.mp c_2)
      refine J_aload_n (i := 0) (p := 0) C dL_moves_434 rfl rfl rfl ?_
      refine J_iconst (v := 4) C (by decide) dL_moves_435 rfl ?_
      refine Jl_cV (α := Int32 × Sto) (rest := []) (st9 := fun p_3 => [.int p_3.1]) (wd := fun p_3 => p_3.2) C hR hX cv_RL_134 (k11_count_n hl (Ok.ofnox h) (fun c hc => hc)) rfl rfl (Nat.le_of_ble_eq_true rfl) (Nat.le_of_ble_eq_true rfl) (Nat.le_of_ble_eq_true rfl) ⟨(Nat.le_of_ble_eq_true rfl), (Nat.le_of_ble_eq_true rfl)⟩ dL_moves_436 rfl (fun E n9 w9 hx => hx.elim) (fun _ => rfl) (fun p_3 h => ?_)
      have h : Ok _ _ := h
      change J X K 12 False QQ 4 24 2064 (jl K (τ_429.1, p_3.2)) 439 [(0, .ref (K.2.2 + 47)), (7, .int l7_429), (9, .int l9_429), (10, .int l10_429), (11, .int l11_429)] [.int p_3.1]
      refine J_iload (i := 9) (p := 2) C dL_moves_439 rfl rfl ?_
      refine J_iload (i := 11) (p := 4) C dL_moves_441 rfl rfl ?_
      refine J_isub C dL_moves_443 rfl ?_
      refine J_icmp_ne (t := 460) C dL_moves_444 (by decide) rfl (fun c_4 => ?_) (fun c_4 => ?_)
      · have h := h.neg c_4
        refine J.sub [] rfl ?_
        exact hj_460 (τ_429.1, p_3.2) h
      · have h := h.pos (Decidable.not_not.mp c_4)
        refine J_aload_n (i := 0) (p := 0) C dL_moves_447 rfl rfl rfl ?_
        refine J_iload (i := 7) (p := 1) C dL_moves_448 rfl rfl ?_
        refine Jl_cV (α := Int32 × Sto) (rest := []) (st9 := fun p_5 => [.int p_5.1]) (wd := fun p_5 => p_5.2) C hR hX cv_RL_147 (k11_isHidden_n hl (Ok.ofnox h) (fun c hc => hc)) rfl rfl (Nat.le_of_ble_eq_true rfl) (Nat.le_of_ble_eq_true rfl) (Nat.le_of_ble_eq_true rfl) ⟨(Nat.le_of_ble_eq_true rfl), (Nat.le_of_ble_eq_true rfl)⟩ dL_moves_450 rfl (fun E n9 w9 hx => hx.elim) (fun _ => rfl) (fun p_5 h => ?_)
        have h : Ok _ _ := h
        change J X K 12 False QQ 4 24 2064 (jl K (τ_429.1, p_5.2)) 453 [(0, .ref (K.2.2 + 47)), (7, .int l7_429), (9, .int l9_429), (10, .int l10_429), (11, .int l11_429)] [.int p_5.1]
        refine J_if_ne (t := 460) C dL_moves_453 (by decide) rfl (fun c_6 => ?_) (fun c_6 => ?_)
        · have h := h.neg c_6
          refine J.sub [] rfl ?_
          exact hj_460 (τ_429.1, p_5.2) h
        · have h := h.pos (Decidable.not_not.mp c_6)
          refine J_iconst (v := 1) C (by decide) dL_moves_456 rfl ?_
          refine J_goto (t := 461) C dL_moves_457 (by decide) ?_
          refine J.sub [] rfl ?_
          exact hj_461 (τ_429.1, p_5.2) (1 : Int32) h
  have hj_393 : (∀ (τ_393 : LawS) (s0_393 : Int32), Ok (fL_moves_j393 τ_393 s0_393) Qf → J X K 12 False QQ 4 24 2064 (jl K τ_393) 393 [] [.int s0_393]) := by
    intro τ_393 s0_393 h
    unfold fL_moves_j393 at h
    obtain ⟨g_7, h⟩ := Ok.ofgd h
    rw [← hQQ]
    exact J_zret C hret (narB g_7).1 (Nat.le_of_ble_eq_true rfl) (Nat.le_of_ble_eq_true rfl) ⟨_, h.osome, rfl, rfl, rfl⟩ dL_moves_393
  have hj_392 : (∀ (τ_392 : LawS), Ok (fL_moves_j392 τ_392) Qf → J X K 12 False QQ 4 24 2064 (jl K τ_392) 392 [] []) := by
    intro τ_392 h
    unfold fL_moves_j392 at h
    refine J_iconst (v := 0) C (by decide) dL_moves_392 rfl ?_
    exact hj_393 τ_392 (0 : Int32) h
  have hj_276 : (∀ (τ_276 : LawS) (s0_276 : Int32), Ok (fL_moves_j276 τ_276 s0_276) Qf → J X K 12 False QQ 4 24 2064 (jl K τ_276) 276 [] [.int s0_276]) := by
    intro τ_276 s0_276 h
    unfold fL_moves_j276 at h
    obtain ⟨g_8, h⟩ := Ok.ofgd h
    rw [← hQQ]
    exact J_zret C hret (narB g_8).1 (Nat.le_of_ble_eq_true rfl) (Nat.le_of_ble_eq_true rfl) ⟨_, h.osome, rfl, rfl, rfl⟩ dL_moves_276
  have hj_275 : (∀ (τ_275 : LawS), Ok (fL_moves_j275 τ_275) Qf → J X K 12 False QQ 4 24 2064 (jl K τ_275) 275 [] []) := by
    intro τ_275 h
    unfold fL_moves_j275 at h
    refine J_iconst (v := 0) C (by decide) dL_moves_275 rfl ?_
    exact hj_276 τ_275 (0 : Int32) h
  have hj_224 : (∀ (τ_224 : LawS) (l6_224 : Int32) (l7_224 : Int32) (s0_224 : Int32), Ok (fL_moves_j224 τ_224 l6_224 l7_224 s0_224) Qf → J X K 12 False QQ 0 0 2064 (jl K τ_224) 224 [(0, .ref (K.2.2 + 47)), (2, .ref (K.2.2 + 45)), (6, .int l6_224), (7, .int l7_224)] [.int s0_224]) := by
    intro τ_224 l6_224 l7_224 s0_224 h
    unfold fL_moves_j224 at h
    obtain ⟨x8_1, e_x8_1, h⟩ := Ok.nm h
    refine J_istoreE (i := 8) (lv' := [(8, .int x8_1), (0, .ref (K.2.2 + 47)), (2, .ref (K.2.2 + 45)), (6, .int l6_224), (7, .int l7_224)]) C e_x8_1 dL_moves_224 (Nat.le_of_ble_eq_true rfl) rfl rfl ?_
    refine J_aload_n (i := 0) (p := 1) C dL_moves_226 rfl rfl rfl ?_
    refine J_iload (i := 7) (p := 4) C dL_moves_227 rfl rfl ?_
    refine Jl_cV (α := Int32 × Sto) (rest := []) (st9 := fun p_9 => [.int p_9.1]) (wd := fun p_9 => p_9.2) C hR hX cv_RL_144 (k11_markAt_n hl (Ok.ofnox h) (fun c hc => hc)) rfl rfl (Nat.le_of_ble_eq_true rfl) (Nat.le_of_ble_eq_true rfl) (Nat.le_of_ble_eq_true rfl) ⟨(Nat.le_of_ble_eq_true rfl), (Nat.le_of_ble_eq_true rfl)⟩ dL_moves_229 rfl (fun E n9 w9 hx => hx.elim) (fun _ => rfl) (fun p_9 h => ?_)
    have h : Ok _ _ := h
    change J X K 12 False QQ 0 0 2064 (jl K (τ_224.1, p_9.2)) 232 [(8, .int x8_1), (0, .ref (K.2.2 + 47)), (2, .ref (K.2.2 + 45)), (6, .int l6_224), (7, .int l7_224)] [.int p_9.1]
    obtain ⟨x9_2, e_x9_2, h⟩ := Ok.nm h
    refine J_istoreE (i := 9) (lv' := [(9, .int x9_2), (8, .int x8_1), (0, .ref (K.2.2 + 47)), (2, .ref (K.2.2 + 45)), (6, .int l6_224), (7, .int l7_224)]) C e_x9_2 dL_moves_232 (Nat.le_of_ble_eq_true rfl) rfl rfl ?_
    refine J_aload_n (i := 2) (p := 3) C dL_moves_234 rfl rfl rfl ?_
    refine J_iload (i := 7) (p := 5) C dL_moves_235 rfl rfl ?_
    refine J_iload (i := 8) (p := 1) C dL_moves_237 rfl rfl ?_
    obtain ⟨g_10, h⟩ := Ok.ofgd h
    obtain ⟨τx_3, e_τx_3, h⟩ := Ok.nm h
    refine Jl_zast C id rfl rfl g_10 e_τx_3 dL_moves_239 rfl ?_
    refine J_aload_n (i := 0) (p := 2) C dL_moves_240 rfl rfl rfl ?_
    refine J_bipush (v := 17) C (by decide) dL_moves_241 rfl ?_
    refine J_iload (i := 7) (p := 5) C dL_moves_243 rfl rfl ?_
    refine J_iload (i := 6) (p := 4) C dL_moves_245 rfl rfl ?_
    refine J_iload (i := 8) (p := 1) C dL_moves_247 rfl rfl ?_
    refine Jl_cS (α := Int32) (rest := [.int l6_224, .int l7_224, .int (17 : Int32), .ref (K.2.2 + 47)]) (st9 := fun p_11 => [.int p_11, .int l6_224, .int l7_224, .int (17 : Int32), .ref (K.2.2 + 47)]) C hR hX cs_RL_63 (kL_one hl  (Ok.ofbnd h)) rfl rfl (Nat.le_of_ble_eq_true rfl) (Nat.le_of_ble_eq_true rfl) (Nat.le_of_ble_eq_true rfl) ⟨(Nat.le_of_ble_eq_true rfl), (Nat.le_of_ble_eq_true rfl)⟩ dL_moves_249 rfl (fun _ => rfl) (fun p_11 h => ?_)
    have h : Ok _ _ := h
    change J X K 12 False QQ 0 0 2064 (jl K τx_3) 252 [(9, .int x9_2), (8, .int x8_1), (0, .ref (K.2.2 + 47)), (2, .ref (K.2.2 + 45)), (6, .int l6_224), (7, .int l7_224)] [.int p_11, .int l6_224, .int l7_224, .int (17 : Int32), .ref (K.2.2 + 47)]
    refine Jl_cH (α := Int32 × LawS) (rest := []) (st9 := fun p_12 => [.int p_12.1]) C hR hX ch_RL_174 (kL_done hl  (Ok.ofbnd h)) rfl rfl (Nat.le_of_ble_eq_true rfl) (Nat.le_of_ble_eq_true rfl) (Nat.le_of_ble_eq_true rfl) ⟨(Nat.le_of_ble_eq_true rfl), (Nat.le_of_ble_eq_true rfl)⟩ dL_moves_252 rfl (fun _ => rfl) (fun p_12 h => ?_)
    have h : Ok _ _ := h
    change J X K 12 False QQ 4 24 2064 (jl K p_12.2) 255 [(9, .int x9_2), (8, .int x8_1), (0, .ref (K.2.2 + 47)), (2, .ref (K.2.2 + 45)), (6, .int l6_224), (7, .int l7_224)] [.int p_12.1]
    refine J_iload (i := 9) (p := 0) C dL_moves_255 rfl rfl ?_
    refine J_icmp_ne (t := 275) C dL_moves_257 (by decide) rfl (fun c_13 => ?_) (fun c_13 => ?_)
    · have h := h.neg c_13
      refine J.sub [] rfl ?_
      exact hj_275 p_12.2 h
    · have h := h.pos (Decidable.not_not.mp c_13)
      refine J_aload_n (i := 0) (p := 2) C dL_moves_260 rfl rfl rfl ?_
      refine J_iload (i := 7) (p := 5) C dL_moves_261 rfl rfl ?_
      refine Jl_cV (α := Int32 × Sto) (rest := []) (st9 := fun p_14 => [.int p_14.1]) (wd := fun p_14 => p_14.2) C hR hX cv_RL_144 (k11_markAt_n hl (Ok.ofnox h) (fun c hc => hc)) rfl rfl (Nat.le_of_ble_eq_true rfl) (Nat.le_of_ble_eq_true rfl) (Nat.le_of_ble_eq_true rfl) ⟨(Nat.le_of_ble_eq_true rfl), (Nat.le_of_ble_eq_true rfl)⟩ dL_moves_263 rfl (fun E n9 w9 hx => hx.elim) (fun _ => rfl) (fun p_14 h => ?_)
      have h : Ok _ _ := h
      change J X K 12 False QQ 4 24 2064 (jl K (p_12.2.1, p_14.2)) 266 [(9, .int x9_2), (8, .int x8_1), (0, .ref (K.2.2 + 47)), (2, .ref (K.2.2 + 45)), (6, .int l6_224), (7, .int l7_224)] [.int p_14.1]
      refine J_iload (i := 6) (p := 4) C dL_moves_266 rfl rfl ?_
      refine J_icmp_ne (t := 275) C dL_moves_268 (by decide) rfl (fun c_15 => ?_) (fun c_15 => ?_)
      · have h := h.neg c_15
        refine J.sub [] rfl ?_
        exact hj_275 (p_12.2.1, p_14.2) h
      · have h := h.pos (Decidable.not_not.mp c_15)
        refine J_iconst (v := 1) C (by decide) dL_moves_271 rfl ?_
        refine J_goto (t := 276) C dL_moves_272 (by decide) ?_
        refine J.sub [] rfl ?_
        exact hj_276 (p_12.2.1, p_14.2) (1 : Int32) h
  have hj_194 : (∀ (τ_194 : LawS) (s0_194 : Int32), Ok (fL_moves_j194 τ_194 s0_194) Qf → J X K 12 False QQ 4 24 2064 (jl K τ_194) 194 [] [.int s0_194]) := by
    intro τ_194 s0_194 h
    unfold fL_moves_j194 at h
    obtain ⟨g_16, h⟩ := Ok.ofgd h
    rw [← hQQ]
    exact J_zret C hret (narB g_16).1 (Nat.le_of_ble_eq_true rfl) (Nat.le_of_ble_eq_true rfl) ⟨_, h.osome, rfl, rfl, rfl⟩ dL_moves_194
  have hj_154 : (∀ (τ_154 : LawS) (s0_154 : Int32), Ok (fL_moves_j154 τ_154 s0_154) Qf → J X K 12 False QQ 4 24 2064 (jl K τ_154) 154 [] [.int s0_154]) := by
    intro τ_154 s0_154 h
    unfold fL_moves_j154 at h
    obtain ⟨g_17, h⟩ := Ok.ofgd h
    rw [← hQQ]
    exact J_zret C hret (narB g_17).1 (Nat.le_of_ble_eq_true rfl) (Nat.le_of_ble_eq_true rfl) ⟨_, h.osome, rfl, rfl, rfl⟩ dL_moves_154
  have hj_153 : (∀ (τ_153 : LawS), Ok (fL_moves_j153 τ_153) Qf → J X K 12 False QQ 4 24 2064 (jl K τ_153) 153 [] []) := by
    intro τ_153 h
    unfold fL_moves_j153 at h
    refine J_iconst (v := 0) C (by decide) dL_moves_153 rfl ?_
    exact hj_154 τ_153 (0 : Int32) h
  have hj_75 : (∀ (τ_75 : LawS) (s0_75 : Int32), Ok (fL_moves_j75 τ_75 s0_75) Qf → J X K 12 False QQ 4 24 2064 (jl K τ_75) 75 [] [.int s0_75]) := by
    intro τ_75 s0_75 h
    unfold fL_moves_j75 at h
    obtain ⟨g_18, h⟩ := Ok.ofgd h
    rw [← hQQ]
    exact J_zret C hret (narB g_18).1 (Nat.le_of_ble_eq_true rfl) (Nat.le_of_ble_eq_true rfl) ⟨_, h.osome, rfl, rfl, rfl⟩ dL_moves_75
  have hj_74 : (∀ (τ_74 : LawS), Ok (fL_moves_j74 τ_74) Qf → J X K 12 False QQ 4 24 2064 (jl K τ_74) 74 [] []) := by
    intro τ_74 h
    unfold fL_moves_j74 at h
    refine J_iconst (v := 0) C (by decide) dL_moves_74 rfl ?_
    exact hj_75 τ_74 (0 : Int32) h
  unfold fL_moves at h
  refine J_aload_n (i := 0) (p := 0) C dL_moves_0 rfl rfl rfl ?_
  refine J_iconst (v := 0) C (by decide) dL_moves_1 rfl ?_
  refine Jl_cV (α := Int32 × Sto) (rest := []) (st9 := fun p_19 => [.int p_19.1]) (wd := fun p_19 => p_19.2) C hR hX cv_RL_134 (k11_count_n hl (Ok.ofnox h) (fun c hc => hc)) rfl rfl (Nat.le_of_ble_eq_true rfl) (Nat.le_of_ble_eq_true rfl) (Nat.le_of_ble_eq_true rfl) ⟨(Nat.le_of_ble_eq_true rfl), (Nat.le_of_ble_eq_true rfl)⟩ dL_moves_2 rfl (fun E n9 w9 hx => hx.elim) (fun _ => rfl) (fun p_19 h => ?_)
  have h : Ok _ _ := h
  change J X K 12 False QQ 0 0 2064 (jl K (τ.1, p_19.2)) 5 [(0, .ref (K.2.2 + 47)), (1, .ref (K.2.2 + 0)), (2, .ref (K.2.2 + 45))] [.int p_19.1]
  obtain ⟨x3_4, e_x3_4, h⟩ := Ok.nm h
  refine J_istoreE_n (i := 3) (lv' := [(3, .int x3_4), (0, .ref (K.2.2 + 47)), (1, .ref (K.2.2 + 0)), (2, .ref (K.2.2 + 45))]) C e_x3_4 dL_moves_5 rfl (Nat.le_of_ble_eq_true rfl) rfl rfl ?_
  refine J_aload_n (i := 0) (p := 1) C dL_moves_6 rfl rfl rfl ?_
  refine J_iconst (v := 1) C (by decide) dL_moves_7 rfl ?_
  refine Jl_cV (α := Int32 × Sto) (rest := []) (st9 := fun p_20 => [.int p_20.1]) (wd := fun p_20 => p_20.2) C hR hX cv_RL_134 (k11_count_n hl (Ok.ofnox h) (fun c hc => hc)) rfl rfl (Nat.le_of_ble_eq_true rfl) (Nat.le_of_ble_eq_true rfl) (Nat.le_of_ble_eq_true rfl) ⟨(Nat.le_of_ble_eq_true rfl), (Nat.le_of_ble_eq_true rfl)⟩ dL_moves_8 rfl (fun E n9 w9 hx => hx.elim) (fun _ => rfl) (fun p_20 h => ?_)
  have h : Ok _ _ := h
  change J X K 12 False QQ 0 0 2064 (jl K (τ.1, p_20.2)) 11 [(3, .int x3_4), (0, .ref (K.2.2 + 47)), (1, .ref (K.2.2 + 0)), (2, .ref (K.2.2 + 45))] [.int p_20.1]
  obtain ⟨x4_5, e_x4_5, h⟩ := Ok.nm h
  refine J_istoreE (i := 4) (lv' := [(4, .int x4_5), (3, .int x3_4), (0, .ref (K.2.2 + 47)), (1, .ref (K.2.2 + 0)), (2, .ref (K.2.2 + 45))]) C e_x4_5 dL_moves_11 (Nat.le_of_ble_eq_true rfl) rfl rfl ?_
  refine J_aload_n (i := 1) (p := 3) C dL_moves_13 rfl rfl rfl ?_
  refine Jl_cS (α := Int32 × LawS) (rest := []) (st9 := fun p_21 => [.int p_21.1]) C hR hX cs_RL_8 (kL_next hl  (Ok.ofbnd h)) rfl rfl (Nat.le_of_ble_eq_true rfl) (Nat.le_of_ble_eq_true rfl) (Nat.le_of_ble_eq_true rfl) ⟨(Nat.le_of_ble_eq_true rfl), (Nat.le_of_ble_eq_true rfl)⟩ dL_moves_14 rfl (fun _ => rfl) (fun p_21 h => ?_)
  have h : Ok _ _ := h
  change J X K 12 False QQ 0 0 2064 (jl K p_21.2) 17 [(4, .int x4_5), (3, .int x3_4), (0, .ref (K.2.2 + 47)), (1, .ref (K.2.2 + 0)), (2, .ref (K.2.2 + 45))] [.int p_21.1]
  refine J_bipush (v := 6) C (by decide) dL_moves_17 rfl ?_
  refine J_irem C (by decide) dL_moves_19 rfl ?_
  obtain ⟨x5_6, e_x5_6, h⟩ := Ok.nm h
  refine J_istoreE (i := 5) (lv' := [(5, .int x5_6), (4, .int x4_5), (3, .int x3_4), (0, .ref (K.2.2 + 47)), (1, .ref (K.2.2 + 0)), (2, .ref (K.2.2 + 45))]) C e_x5_6 dL_moves_20 (Nat.le_of_ble_eq_true rfl) rfl rfl ?_
  refine J_aload_n (i := 1) (p := 4) C dL_moves_22 rfl rfl rfl ?_
  refine Jl_cS (α := Int32 × LawS) (rest := []) (st9 := fun p_22 => [.int p_22.1]) C hR hX cs_RL_8 (kL_next hl  (Ok.ofbnd h)) rfl rfl (Nat.le_of_ble_eq_true rfl) (Nat.le_of_ble_eq_true rfl) (Nat.le_of_ble_eq_true rfl) ⟨(Nat.le_of_ble_eq_true rfl), (Nat.le_of_ble_eq_true rfl)⟩ dL_moves_23 rfl (fun _ => rfl) (fun p_22 h => ?_)
  have h : Ok _ _ := h
  change J X K 12 False QQ 0 0 2064 (jl K p_22.2) 26 [(5, .int x5_6), (4, .int x4_5), (3, .int x3_4), (0, .ref (K.2.2 + 47)), (1, .ref (K.2.2 + 0)), (2, .ref (K.2.2 + 45))] [.int p_22.1]
  refine J_iload_n (i := 3) (p := 2) C dL_moves_26 rfl rfl rfl ?_
  refine J_iconst (v := 1) C (by decide) dL_moves_27 rfl ?_
  refine J_iadd C dL_moves_28 rfl ?_
  obtain ⟨g_23, h⟩ := Ok.ofgd h
  refine J_irem C (nz_spec g_23) dL_moves_29 rfl ?_
  obtain ⟨x6_7, e_x6_7, h⟩ := Ok.nm h
  refine J_istoreE (i := 6) (lv' := [(6, .int x6_7), (5, .int x5_6), (4, .int x4_5), (3, .int x3_4), (0, .ref (K.2.2 + 47)), (1, .ref (K.2.2 + 0)), (2, .ref (K.2.2 + 45))]) C e_x6_7 dL_moves_30 (Nat.le_of_ble_eq_true rfl) rfl rfl ?_
  refine J_iload (i := 5) (p := 1) C dL_moves_32 rfl rfl ?_
  refine J_if_ne (t := 76) C dL_moves_34 (by decide) rfl (fun c_24 => ?_) (fun c_24 => ?_)
  · have h := h.neg c_24
    refine J_iload (i := 5) (p := 1) C dL_moves_76 rfl rfl ?_
    refine J_iconst (v := 1) C (by decide) dL_moves_78 rfl ?_
    refine J_icmp_ne (t := 155) C dL_moves_79 (by decide) rfl (fun c_25 => ?_) (fun c_25 => ?_)
    · have h := h.neg c_25
      refine J_iload (i := 5) (p := 1) C dL_moves_155 rfl rfl ?_
      refine J_iconst (v := 2) C (by decide) dL_moves_157 rfl ?_
      refine J_icmp_ne (t := 195) C dL_moves_158 (by decide) rfl (fun c_26 => ?_) (fun c_26 => ?_)
      · have h := h.neg c_26
        refine J_iload (i := 5) (p := 1) C dL_moves_195 rfl rfl ?_
        refine J_iconst (v := 3) C (by decide) dL_moves_197 rfl ?_
        refine J_icmp_ne (t := 277) C dL_moves_198 (by decide) rfl (fun c_27 => ?_) (fun c_27 => ?_)
        · have h := h.neg c_27
          refine J_aload_n (i := 1) (p := 5) C dL_moves_277 rfl rfl rfl ?_
          refine Jl_cS (α := Int32 × LawS) (rest := []) (st9 := fun p_28 => [.int p_28.1]) C hR hX cs_RL_8 (kL_next hl  (Ok.ofbnd h)) rfl rfl (Nat.le_of_ble_eq_true rfl) (Nat.le_of_ble_eq_true rfl) (Nat.le_of_ble_eq_true rfl) ⟨(Nat.le_of_ble_eq_true rfl), (Nat.le_of_ble_eq_true rfl)⟩ dL_moves_278 rfl (fun _ => rfl) (fun p_28 h => ?_)
          have h : Ok _ _ := h
          change J X K 12 False QQ 0 0 2064 (jl K p_28.2) 281 [(6, .int x6_7), (5, .int x5_6), (4, .int x4_5), (3, .int x3_4), (0, .ref (K.2.2 + 47)), (1, .ref (K.2.2 + 0)), (2, .ref (K.2.2 + 45))] [.int p_28.1]
          refine J_iload (i := 4) (p := 2) C dL_moves_281 rfl rfl ?_
          obtain ⟨g_29, h⟩ := Ok.ofgd h
          refine J_irem C (nz_spec g_29) dL_moves_283 rfl ?_
          obtain ⟨x7_8, e_x7_8, h⟩ := Ok.nm h
          refine J_istoreE (i := 7) (lv' := [(7, .int x7_8), (6, .int x6_7), (5, .int x5_6), (4, .int x4_5), (3, .int x3_4), (0, .ref (K.2.2 + 47)), (1, .ref (K.2.2 + 0)), (2, .ref (K.2.2 + 45))]) C e_x7_8 dL_moves_284 (Nat.le_of_ble_eq_true rfl) rfl rfl ?_
          refine J_aload_n (i := 1) (p := 6) C dL_moves_286 rfl rfl rfl ?_
          refine Jl_cS (α := Int32 × LawS) (rest := []) (st9 := fun p_30 => [.int p_30.1]) C hR hX cs_RL_8 (kL_next hl  (Ok.ofbnd h)) rfl rfl (Nat.le_of_ble_eq_true rfl) (Nat.le_of_ble_eq_true rfl) (Nat.le_of_ble_eq_true rfl) ⟨(Nat.le_of_ble_eq_true rfl), (Nat.le_of_ble_eq_true rfl)⟩ dL_moves_287 rfl (fun _ => rfl) (fun p_30 h => ?_)
          have h : Ok _ _ := h
          change J X K 12 False QQ 0 0 2064 (jl K p_30.2) 290 [(7, .int x7_8), (6, .int x6_7), (5, .int x5_6), (4, .int x4_5), (3, .int x3_4), (0, .ref (K.2.2 + 47)), (1, .ref (K.2.2 + 0)), (2, .ref (K.2.2 + 45))] [.int p_30.1]
          refine J_iload (i := 4) (p := 3) C dL_moves_290 rfl rfl ?_
          obtain ⟨g_31, h⟩ := Ok.ofgd h
          refine J_irem C (nz_spec g_31) dL_moves_292 rfl ?_
          obtain ⟨x8_9, e_x8_9, h⟩ := Ok.nm h
          refine J_istoreE (i := 8) (lv' := [(8, .int x8_9), (7, .int x7_8), (6, .int x6_7), (5, .int x5_6), (4, .int x4_5), (3, .int x3_4), (0, .ref (K.2.2 + 47)), (1, .ref (K.2.2 + 0)), (2, .ref (K.2.2 + 45))]) C e_x8_9 dL_moves_293 (Nat.le_of_ble_eq_true rfl) rfl rfl ?_
          refine J_aload_n (i := 0) (p := 6) C dL_moves_295 rfl rfl rfl ?_
          refine J_iconst (v := 4) C (by decide) dL_moves_296 rfl ?_
          refine Jl_cV (α := Int32 × Sto) (rest := []) (st9 := fun p_32 => [.int p_32.1]) (wd := fun p_32 => p_32.2) C hR hX cv_RL_134 (k11_count_n hl (Ok.ofnox h) (fun c hc => hc)) rfl rfl (Nat.le_of_ble_eq_true rfl) (Nat.le_of_ble_eq_true rfl) (Nat.le_of_ble_eq_true rfl) ⟨(Nat.le_of_ble_eq_true rfl), (Nat.le_of_ble_eq_true rfl)⟩ dL_moves_297 rfl (fun E n9 w9 hx => hx.elim) (fun _ => rfl) (fun p_32 h => ?_)
          have h : Ok _ _ := h
          change J X K 12 False QQ 0 0 2064 (jl K (p_30.2.1, p_32.2)) 300 [(8, .int x8_9), (7, .int x7_8), (6, .int x6_7), (5, .int x5_6), (4, .int x4_5), (3, .int x3_4), (0, .ref (K.2.2 + 47)), (1, .ref (K.2.2 + 0)), (2, .ref (K.2.2 + 45))] [.int p_32.1]
          obtain ⟨x9_10, e_x9_10, h⟩ := Ok.nm h
          refine J_istoreE (i := 9) (lv' := [(9, .int x9_10), (8, .int x8_9), (7, .int x7_8), (6, .int x6_7), (5, .int x5_6), (4, .int x4_5), (3, .int x3_4), (0, .ref (K.2.2 + 47)), (1, .ref (K.2.2 + 0)), (2, .ref (K.2.2 + 45))]) C e_x9_10 dL_moves_300 (Nat.le_of_ble_eq_true rfl) rfl rfl ?_
          refine J_iload (i := 5) (p := 4) C dL_moves_302 rfl rfl ?_
          refine J_iconst (v := 4) C (by decide) dL_moves_304 rfl ?_
          refine J_icmp_ne (t := 394) C dL_moves_305 (by decide) rfl (fun c_33 => ?_) (fun c_33 => ?_)
          · have h := h.neg c_33
            refine J_aload_n (i := 0) (p := 7) C dL_moves_394 rfl rfl rfl ?_
            refine J_iload (i := 7) (p := 2) C dL_moves_395 rfl rfl ?_
            refine Jl_cV (α := Int32 × Sto) (rest := []) (st9 := fun p_34 => [.int p_34.1]) (wd := fun p_34 => p_34.2) C hR hX cv_RL_147 (k11_isHidden_n hl (Ok.ofnox h) (fun c hc => hc)) rfl rfl (Nat.le_of_ble_eq_true rfl) (Nat.le_of_ble_eq_true rfl) (Nat.le_of_ble_eq_true rfl) ⟨(Nat.le_of_ble_eq_true rfl), (Nat.le_of_ble_eq_true rfl)⟩ dL_moves_397 rfl (fun E n9 w9 hx => hx.elim) (fun _ => rfl) (fun p_34 h => ?_)
            have h : Ok _ _ := h
            change J X K 12 False QQ 0 0 2064 (jl K (p_30.2.1, p_34.2)) 400 [(9, .int x9_10), (8, .int x8_9), (7, .int x7_8), (6, .int x6_7), (5, .int x5_6), (4, .int x4_5), (3, .int x3_4), (0, .ref (K.2.2 + 47)), (1, .ref (K.2.2 + 0)), (2, .ref (K.2.2 + 45))] [.int p_34.1]
            obtain ⟨x10_11, e_x10_11, h⟩ := Ok.nm h
            refine J_istoreE (i := 10) (lv' := [(10, .int x10_11), (9, .int x9_10), (8, .int x8_9), (7, .int x7_8), (6, .int x6_7), (5, .int x5_6), (4, .int x4_5), (3, .int x3_4), (0, .ref (K.2.2 + 47)), (1, .ref (K.2.2 + 0)), (2, .ref (K.2.2 + 45))]) C e_x10_11 dL_moves_400 (Nat.le_of_ble_eq_true rfl) rfl rfl ?_
            refine J_aload_n (i := 0) (p := 8) C dL_moves_402 rfl rfl rfl ?_
            refine J_bipush (v := 20) C (by decide) dL_moves_403 rfl ?_
            refine J_iload (i := 7) (p := 3) C dL_moves_405 rfl rfl ?_
            refine J_iconst (v := 0) C (by decide) dL_moves_407 rfl ?_
            refine J_iconst (v := 0) C (by decide) dL_moves_408 rfl ?_
            refine Jl_cH (α := Int32 × LawS) (rest := []) (st9 := fun p_35 => [.int p_35.1]) C hR hX ch_RL_174 (kL_done hl  (Ok.ofbnd h)) rfl rfl (Nat.le_of_ble_eq_true rfl) (Nat.le_of_ble_eq_true rfl) (Nat.le_of_ble_eq_true rfl) ⟨(Nat.le_of_ble_eq_true rfl), (Nat.le_of_ble_eq_true rfl)⟩ dL_moves_409 rfl (fun _ => rfl) (fun p_35 h => ?_)
            have h : Ok _ _ := h
            change J X K 12 False QQ 4 24 2064 (jl K p_35.2) 412 [(10, .int x10_11), (9, .int x9_10), (8, .int x8_9), (7, .int x7_8), (6, .int x6_7), (5, .int x5_6), (4, .int x4_5), (3, .int x3_4), (0, .ref (K.2.2 + 47)), (1, .ref (K.2.2 + 0)), (2, .ref (K.2.2 + 45))] [.int p_35.1]
            obtain ⟨x11_12, e_x11_12, h⟩ := Ok.nm h
            refine J_istoreE (i := 11) (lv' := [(11, .int x11_12), (10, .int x10_11), (9, .int x9_10), (8, .int x8_9), (7, .int x7_8), (6, .int x6_7), (5, .int x5_6), (4, .int x4_5), (3, .int x3_4), (0, .ref (K.2.2 + 47)), (1, .ref (K.2.2 + 0)), (2, .ref (K.2.2 + 45))]) C e_x11_12 dL_moves_412 (Nat.le_of_ble_eq_true rfl) rfl rfl ?_
            refine J_iload (i := 11) (p := 0) C dL_moves_414 rfl rfl ?_
            refine J_if_lt (t := 460) C dL_moves_416 (by decide) rfl (fun c_36 => ?_) (fun c_36 => ?_)
            · have h := h.pos c_36
              refine J.sub [] rfl ?_
              exact hj_460 p_35.2 h
            · have h := h.neg c_36
              refine J_iload (i := 11) (p := 0) C dL_moves_419 rfl rfl ?_
              refine J_if_le (t := 428) C dL_moves_421 (by decide) rfl (fun c_37 => ?_) (fun c_37 => ?_)
              · have h := h.pos c_37
                refine J_iconst (v := 0) C (by decide) dL_moves_428 rfl ?_
                refine J.sub [9, 4, 2, 1, 0] rfl ?_
                exact hj_429 p_35.2 x7_8 x9_10 x10_11 x11_12 (0 : Int32) h
              · have h := h.neg c_37
                refine J_iconst (v := 1) C (by decide) dL_moves_424 rfl ?_
                refine J_goto (t := 429) C dL_moves_425 (by decide) ?_
                refine J.sub [9, 4, 2, 1, 0] rfl ?_
                exact hj_429 p_35.2 x7_8 x9_10 x10_11 x11_12 (1 : Int32) h
          · have h := h.pos (Decidable.not_not.mp c_33)
            refine J_aload_n (i := 0) (p := 7) C dL_moves_308 rfl rfl rfl ?_
            refine J_bipush (v := 19) C (by decide) dL_moves_309 rfl ?_
            refine J_iload (i := 7) (p := 2) C dL_moves_311 rfl rfl ?_
            refine J_iload (i := 8) (p := 1) C dL_moves_313 rfl rfl ?_
            refine J_iconst (v := 0) C (by decide) dL_moves_315 rfl ?_
            refine Jl_cH (α := Int32 × LawS) (rest := []) (st9 := fun p_38 => [.int p_38.1]) C hR hX ch_RL_174 (kL_done hl  (Ok.ofbnd h)) rfl rfl (Nat.le_of_ble_eq_true rfl) (Nat.le_of_ble_eq_true rfl) (Nat.le_of_ble_eq_true rfl) ⟨(Nat.le_of_ble_eq_true rfl), (Nat.le_of_ble_eq_true rfl)⟩ dL_moves_316 rfl (fun _ => rfl) (fun p_38 h => ?_)
            have h : Ok _ _ := h
            change J X K 12 False QQ 4 24 2064 (jl K p_38.2) 319 [(9, .int x9_10), (8, .int x8_9), (7, .int x7_8), (6, .int x6_7), (5, .int x5_6), (4, .int x4_5), (3, .int x3_4), (0, .ref (K.2.2 + 47)), (1, .ref (K.2.2 + 0)), (2, .ref (K.2.2 + 45))] [.int p_38.1]
            obtain ⟨x10_13, e_x10_13, h⟩ := Ok.nm h
            refine J_istoreE (i := 10) (lv' := [(10, .int x10_13), (9, .int x9_10), (8, .int x8_9), (7, .int x7_8), (6, .int x6_7), (5, .int x5_6), (4, .int x4_5), (3, .int x3_4), (0, .ref (K.2.2 + 47)), (1, .ref (K.2.2 + 0)), (2, .ref (K.2.2 + 45))]) C e_x10_13 dL_moves_319 (Nat.le_of_ble_eq_true rfl) rfl rfl ?_
            refine J_iload (i := 7) (p := 3) C dL_moves_321 rfl rfl ?_
            refine J_iload (i := 8) (p := 2) C dL_moves_323 rfl rfl ?_
            refine J_icmp_lt (t := 343) C dL_moves_325 (by decide) rfl (fun c_39 => ?_) (fun c_39 => ?_)
            · have h := h.pos c_39
              refine J_iload (i := 10) (p := 0) C dL_moves_343 rfl rfl ?_
              refine J_ldc (v := -1000003) C ci_RL_123 dL_moves_345 rfl ?_
              refine J_icmp_ne (t := 368) C dL_moves_347 (by decide) rfl (fun c_40 => ?_) (fun c_40 => ?_)
              · have h := h.neg c_40
                refine J_iload (i := 10) (p := 0) C dL_moves_368 rfl rfl ?_
                refine J_aload_n (i := 0) (p := 8) C dL_moves_370 rfl rfl rfl ?_
                refine J_iconst (v := 4) C (by decide) dL_moves_371 rfl ?_
                refine Jl_cV (α := Int32 × Sto) (rest := [.int x10_13]) (st9 := fun p_41 => [.int p_41.1, .int x10_13]) (wd := fun p_41 => p_41.2) C hR hX cv_RL_134 (k11_count_n hl (Ok.ofnox h) (fun c hc => hc)) rfl rfl (Nat.le_of_ble_eq_true rfl) (Nat.le_of_ble_eq_true rfl) (Nat.le_of_ble_eq_true rfl) ⟨(Nat.le_of_ble_eq_true rfl), (Nat.le_of_ble_eq_true rfl)⟩ dL_moves_372 rfl (fun E n9 w9 hx => hx.elim) (fun _ => rfl) (fun p_41 h => ?_)
                have h : Ok _ _ := h
                change J X K 12 False QQ 4 24 2064 (jl K (p_38.2.1, p_41.2)) 375 [(10, .int x10_13), (9, .int x9_10), (8, .int x8_9), (7, .int x7_8), (6, .int x6_7), (5, .int x5_6), (4, .int x4_5), (3, .int x3_4), (0, .ref (K.2.2 + 47)), (1, .ref (K.2.2 + 0)), (2, .ref (K.2.2 + 45))] [.int p_41.1, .int x10_13]
                refine J_icmp_ne (t := 392) C dL_moves_375 (by decide) rfl (fun c_42 => ?_) (fun c_42 => ?_)
                · have h := h.neg c_42
                  refine J.sub [] rfl ?_
                  exact hj_392 (p_38.2.1, p_41.2) h
                · have h := h.pos (Decidable.not_not.mp c_42)
                  refine J_iload (i := 10) (p := 0) C dL_moves_378 rfl rfl ?_
                  refine J_iload (i := 8) (p := 2) C dL_moves_380 rfl rfl ?_
                  refine J_iload (i := 7) (p := 3) C dL_moves_382 rfl rfl ?_
                  refine J_isub C dL_moves_384 rfl ?_
                  refine J_icmp_lt (t := 392) C dL_moves_385 (by decide) rfl (fun c_43 => ?_) (fun c_43 => ?_)
                  · have h := h.pos c_43
                    refine J.sub [] rfl ?_
                    exact hj_392 (p_38.2.1, p_41.2) h
                  · have h := h.neg c_43
                    refine J_iconst (v := 1) C (by decide) dL_moves_388 rfl ?_
                    refine J_goto (t := 393) C dL_moves_389 (by decide) ?_
                    refine J.sub [] rfl ?_
                    exact hj_393 (p_38.2.1, p_41.2) (1 : Int32) h
              · have h := h.pos (Decidable.not_not.mp c_40)
                refine J_aload_n (i := 0) (p := 8) C dL_moves_350 rfl rfl rfl ?_
                refine J_iconst (v := 4) C (by decide) dL_moves_351 rfl ?_
                refine Jl_cV (α := Int32 × Sto) (rest := []) (st9 := fun p_44 => [.int p_44.1]) (wd := fun p_44 => p_44.2) C hR hX cv_RL_134 (k11_count_n hl (Ok.ofnox h) (fun c hc => hc)) rfl rfl (Nat.le_of_ble_eq_true rfl) (Nat.le_of_ble_eq_true rfl) (Nat.le_of_ble_eq_true rfl) ⟨(Nat.le_of_ble_eq_true rfl), (Nat.le_of_ble_eq_true rfl)⟩ dL_moves_352 rfl (fun E n9 w9 hx => hx.elim) (fun _ => rfl) (fun p_44 h => ?_)
                have h : Ok _ _ := h
                change J X K 12 False QQ 4 24 2064 (jl K (p_38.2.1, p_44.2)) 355 [(10, .int x10_13), (9, .int x9_10), (8, .int x8_9), (7, .int x7_8), (6, .int x6_7), (5, .int x5_6), (4, .int x4_5), (3, .int x3_4), (0, .ref (K.2.2 + 47)), (1, .ref (K.2.2 + 0)), (2, .ref (K.2.2 + 45))] [.int p_44.1]
                refine J_iload (i := 9) (p := 1) C dL_moves_355 rfl rfl ?_
                refine J_icmp_ne (t := 364) C dL_moves_357 (by decide) rfl (fun c_45 => ?_) (fun c_45 => ?_)
                · have h := h.neg c_45
                  refine J_iconst (v := 0) C (by decide) dL_moves_364 rfl ?_
                  refine J_goto (t := 393) C dL_moves_365 (by decide) ?_
                  refine J.sub [] rfl ?_
                  exact hj_393 (p_38.2.1, p_44.2) (0 : Int32) h
                · have h := h.pos (Decidable.not_not.mp c_45)
                  refine J_iconst (v := 1) C (by decide) dL_moves_360 rfl ?_
                  refine J_goto (t := 393) C dL_moves_361 (by decide) ?_
                  refine J.sub [] rfl ?_
                  exact hj_393 (p_38.2.1, p_44.2) (1 : Int32) h
            · have h := h.neg c_39
              refine J_iload (i := 10) (p := 0) C dL_moves_328 rfl rfl ?_
              refine J_ldc (v := -1000002) C ci_RL_120 dL_moves_330 rfl ?_
              refine J_icmp_ne (t := 339) C dL_moves_332 (by decide) rfl (fun c_46 => ?_) (fun c_46 => ?_)
              · have h := h.neg c_46
                refine J_iconst (v := 0) C (by decide) dL_moves_339 rfl ?_
                refine J_goto (t := 393) C dL_moves_340 (by decide) ?_
                refine J.sub [] rfl ?_
                exact hj_393 p_38.2 (0 : Int32) h
              · have h := h.pos (Decidable.not_not.mp c_46)
                refine J_iconst (v := 1) C (by decide) dL_moves_335 rfl ?_
                refine J_goto (t := 393) C dL_moves_336 (by decide) ?_
                refine J.sub [] rfl ?_
                exact hj_393 p_38.2 (1 : Int32) h
        · have h := h.pos (Decidable.not_not.mp c_27)
          refine J_aload_n (i := 1) (p := 5) C dL_moves_201 rfl rfl rfl ?_
          refine Jl_cS (α := Int32 × LawS) (rest := []) (st9 := fun p_47 => [.int p_47.1]) C hR hX cs_RL_8 (kL_next hl  (Ok.ofbnd h)) rfl rfl (Nat.le_of_ble_eq_true rfl) (Nat.le_of_ble_eq_true rfl) (Nat.le_of_ble_eq_true rfl) ⟨(Nat.le_of_ble_eq_true rfl), (Nat.le_of_ble_eq_true rfl)⟩ dL_moves_202 rfl (fun _ => rfl) (fun p_47 h => ?_)
          have h : Ok _ _ := h
          change J X K 12 False QQ 0 0 2064 (jl K p_47.2) 205 [(6, .int x6_7), (5, .int x5_6), (4, .int x4_5), (3, .int x3_4), (0, .ref (K.2.2 + 47)), (1, .ref (K.2.2 + 0)), (2, .ref (K.2.2 + 45))] [.int p_47.1]
          refine J_bipush (v := 16) C (by decide) dL_moves_205 rfl ?_
          refine J_irem C (by decide) dL_moves_207 rfl ?_
          obtain ⟨x7_14, e_x7_14, h⟩ := Ok.nm h
          refine J_istoreE (i := 7) (lv' := [(7, .int x7_14), (6, .int x6_7), (5, .int x5_6), (4, .int x4_5), (3, .int x3_4), (0, .ref (K.2.2 + 47)), (1, .ref (K.2.2 + 0)), (2, .ref (K.2.2 + 45))]) C e_x7_14 dL_moves_208 (Nat.le_of_ble_eq_true rfl) rfl rfl ?_
          refine J_aload_n (i := 1) (p := 6) C dL_moves_210 rfl rfl rfl ?_
          refine Jl_cS (α := Int32 × LawS) (rest := []) (st9 := fun p_48 => [.int p_48.1]) C hR hX cs_RL_8 (kL_next hl  (Ok.ofbnd h)) rfl rfl (Nat.le_of_ble_eq_true rfl) (Nat.le_of_ble_eq_true rfl) (Nat.le_of_ble_eq_true rfl) ⟨(Nat.le_of_ble_eq_true rfl), (Nat.le_of_ble_eq_true rfl)⟩ dL_moves_211 rfl (fun _ => rfl) (fun p_48 h => ?_)
          have h : Ok _ _ := h
          change J X K 12 False QQ 0 0 2064 (jl K p_48.2) 214 [(7, .int x7_14), (6, .int x6_7), (5, .int x5_6), (4, .int x4_5), (3, .int x3_4), (0, .ref (K.2.2 + 47)), (1, .ref (K.2.2 + 0)), (2, .ref (K.2.2 + 45))] [.int p_48.1]
          refine J_iconst (v := 2) C (by decide) dL_moves_214 rfl ?_
          refine J_irem C (by decide) dL_moves_215 rfl ?_
          refine J_if_ne (t := 223) C dL_moves_216 (by decide) rfl (fun c_49 => ?_) (fun c_49 => ?_)
          · have h := h.neg c_49
            refine J_iconst (v := 0) C (by decide) dL_moves_223 rfl ?_
            refine J.sub [5, 7, 1, 0] rfl ?_
            exact hj_224 p_48.2 x6_7 x7_14 (0 : Int32) h
          · have h := h.pos (Decidable.not_not.mp c_49)
            refine J_iconst (v := 1) C (by decide) dL_moves_219 rfl ?_
            refine J_goto (t := 224) C dL_moves_220 (by decide) ?_
            refine J.sub [5, 7, 1, 0] rfl ?_
            exact hj_224 p_48.2 x6_7 x7_14 (1 : Int32) h
      · have h := h.pos (Decidable.not_not.mp c_26)
        refine J_aload_n (i := 0) (p := 4) C dL_moves_161 rfl rfl rfl ?_
        refine J_bipush (v := 16) C (by decide) dL_moves_162 rfl ?_
        refine J_aload_n (i := 1) (p := 5) C dL_moves_164 rfl rfl rfl ?_
        refine Jl_cS (α := Int32 × LawS) (rest := [.int (16 : Int32), .ref (K.2.2 + 47)]) (st9 := fun p_50 => [.int p_50.1, .int (16 : Int32), .ref (K.2.2 + 47)]) C hR hX cs_RL_8 (kL_next hl  (Ok.ofbnd h)) rfl rfl (Nat.le_of_ble_eq_true rfl) (Nat.le_of_ble_eq_true rfl) (Nat.le_of_ble_eq_true rfl) ⟨(Nat.le_of_ble_eq_true rfl), (Nat.le_of_ble_eq_true rfl)⟩ dL_moves_165 rfl (fun _ => rfl) (fun p_50 h => ?_)
        have h : Ok _ _ := h
        change J X K 12 False QQ 0 0 2064 (jl K p_50.2) 168 [(6, .int x6_7), (5, .int x5_6), (4, .int x4_5), (3, .int x3_4), (0, .ref (K.2.2 + 47)), (1, .ref (K.2.2 + 0)), (2, .ref (K.2.2 + 45))] [.int p_50.1, .int (16 : Int32), .ref (K.2.2 + 47)]
        refine J_iconst (v := 5) C (by decide) dL_moves_168 rfl ?_
        refine J_irem C (by decide) dL_moves_169 rfl ?_
        refine J_aload_n (i := 1) (p := 5) C dL_moves_170 rfl rfl rfl ?_
        refine J_bipush (v := -4) C (by decide) dL_moves_171 rfl ?_
        refine J_iconst (v := 4) C (by decide) dL_moves_173 rfl ?_
        refine Jl_cS (α := Int32 × LawS) (rest := [.int (p_50.1 - p_50.1 / (5 : Int32) * (5 : Int32)), .int (16 : Int32), .ref (K.2.2 + 47)]) (st9 := fun p_51 => [.int p_51.1, .int (p_50.1 - p_50.1 / (5 : Int32) * (5 : Int32)), .int (16 : Int32), .ref (K.2.2 + 47)]) C hR hX cs_RL_137 (kL_from hl  (Ok.ofbnd h)) rfl rfl (Nat.le_of_ble_eq_true rfl) (Nat.le_of_ble_eq_true rfl) (Nat.le_of_ble_eq_true rfl) ⟨(Nat.le_of_ble_eq_true rfl), (Nat.le_of_ble_eq_true rfl)⟩ dL_moves_174 rfl (fun _ => rfl) (fun p_51 h => ?_)
        have h : Ok _ _ := h
        change J X K 12 False QQ 0 0 2064 (jl K p_51.2) 177 [(6, .int x6_7), (5, .int x5_6), (4, .int x4_5), (3, .int x3_4), (0, .ref (K.2.2 + 47)), (1, .ref (K.2.2 + 0)), (2, .ref (K.2.2 + 45))] [.int p_51.1, .int (p_50.1 - p_50.1 / (5 : Int32) * (5 : Int32)), .int (16 : Int32), .ref (K.2.2 + 47)]
        refine J_iconst (v := 0) C (by decide) dL_moves_177 rfl ?_
        refine Jl_cH (α := Int32 × LawS) (rest := []) (st9 := fun p_52 => [.int p_52.1]) C hR hX ch_RL_174 (kL_done hl  (Ok.ofbnd h)) rfl rfl (Nat.le_of_ble_eq_true rfl) (Nat.le_of_ble_eq_true rfl) (Nat.le_of_ble_eq_true rfl) ⟨(Nat.le_of_ble_eq_true rfl), (Nat.le_of_ble_eq_true rfl)⟩ dL_moves_178 rfl (fun _ => rfl) (fun p_52 h => ?_)
        have h : Ok _ _ := h
        change J X K 12 False QQ 4 24 2064 (jl K p_52.2) 181 [(6, .int x6_7), (5, .int x5_6), (4, .int x4_5), (3, .int x3_4), (0, .ref (K.2.2 + 47)), (1, .ref (K.2.2 + 0)), (2, .ref (K.2.2 + 45))] [.int p_52.1]
        refine J_aload_n (i := 0) (p := 4) C dL_moves_181 rfl rfl rfl ?_
        refine J_iconst (v := 2) C (by decide) dL_moves_182 rfl ?_
        refine Jl_cV (α := Int32 × Sto) (rest := [.int p_52.1]) (st9 := fun p_53 => [.int p_53.1, .int p_52.1]) (wd := fun p_53 => p_53.2) C hR hX cv_RL_134 (k11_count_n hl (Ok.ofnox h) (fun c hc => hc)) rfl rfl (Nat.le_of_ble_eq_true rfl) (Nat.le_of_ble_eq_true rfl) (Nat.le_of_ble_eq_true rfl) ⟨(Nat.le_of_ble_eq_true rfl), (Nat.le_of_ble_eq_true rfl)⟩ dL_moves_183 rfl (fun E n9 w9 hx => hx.elim) (fun _ => rfl) (fun p_53 h => ?_)
        have h : Ok _ _ := h
        change J X K 12 False QQ 4 24 2064 (jl K (p_52.2.1, p_53.2)) 186 [(6, .int x6_7), (5, .int x5_6), (4, .int x4_5), (3, .int x3_4), (0, .ref (K.2.2 + 47)), (1, .ref (K.2.2 + 0)), (2, .ref (K.2.2 + 45))] [.int p_53.1, .int p_52.1]
        refine J_icmp_ne (t := 193) C dL_moves_186 (by decide) rfl (fun c_54 => ?_) (fun c_54 => ?_)
        · have h := h.neg c_54
          refine J_iconst (v := 0) C (by decide) dL_moves_193 rfl ?_
          refine J.sub [] rfl ?_
          exact hj_194 (p_52.2.1, p_53.2) (0 : Int32) h
        · have h := h.pos (Decidable.not_not.mp c_54)
          refine J_iconst (v := 1) C (by decide) dL_moves_189 rfl ?_
          refine J_goto (t := 194) C dL_moves_190 (by decide) ?_
          refine J.sub [] rfl ?_
          exact hj_194 (p_52.2.1, p_53.2) (1 : Int32) h
    · have h := h.pos (Decidable.not_not.mp c_25)
      refine J_aload_n (i := 0) (p := 4) C dL_moves_82 rfl rfl rfl ?_
      refine J_iconst (v := 2) C (by decide) dL_moves_83 rfl ?_
      refine Jl_cV (α := Int32 × Sto) (rest := []) (st9 := fun p_55 => [.int p_55.1]) (wd := fun p_55 => p_55.2) C hR hX cv_RL_134 (k11_count_n hl (Ok.ofnox h) (fun c hc => hc)) rfl rfl (Nat.le_of_ble_eq_true rfl) (Nat.le_of_ble_eq_true rfl) (Nat.le_of_ble_eq_true rfl) ⟨(Nat.le_of_ble_eq_true rfl), (Nat.le_of_ble_eq_true rfl)⟩ dL_moves_84 rfl (fun E n9 w9 hx => hx.elim) (fun _ => rfl) (fun p_55 h => ?_)
      have h : Ok _ _ := h
      change J X K 12 False QQ 0 0 2064 (jl K (p_22.2.1, p_55.2)) 87 [(6, .int x6_7), (5, .int x5_6), (4, .int x4_5), (3, .int x3_4), (0, .ref (K.2.2 + 47)), (1, .ref (K.2.2 + 0)), (2, .ref (K.2.2 + 45))] [.int p_55.1]
      obtain ⟨x7_15, e_x7_15, h⟩ := Ok.nm h
      refine J_istoreE (i := 7) (lv' := [(7, .int x7_15), (6, .int x6_7), (5, .int x5_6), (4, .int x4_5), (3, .int x3_4), (0, .ref (K.2.2 + 47)), (1, .ref (K.2.2 + 0)), (2, .ref (K.2.2 + 45))]) C e_x7_15 dL_moves_87 (Nat.le_of_ble_eq_true rfl) rfl rfl ?_
      refine J_aload_n (i := 0) (p := 5) C dL_moves_89 rfl rfl rfl ?_
      refine J_bipush (v := 15) C (by decide) dL_moves_90 rfl ?_
      refine J_iload (i := 6) (p := 1) C dL_moves_92 rfl rfl ?_
      refine J_iconst (v := 0) C (by decide) dL_moves_94 rfl ?_
      refine J_iconst (v := 0) C (by decide) dL_moves_95 rfl ?_
      refine Jl_cH (α := Int32 × LawS) (rest := []) (st9 := fun p_56 => [.int p_56.1]) C hR hX ch_RL_174 (kL_done hl  (Ok.ofbnd h)) rfl rfl (Nat.le_of_ble_eq_true rfl) (Nat.le_of_ble_eq_true rfl) (Nat.le_of_ble_eq_true rfl) ⟨(Nat.le_of_ble_eq_true rfl), (Nat.le_of_ble_eq_true rfl)⟩ dL_moves_96 rfl (fun _ => rfl) (fun p_56 h => ?_)
      have h : Ok _ _ := h
      change J X K 12 False QQ 4 24 2064 (jl K p_56.2) 99 [(7, .int x7_15), (6, .int x6_7), (5, .int x5_6), (4, .int x4_5), (3, .int x3_4), (0, .ref (K.2.2 + 47)), (1, .ref (K.2.2 + 0)), (2, .ref (K.2.2 + 45))] [.int p_56.1]
      obtain ⟨x8_16, e_x8_16, h⟩ := Ok.nm h
      refine J_istoreE (i := 8) (lv' := [(8, .int x8_16), (7, .int x7_15), (6, .int x6_7), (5, .int x5_6), (4, .int x4_5), (3, .int x3_4), (0, .ref (K.2.2 + 47)), (1, .ref (K.2.2 + 0)), (2, .ref (K.2.2 + 45))]) C e_x8_16 dL_moves_99 (Nat.le_of_ble_eq_true rfl) rfl rfl ?_
      refine J_iload (i := 8) (p := 0) C dL_moves_101 rfl rfl ?_
      refine J_ldc (v := -1000003) C ci_RL_123 dL_moves_103 rfl ?_
      refine J_icmp_ne (t := 123) C dL_moves_105 (by decide) rfl (fun c_57 => ?_) (fun c_57 => ?_)
      · have h := h.neg c_57
        refine J_iload (i := 8) (p := 0) C dL_moves_123 rfl rfl ?_
        refine J_aload_n (i := 0) (p := 6) C dL_moves_125 rfl rfl rfl ?_
        refine J_iconst (v := 2) C (by decide) dL_moves_126 rfl ?_
        refine Jl_cV (α := Int32 × Sto) (rest := [.int x8_16]) (st9 := fun p_58 => [.int p_58.1, .int x8_16]) (wd := fun p_58 => p_58.2) C hR hX cv_RL_134 (k11_count_n hl (Ok.ofnox h) (fun c hc => hc)) rfl rfl (Nat.le_of_ble_eq_true rfl) (Nat.le_of_ble_eq_true rfl) (Nat.le_of_ble_eq_true rfl) ⟨(Nat.le_of_ble_eq_true rfl), (Nat.le_of_ble_eq_true rfl)⟩ dL_moves_127 rfl (fun E n9 w9 hx => hx.elim) (fun _ => rfl) (fun p_58 h => ?_)
        have h : Ok _ _ := h
        change J X K 12 False QQ 4 24 2064 (jl K (p_56.2.1, p_58.2)) 130 [(8, .int x8_16), (7, .int x7_15), (6, .int x6_7), (5, .int x5_6), (4, .int x4_5), (3, .int x3_4), (0, .ref (K.2.2 + 47)), (1, .ref (K.2.2 + 0)), (2, .ref (K.2.2 + 45))] [.int p_58.1, .int x8_16]
        refine J_icmp_ne (t := 153) C dL_moves_130 (by decide) rfl (fun c_59 => ?_) (fun c_59 => ?_)
        · have h := h.neg c_59
          refine J.sub [] rfl ?_
          exact hj_153 (p_56.2.1, p_58.2) h
        · have h := h.pos (Decidable.not_not.mp c_59)
          refine J_iload (i := 8) (p := 0) C dL_moves_133 rfl rfl ?_
          refine J_iload (i := 7) (p := 1) C dL_moves_135 rfl rfl ?_
          refine J_icmp_lt (t := 153) C dL_moves_137 (by decide) rfl (fun c_60 => ?_) (fun c_60 => ?_)
          · have h := h.pos c_60
            refine J.sub [] rfl ?_
            exact hj_153 (p_56.2.1, p_58.2) h
          · have h := h.neg c_60
            refine J_iload (i := 8) (p := 0) C dL_moves_140 rfl rfl ?_
            refine J_iload (i := 7) (p := 1) C dL_moves_142 rfl rfl ?_
            refine J_iconst (v := 1) C (by decide) dL_moves_144 rfl ?_
            refine J_iadd C dL_moves_145 rfl ?_
            refine J_icmp_gt (t := 153) C dL_moves_146 (by decide) rfl (fun c_61 => ?_) (fun c_61 => ?_)
            · have h := h.pos c_61
              refine J.sub [] rfl ?_
              exact hj_153 (p_56.2.1, p_58.2) h
            · have h := h.neg c_61
              refine J_iconst (v := 1) C (by decide) dL_moves_149 rfl ?_
              refine J_goto (t := 154) C dL_moves_150 (by decide) ?_
              refine J.sub [] rfl ?_
              exact hj_154 (p_56.2.1, p_58.2) (1 : Int32) h
      · have h := h.pos (Decidable.not_not.mp c_57)
        refine J_iload (i := 7) (p := 1) C dL_moves_108 rfl rfl ?_
        refine J_bipush (v := 8) C (by decide) dL_moves_110 rfl ?_
        refine J_icmp_ne (t := 119) C dL_moves_112 (by decide) rfl (fun c_62 => ?_) (fun c_62 => ?_)
        · have h := h.neg c_62
          refine J_iconst (v := 0) C (by decide) dL_moves_119 rfl ?_
          refine J_goto (t := 154) C dL_moves_120 (by decide) ?_
          refine J.sub [] rfl ?_
          exact hj_154 p_56.2 (0 : Int32) h
        · have h := h.pos (Decidable.not_not.mp c_62)
          refine J_iconst (v := 1) C (by decide) dL_moves_115 rfl ?_
          refine J_goto (t := 154) C dL_moves_116 (by decide) ?_
          refine J.sub [] rfl ?_
          exact hj_154 p_56.2 (1 : Int32) h
  · have h := h.pos (Decidable.not_not.mp c_24)
    refine J_aload_n (i := 0) (p := 4) C dL_moves_37 rfl rfl rfl ?_
    refine J_bipush (v := 14) C (by decide) dL_moves_38 rfl ?_
    refine J_iload (i := 6) (p := 0) C dL_moves_40 rfl rfl ?_
    refine J_iconst (v := 0) C (by decide) dL_moves_42 rfl ?_
    refine J_iconst (v := 0) C (by decide) dL_moves_43 rfl ?_
    refine Jl_cH (α := Int32 × LawS) (rest := []) (st9 := fun p_63 => [.int p_63.1]) C hR hX ch_RL_174 (kL_done hl  (Ok.ofbnd h)) rfl rfl (Nat.le_of_ble_eq_true rfl) (Nat.le_of_ble_eq_true rfl) (Nat.le_of_ble_eq_true rfl) ⟨(Nat.le_of_ble_eq_true rfl), (Nat.le_of_ble_eq_true rfl)⟩ dL_moves_44 rfl (fun _ => rfl) (fun p_63 h => ?_)
    have h : Ok _ _ := h
    change J X K 12 False QQ 4 24 2064 (jl K p_63.2) 47 [(6, .int x6_7), (5, .int x5_6), (4, .int x4_5), (3, .int x3_4), (0, .ref (K.2.2 + 47)), (1, .ref (K.2.2 + 0)), (2, .ref (K.2.2 + 45))] [.int p_63.1]
    refine J_iconst (v := 1) C (by decide) dL_moves_47 rfl ?_
    refine J_icmp_lt (t := 74) C dL_moves_48 (by decide) rfl (fun c_64 => ?_) (fun c_64 => ?_)
    · have h := h.pos c_64
      refine J.sub [] rfl ?_
      exact hj_74 p_63.2 h
    · have h := h.neg c_64
      refine J_aload_n (i := 0) (p := 4) C dL_moves_51 rfl rfl rfl ?_
      refine J_iconst (v := 2) C (by decide) dL_moves_52 rfl ?_
      refine Jl_cV (α := Int32 × Sto) (rest := []) (st9 := fun p_65 => [.int p_65.1]) (wd := fun p_65 => p_65.2) C hR hX cv_RL_134 (k11_count_n hl (Ok.ofnox h) (fun c hc => hc)) rfl rfl (Nat.le_of_ble_eq_true rfl) (Nat.le_of_ble_eq_true rfl) (Nat.le_of_ble_eq_true rfl) ⟨(Nat.le_of_ble_eq_true rfl), (Nat.le_of_ble_eq_true rfl)⟩ dL_moves_53 rfl (fun E n9 w9 hx => hx.elim) (fun _ => rfl) (fun p_65 h => ?_)
      have h : Ok _ _ := h
      change J X K 12 False QQ 4 24 2064 (jl K (p_63.2.1, p_65.2)) 56 [(6, .int x6_7), (5, .int x5_6), (4, .int x4_5), (3, .int x3_4), (0, .ref (K.2.2 + 47)), (1, .ref (K.2.2 + 0)), (2, .ref (K.2.2 + 45))] [.int p_65.1]
      refine J_iconst (v := 1) C (by decide) dL_moves_56 rfl ?_
      refine J_icmp_ne (t := 74) C dL_moves_57 (by decide) rfl (fun c_66 => ?_) (fun c_66 => ?_)
      · have h := h.neg c_66
        refine J.sub [] rfl ?_
        exact hj_74 (p_63.2.1, p_65.2) h
      · have h := h.pos (Decidable.not_not.mp c_66)
        refine J_aload_n (i := 0) (p := 4) C dL_moves_60 rfl rfl rfl ?_
        refine J_iconst (v := 0) C (by decide) dL_moves_61 rfl ?_
        refine Jl_cV (α := Int32 × Sto) (rest := []) (st9 := fun p_67 => [.int p_67.1]) (wd := fun p_67 => p_67.2) C hR hX cv_RL_141 (k11_cursorAt_n hl (Ok.ofnox h) (fun c hc => hc)) rfl rfl (Nat.le_of_ble_eq_true rfl) (Nat.le_of_ble_eq_true rfl) (Nat.le_of_ble_eq_true rfl) ⟨(Nat.le_of_ble_eq_true rfl), (Nat.le_of_ble_eq_true rfl)⟩ dL_moves_62 rfl (fun E n9 w9 hx => hx.elim) (fun _ => rfl) (fun p_67 h => ?_)
        have h : Ok _ _ := h
        change J X K 12 False QQ 4 24 2064 (jl K (p_63.2.1, p_67.2)) 65 [(6, .int x6_7), (5, .int x5_6), (4, .int x4_5), (3, .int x3_4), (0, .ref (K.2.2 + 47)), (1, .ref (K.2.2 + 0)), (2, .ref (K.2.2 + 45))] [.int p_67.1]
        refine J_iload (i := 6) (p := 0) C dL_moves_65 rfl rfl ?_
        refine J_icmp_ne (t := 74) C dL_moves_67 (by decide) rfl (fun c_68 => ?_) (fun c_68 => ?_)
        · have h := h.neg c_68
          refine J.sub [] rfl ?_
          exact hj_74 (p_63.2.1, p_67.2) h
        · have h := h.pos (Decidable.not_not.mp c_68)
          refine J_iconst (v := 1) C (by decide) dL_moves_70 rfl ?_
          refine J_goto (t := 75) C dL_moves_71 (by decide) ?_
          refine J.sub [] rfl ?_
          exact hj_75 (p_63.2.1, p_67.2) (1 : Int32) h
set_option maxHeartbeats 4000000 in
set_option maxRecDepth 100000 in
theorem kL_goesBack {l : Launch} {K : JK} (hl : l.stackTraces = false) {τ : LawS}   {Qf : Int32 × LawS → Prop} (h : Ok (fL_goesBack τ) Qf) : Con l K yL_goesBack (.code yL_goesBack cL_goesBack 12 (some .boolean) :: TB) 11 580 3480 False [.ref (K.2.2 + 47), .ref (K.2.2 + 0), .ref (K.2.2 + 1), .ref (K.2.2 + 42), .ref (K.2.2 + 43), .ref (K.2.2 + 45)] 2064 (jl K τ) (PL Qf (fun p => some (.int p.1)) (fun p => jl K p.2)) PN := by
  refine Con.enter (own := RL) hl (by decide) rfl (Nat.le_of_ble_eq_true rfl) ?_
  intro X hX hR C hret hnt
  generalize hQQ : jQ X K 580 3480 (PL Qf (fun p => some (.int p.1)) (fun p => jl K p.2)) PN False = QQ
  change J X K 12 False QQ 0 0 2064 (jl K τ) 0 [(0, .ref (K.2.2 + 47)), (1, .ref (K.2.2 + 0)), (2, .ref (K.2.2 + 1)), (3, .ref (K.2.2 + 42)), (4, .ref (K.2.2 + 43)), (5, .ref (K.2.2 + 45))] []
  have hj_416 : (∀ (τ_416 : LawS) (s0_416 : Int32), Ok (fL_goesBack_j416 τ_416 s0_416) Qf → J X K 12 False QQ 580 3480 2064 (jl K τ_416) 416 [] [.int s0_416]) := by
    intro τ_416 s0_416 h
    unfold fL_goesBack_j416 at h
    obtain ⟨g_1, h⟩ := Ok.ofgd h
    rw [← hQQ]
    exact J_zret C hret (narB g_1).1 (Nat.le_of_ble_eq_true rfl) (Nat.le_of_ble_eq_true rfl) ⟨_, h.osome, rfl, rfl, rfl⟩ dL_goesBack_416
  have hj_415 : (∀ (τ_415 : LawS), Ok (fL_goesBack_j415 τ_415) Qf → J X K 12 False QQ 580 3480 2064 (jl K τ_415) 415 [] []) := by
    intro τ_415 h
    unfold fL_goesBack_j415 at h
    refine J_iconst (v := 0) C (by decide) dL_goesBack_415 rfl ?_
    exact hj_416 τ_415 (0 : Int32) h
  have hj_411 : (∀ (τ_411 : LawS), Ok (fL_goesBack_j411 τ_411) Qf → J X K 12 False QQ 580 3480 2064 (jl K τ_411) 411 [] []) := by
    intro τ_411 h
    unfold fL_goesBack_j411 at h
    refine J_iconst (v := 1) C (by decide) dL_goesBack_411 rfl ?_
    refine J_goto (t := 416) C dL_goesBack_412 (by decide) ?_
    exact hj_416 τ_411 (1 : Int32) h
  have hj_341 : (∀ (τ_341 : LawS), Ok (fL_goesBack_j341 τ_341) Qf → J X K 12 False QQ 572 3432 2064 (jl K τ_341) 341 [] []) := by
    intro τ_341 h
    unfold fL_goesBack_j341 at h
    refine J_iconst (v := 0) C (by decide) dL_goesBack_341 rfl ?_
    rw [← hQQ]
    exact J_zret C hret rfl (Nat.le_of_ble_eq_true rfl) (Nat.le_of_ble_eq_true rfl) ⟨_, h.osome, rfl, rfl, rfl⟩ dL_goesBack_342
  have hj_306 : (∀ (τ_306 : LawS) (l8_306 : Int32) (l9_306 : Int32), Ok (fL_goesBack_j306 τ_306 l8_306 l9_306) Qf → J X K 12 False QQ 528 3168 2064 (jl K τ_306) 306 [(0, .ref (K.2.2 + 47)), (2, .ref (K.2.2 + 1)), (3, .ref (K.2.2 + 42)), (8, .int l8_306), (9, .int l9_306)] []) := by
    intro τ_306 l8_306 l9_306 h
    unfold fL_goesBack_j306 at h
    refine loop_room (S := LawS × Int32) (P := fun m_306 s_306 => ∀ k_306 : Nat, k_306 + m_306 * 4 ≤ 572 → J X K 12 False QQ k_306 (6 * k_306) 2064 (jl K s_306.1) 306 [(0, .ref (K.2.2 + 47)), (2, .ref (K.2.2 + 1)), (3, .ref (K.2.2 + 42)), (8, .int l8_306), (9, .int s_306.2)] []) ?_ 11 (τ_306, l9_306) (Ok.ofbnd h) 528 (by omega)
    intro m_306 B_306 hB_306 hE_306 s_306 h k_306 hk_306
    obtain ⟨τ_306, l9_306⟩ := s_306
    have h : Ok (fL_goesBack_b306 τ_306 l8_306 l9_306) B_306 := h
    change J X K 12 False QQ k_306 (6 * k_306) 2064 (jl K τ_306) 306 [(0, .ref (K.2.2 + 47)), (2, .ref (K.2.2 + 1)), (3, .ref (K.2.2 + 42)), (8, .int l8_306), (9, .int l9_306)] []
    unfold fL_goesBack_b306 at h
    refine J_iload (i := 9) (p := 4) C dL_goesBack_306 rfl rfl ?_
    refine J_iload (i := 8) (p := 3) C dL_goesBack_308 rfl rfl ?_
    refine J_icmp_gt (t := 349) C dL_goesBack_310 (by decide) rfl (fun c_2 => ?_) (fun c_2 => ?_)
    · have h := h.pos c_2
      have h := hE_306 (Sum.inl τ_306) h.osome
      try dsimp only at h
      refine J.widen (k' := 572) (sl' := 3432) (by omega) (by omega) ?_
      refine J_iload (i := 8) (p := 3) C dL_goesBack_349 rfl rfl ?_
      refine J_if_eq (t := 411) C dL_goesBack_351 (by decide) rfl (fun c_3 => ?_) (fun c_3 => ?_)
      · have h := h.pos c_3
        refine J.widen (k' := 580) (sl' := 3480) (Nat.le_of_ble_eq_true rfl) (Nat.le_of_ble_eq_true rfl) ?_
        refine J.sub [] rfl ?_
        exact hj_411 τ_306 h
      · have h := h.neg c_3
        refine J_aload_n (i := 0) (p := 0) C dL_goesBack_354 rfl rfl rfl ?_
        refine J_bipush (v := 10) C (by decide) dL_goesBack_355 rfl ?_
        refine J_iload (i := 8) (p := 3) C dL_goesBack_357 rfl rfl ?_
        refine J_iconst (v := 0) C (by decide) dL_goesBack_359 rfl ?_
        refine J_iconst (v := 0) C (by decide) dL_goesBack_360 rfl ?_
        refine Jl_cH (α := Int32 × LawS) (rest := []) (st9 := fun p_4 => [.int p_4.1]) C hR hX ch_RL_174 (kL_done hl  (Ok.ofbnd h)) rfl rfl (Nat.le_of_ble_eq_true rfl) (Nat.le_of_ble_eq_true rfl) (Nat.le_of_ble_eq_true rfl) ⟨(Nat.le_of_ble_eq_true rfl), (Nat.le_of_ble_eq_true rfl)⟩ dL_goesBack_361 rfl (fun _ => rfl) (fun p_4 h => ?_)
        have h : Ok _ _ := h
        change J X K 12 False QQ 576 3456 2064 (jl K p_4.2) 364 [(0, .ref (K.2.2 + 47)), (2, .ref (K.2.2 + 1)), (3, .ref (K.2.2 + 42)), (8, .int l8_306), (9, .int l9_306)] [.int p_4.1]
        refine J_iload (i := 8) (p := 3) C dL_goesBack_364 rfl rfl ?_
        refine J_icmp_ne (t := 415) C dL_goesBack_366 (by decide) rfl (fun c_5 => ?_) (fun c_5 => ?_)
        · have h := h.neg c_5
          refine J.widen (k' := 580) (sl' := 3480) (Nat.le_of_ble_eq_true rfl) (Nat.le_of_ble_eq_true rfl) ?_
          refine J.sub [] rfl ?_
          exact hj_415 p_4.2 h
        · have h := h.pos (Decidable.not_not.mp c_5)
          refine J_aload_n (i := 0) (p := 0) C dL_goesBack_369 rfl rfl rfl ?_
          refine J_aload_n (i := 2) (p := 1) C dL_goesBack_370 rfl rfl rfl ?_
          refine J_bipush (v := 20) C (by decide) dL_goesBack_371 rfl ?_
          refine Jl_aald (r2 := 22) C rfl (by decide) dL_goesBack_373 rfl ?_
          refine J_aload_n (i := 3) (p := 2) C dL_goesBack_374 rfl rfl rfl ?_
          refine Jl_cS (α := Int32 × LawS) (rest := []) (st9 := fun p_6 => [.int p_6.1]) C hR hX cs_RL_178 (kL_isLike hl rfl (Ok.ofbnd h)) rfl rfl (Nat.le_of_ble_eq_true rfl) (Nat.le_of_ble_eq_true rfl) (Nat.le_of_ble_eq_true rfl) ⟨(Nat.le_of_ble_eq_true rfl), (Nat.le_of_ble_eq_true rfl)⟩ dL_goesBack_375 rfl (fun _ => rfl) (fun p_6 h => ?_)
          have h : Ok _ _ := h
          change J X K 12 False QQ 576 3456 2064 (jl K p_6.2) 378 [(0, .ref (K.2.2 + 47)), (2, .ref (K.2.2 + 1)), (3, .ref (K.2.2 + 42)), (8, .int l8_306), (9, .int l9_306)] [.int p_6.1]
          refine J_if_eq (t := 415) C dL_goesBack_378 (by decide) rfl (fun c_7 => ?_) (fun c_7 => ?_)
          · have h := h.pos c_7
            refine J.widen (k' := 580) (sl' := 3480) (Nat.le_of_ble_eq_true rfl) (Nat.le_of_ble_eq_true rfl) ?_
            refine J.sub [] rfl ?_
            exact hj_415 p_6.2 h
          · have h := h.neg c_7
            refine J_aload_n (i := 0) (p := 0) C dL_goesBack_381 rfl rfl rfl ?_
            refine J_bipush (v := 11) C (by decide) dL_goesBack_382 rfl ?_
            refine J_iload (i := 8) (p := 3) C dL_goesBack_384 rfl rfl ?_
            refine J_iconst (v := 0) C (by decide) dL_goesBack_386 rfl ?_
            refine J_iconst (v := 0) C (by decide) dL_goesBack_387 rfl ?_
            refine Jl_cH (α := Int32 × LawS) (rest := []) (st9 := fun p_8 => [.int p_8.1]) C hR hX ch_RL_174 (kL_done hl  (Ok.ofbnd h)) rfl rfl (Nat.le_of_ble_eq_true rfl) (Nat.le_of_ble_eq_true rfl) (Nat.le_of_ble_eq_true rfl) ⟨(Nat.le_of_ble_eq_true rfl), (Nat.le_of_ble_eq_true rfl)⟩ dL_goesBack_388 rfl (fun _ => rfl) (fun p_8 h => ?_)
            have h : Ok _ _ := h
            change J X K 12 False QQ 580 3480 2064 (jl K p_8.2) 391 [(0, .ref (K.2.2 + 47)), (2, .ref (K.2.2 + 1)), (3, .ref (K.2.2 + 42)), (8, .int l8_306), (9, .int l9_306)] [.int p_8.1]
            refine J_iload (i := 8) (p := 3) C dL_goesBack_391 rfl rfl ?_
            refine J_icmp_ne (t := 415) C dL_goesBack_393 (by decide) rfl (fun c_9 => ?_) (fun c_9 => ?_)
            · have h := h.neg c_9
              refine J.sub [] rfl ?_
              exact hj_415 p_8.2 h
            · have h := h.pos (Decidable.not_not.mp c_9)
              refine J_aload_n (i := 0) (p := 0) C dL_goesBack_396 rfl rfl rfl ?_
              refine J_aload_n (i := 2) (p := 1) C dL_goesBack_397 rfl rfl rfl ?_
              refine J_bipush (v := 20) C (by decide) dL_goesBack_398 rfl ?_
              refine J_iload (i := 8) (p := 3) C dL_goesBack_400 rfl rfl ?_
              refine J_iadd C dL_goesBack_402 rfl ?_
              obtain ⟨g_10, h⟩ := Ok.ofgd h
              refine Jl_aald (r2 := 2 + Int32.toNatClampNeg ((20 : Int32) + l8_306)) C rfl g_10 dL_goesBack_403 rfl ?_
              refine J_aload_n (i := 3) (p := 2) C dL_goesBack_404 rfl rfl rfl ?_
              refine Jl_cS (α := Int32 × LawS) (rest := []) (st9 := fun p_11 => [.int p_11.1]) C hR hX cs_RL_178 (kL_isLike hl (kl_row g_10) (Ok.ofbnd h)) rfl rfl (Nat.le_of_ble_eq_true rfl) (Nat.le_of_ble_eq_true rfl) (Nat.le_of_ble_eq_true rfl) ⟨(Nat.le_of_ble_eq_true rfl), (Nat.le_of_ble_eq_true rfl)⟩ dL_goesBack_405 rfl (fun _ => rfl) (fun p_11 h => ?_)
              have h : Ok _ _ := h
              change J X K 12 False QQ 580 3480 2064 (jl K p_11.2) 408 [(0, .ref (K.2.2 + 47)), (2, .ref (K.2.2 + 1)), (3, .ref (K.2.2 + 42)), (8, .int l8_306), (9, .int l9_306)] [.int p_11.1]
              refine J_if_eq (t := 415) C dL_goesBack_408 (by decide) rfl (fun c_12 => ?_) (fun c_12 => ?_)
              · have h := h.pos c_12
                refine J.sub [] rfl ?_
                exact hj_415 p_11.2 h
              · have h := h.neg c_12
                refine J.sub [] rfl ?_
                exact hj_411 p_11.2 h
    · have h := h.neg c_2
      refine J_aload_n (i := 0) (p := 0) C dL_goesBack_313 rfl rfl rfl ?_
      refine J_bipush (v := 11) C (by decide) dL_goesBack_314 rfl ?_
      refine J_iconst (v := 1) C (by decide) dL_goesBack_316 rfl ?_
      refine J_iconst (v := 0) C (by decide) dL_goesBack_317 rfl ?_
      refine J_iconst (v := 0) C (by decide) dL_goesBack_318 rfl ?_
      refine Jl_cH (α := Int32 × LawS) (rest := []) (st9 := fun p_13 => [.int p_13.1]) C hR hX ch_RL_174 (kL_done hl  (Ok.ofbnd h)) rfl rfl (Nat.le_of_ble_eq_true rfl) (Nat.le_of_ble_eq_true rfl) (Nat.le_of_ble_eq_true rfl) ⟨(by omega), (by omega)⟩ dL_goesBack_319 rfl (fun _ => rfl) (fun p_13 h => ?_)
      have h : Ok _ _ := h
      refine J.widen (k' := (k_306 + 4)) (sl' := (6 * (k_306 + 4))) (by omega) (by omega) ?_
      change J X K 12 False QQ (k_306 + 4) (6 * (k_306 + 4)) 2064 (jl K p_13.2) 322 [(0, .ref (K.2.2 + 47)), (2, .ref (K.2.2 + 1)), (3, .ref (K.2.2 + 42)), (8, .int l8_306), (9, .int l9_306)] [.int p_13.1]
      refine J_iconst (v := 1) C (by decide) dL_goesBack_322 rfl ?_
      refine J_icmp_ne (t := 341) C dL_goesBack_323 (by decide) rfl (fun c_14 => ?_) (fun c_14 => ?_)
      · have h := h.neg c_14
        have h := hE_306 (Sum.inr p_13.2) h.osome
        try dsimp only at h
        refine J.widen (k' := 572) (sl' := 3432) (by omega) (by omega) ?_
        refine J.sub [] rfl ?_
        exact hj_341 p_13.2 h
      · have h := h.pos (Decidable.not_not.mp c_14)
        refine J_aload_n (i := 0) (p := 0) C dL_goesBack_326 rfl rfl rfl ?_
        refine J_aload_n (i := 2) (p := 1) C dL_goesBack_327 rfl rfl rfl ?_
        refine J_bipush (v := 20) C (by decide) dL_goesBack_328 rfl ?_
        refine J_iload (i := 9) (p := 4) C dL_goesBack_330 rfl rfl ?_
        refine J_iadd C dL_goesBack_332 rfl ?_
        obtain ⟨g_15, h⟩ := Ok.ofgd h
        refine Jl_aald (r2 := 2 + Int32.toNatClampNeg ((20 : Int32) + l9_306)) C rfl g_15 dL_goesBack_333 rfl ?_
        refine J_aload_n (i := 3) (p := 2) C dL_goesBack_334 rfl rfl rfl ?_
        refine Jl_cS (α := Int32 × LawS) (rest := []) (st9 := fun p_16 => [.int p_16.1]) C hR hX cs_RL_178 (kL_isLike hl (kl_row g_15) (Ok.ofbnd h)) rfl rfl (Nat.le_of_ble_eq_true rfl) (Nat.le_of_ble_eq_true rfl) (Nat.le_of_ble_eq_true rfl) ⟨(by omega), (by omega)⟩ dL_goesBack_335 rfl (fun _ => rfl) (fun p_16 h => ?_)
        have h : Ok _ _ := h
        change J X K 12 False QQ (k_306 + 4) (6 * (k_306 + 4)) 2064 (jl K p_16.2) 338 [(0, .ref (K.2.2 + 47)), (2, .ref (K.2.2 + 1)), (3, .ref (K.2.2 + 42)), (8, .int l8_306), (9, .int l9_306)] [.int p_16.1]
        refine J_if_ne (t := 343) C dL_goesBack_338 (by decide) rfl (fun c_17 => ?_) (fun c_17 => ?_)
        · have h := h.neg c_17
          obtain ⟨x9_1, e_x9_1, h⟩ := Ok.nm h
          refine J_iincE (i := 9) (p := 4) (lv' := [(9, .int x9_1), (0, .ref (K.2.2 + 47)), (2, .ref (K.2.2 + 1)), (3, .ref (K.2.2 + 42)), (8, .int l8_306)]) C e_x9_1 dL_goesBack_343 rfl (by decide) (Nat.le_of_ble_eq_true rfl) rfl rfl ?_
          refine J_goto (t := 306) C dL_goesBack_346 (by decide) ?_
          refine J.sub [1, 2, 3, 4, 0] rfl ?_
          exact hB_306 (p_16.2, x9_1) h.osome (k_306 + 4) (by omega)
        · have h := h.pos (Decidable.not_not.mp c_17)
          have h := hE_306 (Sum.inr p_16.2) h.osome
          try dsimp only at h
          refine J.widen (k' := 572) (sl' := 3432) (by omega) (by omega) ?_
          refine J.sub [] rfl ?_
          exact hj_341 p_16.2 h
  have hj_295 : (∀ (τ_295 : LawS), Ok (fL_goesBack_j295 τ_295) Qf → J X K 12 False QQ 528 3168 2064 (jl K τ_295) 295 [] []) := by
    intro τ_295 h
    unfold fL_goesBack_j295 at h
    refine J_iconst (v := 0) C (by decide) dL_goesBack_295 rfl ?_
    rw [← hQQ]
    exact J_zret C hret rfl (Nat.le_of_ble_eq_true rfl) (Nat.le_of_ble_eq_true rfl) ⟨_, h.osome, rfl, rfl, rfl⟩ dL_goesBack_296
  have hj_250 : (∀ (τ_250 : LawS), Ok (fL_goesBack_j250 τ_250) Qf → J X K 12 False QQ 528 3168 2064 (jl K τ_250) 250 [] []) := by
    intro τ_250 h
    unfold fL_goesBack_j250 at h
    refine J_iconst (v := 0) C (by decide) dL_goesBack_250 rfl ?_
    rw [← hQQ]
    exact J_zret C hret rfl (Nat.le_of_ble_eq_true rfl) (Nat.le_of_ble_eq_true rfl) ⟨_, h.osome, rfl, rfl, rfl⟩ dL_goesBack_251
  have hj_218 : (∀ (τ_218 : LawS) (l6_218 : Int32) (l8_218 : Int32) (l9_218 : Int32), Ok (fL_goesBack_j218 τ_218 l6_218 l8_218 l9_218) Qf → J X K 12 False QQ 484 2904 2064 (jl K τ_218) 218 [(0, .ref (K.2.2 + 47)), (2, .ref (K.2.2 + 1)), (3, .ref (K.2.2 + 42)), (6, .int l6_218), (8, .int l8_218), (9, .int l9_218)] []) := by
    intro τ_218 l6_218 l8_218 l9_218 h
    unfold fL_goesBack_j218 at h
    refine loop_room (S := LawS × Int32) (P := fun m_218 s_218 => ∀ k_218 : Nat, k_218 + m_218 * 4 ≤ 528 → J X K 12 False QQ k_218 (6 * k_218) 2064 (jl K s_218.1) 218 [(0, .ref (K.2.2 + 47)), (2, .ref (K.2.2 + 1)), (3, .ref (K.2.2 + 42)), (6, .int l6_218), (8, .int l8_218), (9, .int s_218.2)] []) ?_ 11 (τ_218, l9_218) (Ok.ofbnd h) 484 (by omega)
    intro m_218 B_218 hB_218 hE_218 s_218 h k_218 hk_218
    obtain ⟨τ_218, l9_218⟩ := s_218
    have h : Ok (fL_goesBack_b218 τ_218 l6_218 l8_218 l9_218) B_218 := h
    change J X K 12 False QQ k_218 (6 * k_218) 2064 (jl K τ_218) 218 [(0, .ref (K.2.2 + 47)), (2, .ref (K.2.2 + 1)), (3, .ref (K.2.2 + 42)), (6, .int l6_218), (8, .int l8_218), (9, .int l9_218)] []
    unfold fL_goesBack_b218 at h
    refine J_iload (i := 9) (p := 5) C dL_goesBack_218 rfl rfl ?_
    refine J_if_le (t := 303) C dL_goesBack_220 (by decide) rfl (fun c_28 => ?_) (fun c_28 => ?_)
    · have h := h.pos c_28
      have h := hE_218 (Sum.inl τ_218) h.osome
      try dsimp only at h
      refine J.widen (k' := 528) (sl' := 3168) (by omega) (by omega) ?_
      refine J_iconst (v := 1) C (by decide) dL_goesBack_303 rfl ?_
      obtain ⟨x9_2, e_x9_2, h⟩ := Ok.nm h
      refine J_istoreE (i := 9) (lv' := [(9, .int x9_2), (0, .ref (K.2.2 + 47)), (2, .ref (K.2.2 + 1)), (3, .ref (K.2.2 + 42)), (6, .int l6_218), (8, .int l8_218)]) C e_x9_2 dL_goesBack_304 (Nat.le_of_ble_eq_true rfl) rfl rfl ?_
      refine J.sub [1, 2, 3, 5, 0] rfl ?_
      exact hj_306 τ_218 l8_218 x9_2 h
    · have h := h.neg c_28
      refine J_aload_n (i := 0) (p := 0) C dL_goesBack_223 rfl rfl rfl ?_
      refine J_bipush (v := 10) C (by decide) dL_goesBack_224 rfl ?_
      refine J_iconst (v := 1) C (by decide) dL_goesBack_226 rfl ?_
      refine J_iconst (v := 0) C (by decide) dL_goesBack_227 rfl ?_
      refine J_iconst (v := 0) C (by decide) dL_goesBack_228 rfl ?_
      refine Jl_cH (α := Int32 × LawS) (rest := []) (st9 := fun p_29 => [.int p_29.1]) C hR hX ch_RL_174 (kL_done hl  (Ok.ofbnd h)) rfl rfl (Nat.le_of_ble_eq_true rfl) (Nat.le_of_ble_eq_true rfl) (Nat.le_of_ble_eq_true rfl) ⟨(by omega), (by omega)⟩ dL_goesBack_229 rfl (fun _ => rfl) (fun p_29 h => ?_)
      have h : Ok _ _ := h
      refine J.widen (k' := (k_218 + 4)) (sl' := (6 * (k_218 + 4))) (by omega) (by omega) ?_
      change J X K 12 False QQ (k_218 + 4) (6 * (k_218 + 4)) 2064 (jl K p_29.2) 232 [(0, .ref (K.2.2 + 47)), (2, .ref (K.2.2 + 1)), (3, .ref (K.2.2 + 42)), (6, .int l6_218), (8, .int l8_218), (9, .int l9_218)] [.int p_29.1]
      refine J_iconst (v := 1) C (by decide) dL_goesBack_232 rfl ?_
      refine J_icmp_ne (t := 250) C dL_goesBack_233 (by decide) rfl (fun c_30 => ?_) (fun c_30 => ?_)
      · have h := h.neg c_30
        have h := hE_218 (Sum.inr (Sum.inl p_29.2)) h.osome
        try dsimp only at h
        refine J.widen (k' := 528) (sl' := 3168) (by omega) (by omega) ?_
        refine J.sub [] rfl ?_
        exact hj_250 p_29.2 h
      · have h := h.pos (Decidable.not_not.mp c_30)
        refine J_aload_n (i := 0) (p := 0) C dL_goesBack_236 rfl rfl rfl ?_
        refine J_aload_n (i := 2) (p := 1) C dL_goesBack_237 rfl rfl rfl ?_
        refine J_iload (i := 9) (p := 5) C dL_goesBack_238 rfl rfl ?_
        refine J_iconst (v := 1) C (by decide) dL_goesBack_240 rfl ?_
        refine J_isub C dL_goesBack_241 rfl ?_
        obtain ⟨g_31, h⟩ := Ok.ofgd h
        refine Jl_aald (r2 := 2 + Int32.toNatClampNeg (l9_218 - (1 : Int32))) C rfl g_31 dL_goesBack_242 rfl ?_
        refine J_aload_n (i := 3) (p := 2) C dL_goesBack_243 rfl rfl rfl ?_
        refine Jl_cS (α := Int32 × LawS) (rest := []) (st9 := fun p_32 => [.int p_32.1]) C hR hX cs_RL_178 (kL_isLike hl (kl_row g_31) (Ok.ofbnd h)) rfl rfl (Nat.le_of_ble_eq_true rfl) (Nat.le_of_ble_eq_true rfl) (Nat.le_of_ble_eq_true rfl) ⟨(by omega), (by omega)⟩ dL_goesBack_244 rfl (fun _ => rfl) (fun p_32 h => ?_)
        have h : Ok _ _ := h
        change J X K 12 False QQ (k_218 + 4) (6 * (k_218 + 4)) 2064 (jl K p_32.2) 247 [(0, .ref (K.2.2 + 47)), (2, .ref (K.2.2 + 1)), (3, .ref (K.2.2 + 42)), (6, .int l6_218), (8, .int l8_218), (9, .int l9_218)] [.int p_32.1]
        refine J_if_ne (t := 252) C dL_goesBack_247 (by decide) rfl (fun c_33 => ?_) (fun c_33 => ?_)
        · have h := h.neg c_33
          refine J_aload_n (i := 0) (p := 0) C dL_goesBack_252 rfl rfl rfl ?_
          refine J_aload_n (i := 2) (p := 1) C dL_goesBack_253 rfl rfl rfl ?_
          refine J_bipush (v := 20) C (by decide) dL_goesBack_254 rfl ?_
          refine J_iload (i := 9) (p := 5) C dL_goesBack_256 rfl rfl ?_
          refine J_iadd C dL_goesBack_258 rfl ?_
          refine J_iconst (v := 1) C (by decide) dL_goesBack_259 rfl ?_
          refine J_isub C dL_goesBack_260 rfl ?_
          obtain ⟨g_34, h⟩ := Ok.ofgd h
          refine Jl_aald (r2 := 2 + Int32.toNatClampNeg (((20 : Int32) + l9_218) - (1 : Int32))) C rfl g_34 dL_goesBack_261 rfl ?_
          refine Jl_cS (α := LawS) (rest := []) (st9 := fun p_35 => []) C hR hX cs_RL_151 (kL_sees hl (kl_row g_34) (Ok.ofbnd h)) rfl rfl (Nat.le_of_ble_eq_true rfl) (Nat.le_of_ble_eq_true rfl) (Nat.le_of_ble_eq_true rfl) ⟨(by omega), (by omega)⟩ dL_goesBack_262 rfl (fun _ => rfl) (fun p_35 h => ?_)
          have h : Ok _ _ := h
          change J X K 12 False QQ (k_218 + 4) (6 * (k_218 + 4)) 2064 (jl K p_35) 265 [(0, .ref (K.2.2 + 47)), (2, .ref (K.2.2 + 1)), (3, .ref (K.2.2 + 42)), (6, .int l6_218), (8, .int l8_218), (9, .int l9_218)] []
          refine J_aload_n (i := 0) (p := 0) C dL_goesBack_265 rfl rfl rfl ?_
          refine J_iconst (v := 1) C (by decide) dL_goesBack_266 rfl ?_
          refine Jl_cV (α := Int32 × Sto) (rest := []) (st9 := fun p_36 => [.int p_36.1]) (wd := fun p_36 => p_36.2) C hR hX cv_RL_189 (k11_acts_n hl (Ok.ofnox h) (fun c hc => hc)) rfl rfl (Nat.le_of_ble_eq_true rfl) (Nat.le_of_ble_eq_true rfl) (Nat.le_of_ble_eq_true rfl) ⟨(by omega), (by omega)⟩ dL_goesBack_267 rfl (fun E n9 w9 hx => hx.elim) (fun _ => rfl) (fun p_36 h => ?_)
          have h : Ok _ _ := h
          change J X K 12 False QQ (k_218 + 4) (6 * (k_218 + 4)) 2064 (jl K (p_35.1, p_36.2)) 270 [(0, .ref (K.2.2 + 47)), (2, .ref (K.2.2 + 1)), (3, .ref (K.2.2 + 42)), (6, .int l6_218), (8, .int l8_218), (9, .int l9_218)] [.int p_36.1]
          refine J_iload (i := 6) (p := 3) C dL_goesBack_270 rfl rfl ?_
          refine J_iload (i := 9) (p := 5) C dL_goesBack_272 rfl rfl ?_
          refine J_iadd C dL_goesBack_274 rfl ?_
          refine J_iconst (v := 1) C (by decide) dL_goesBack_275 rfl ?_
          refine J_isub C dL_goesBack_276 rfl ?_
          refine J_icmp_ne (t := 295) C dL_goesBack_277 (by decide) rfl (fun c_37 => ?_) (fun c_37 => ?_)
          · have h := h.neg c_37
            have h := hE_218 (Sum.inr (Sum.inr (p_35.1, p_36.2))) h.osome
            try dsimp only at h
            refine J.widen (k' := 528) (sl' := 3168) (by omega) (by omega) ?_
            refine J.sub [] rfl ?_
            exact hj_295 (p_35.1, p_36.2) h
          · have h := h.pos (Decidable.not_not.mp c_37)
            refine J_aload_n (i := 0) (p := 0) C dL_goesBack_280 rfl rfl rfl ?_
            refine J_iconst (v := 2) C (by decide) dL_goesBack_281 rfl ?_
            refine Jl_cV (α := Int32 × Sto) (rest := []) (st9 := fun p_38 => [.int p_38.1]) (wd := fun p_38 => p_38.2) C hR hX cv_RL_189 (k11_acts_n hl (Ok.ofnox h) (fun c hc => hc)) rfl rfl (Nat.le_of_ble_eq_true rfl) (Nat.le_of_ble_eq_true rfl) (Nat.le_of_ble_eq_true rfl) ⟨(by omega), (by omega)⟩ dL_goesBack_282 rfl (fun E n9 w9 hx => hx.elim) (fun _ => rfl) (fun p_38 h => ?_)
            have h : Ok _ _ := h
            change J X K 12 False QQ (k_218 + 4) (6 * (k_218 + 4)) 2064 (jl K (p_35.1, p_38.2)) 285 [(0, .ref (K.2.2 + 47)), (2, .ref (K.2.2 + 1)), (3, .ref (K.2.2 + 42)), (6, .int l6_218), (8, .int l8_218), (9, .int l9_218)] [.int p_38.1]
            refine J_iload (i := 8) (p := 4) C dL_goesBack_285 rfl rfl ?_
            refine J_iload (i := 9) (p := 5) C dL_goesBack_287 rfl rfl ?_
            refine J_isub C dL_goesBack_289 rfl ?_
            refine J_iconst (v := 1) C (by decide) dL_goesBack_290 rfl ?_
            refine J_iadd C dL_goesBack_291 rfl ?_
            refine J_icmp_ge (t := 297) C dL_goesBack_292 (by decide) rfl (fun c_39 => ?_) (fun c_39 => ?_)
            · have h := h.pos c_39
              obtain ⟨x9_3, e_x9_3, h⟩ := Ok.nm h
              refine J_iincE (i := 9) (p := 5) (lv' := [(9, .int x9_3), (0, .ref (K.2.2 + 47)), (2, .ref (K.2.2 + 1)), (3, .ref (K.2.2 + 42)), (6, .int l6_218), (8, .int l8_218)]) C e_x9_3 dL_goesBack_297 rfl (by decide) (Nat.le_of_ble_eq_true rfl) rfl rfl ?_
              refine J_goto (t := 218) C dL_goesBack_300 (by decide) ?_
              refine J.sub [1, 2, 3, 4, 5, 0] rfl ?_
              exact hB_218 ((p_35.1, p_38.2), x9_3) h.osome (k_218 + 4) (by omega)
            · have h := h.neg c_39
              have h := hE_218 (Sum.inr (Sum.inr (p_35.1, p_38.2))) h.osome
              try dsimp only at h
              refine J.widen (k' := 528) (sl' := 3168) (by omega) (by omega) ?_
              refine J.sub [] rfl ?_
              exact hj_295 (p_35.1, p_38.2) h
        · have h := h.pos (Decidable.not_not.mp c_33)
          have h := hE_218 (Sum.inr (Sum.inl p_32.2)) h.osome
          try dsimp only at h
          refine J.widen (k' := 528) (sl' := 3168) (by omega) (by omega) ?_
          refine J.sub [] rfl ?_
          exact hj_250 p_32.2 h
  have hj_167 : (∀ (τ_167 : LawS), Ok (fL_goesBack_j167 τ_167) Qf → J X K 12 False QQ 484 2904 2064 (jl K τ_167) 167 [] []) := by
    intro τ_167 h
    unfold fL_goesBack_j167 at h
    refine J_iconst (v := 0) C (by decide) dL_goesBack_167 rfl ?_
    rw [← hQQ]
    exact J_zret C hret rfl (Nat.le_of_ble_eq_true rfl) (Nat.le_of_ble_eq_true rfl) ⟨_, h.osome, rfl, rfl, rfl⟩ dL_goesBack_168
  have hj_22 : (∀ (τ_22 : LawS) (l6_22 : Int32) (l7_22 : Int32) (l8_22 : Int32) (l9_22 : Int32), Ok (fL_goesBack_j22 τ_22 l6_22 l7_22 l8_22 l9_22) Qf → J X K 12 False QQ 0 0 2064 (jl K τ_22) 22 [(0, .ref (K.2.2 + 47)), (1, .ref (K.2.2 + 0)), (2, .ref (K.2.2 + 1)), (3, .ref (K.2.2 + 42)), (4, .ref (K.2.2 + 43)), (5, .ref (K.2.2 + 45)), (6, .int l6_22), (7, .int l7_22), (8, .int l8_22), (9, .int l9_22)] []) := by
    intro τ_22 l6_22 l7_22 l8_22 l9_22 h
    unfold fL_goesBack_j22 at h
    refine loop_room (S := LawS × Int32 × Int32) (P := fun m_22 s_22 => ∀ k_22 : Nat, k_22 + m_22 * 44 ≤ 484 → J X K 12 False QQ k_22 (6 * k_22) 2064 (jl K s_22.1) 22 [(0, .ref (K.2.2 + 47)), (1, .ref (K.2.2 + 0)), (2, .ref (K.2.2 + 1)), (3, .ref (K.2.2 + 42)), (4, .ref (K.2.2 + 43)), (5, .ref (K.2.2 + 45)), (6, .int l6_22), (7, .int l7_22), (8, .int s_22.2.1), (9, .int s_22.2.2)] []) ?_ 11 (τ_22, l8_22, l9_22) (Ok.ofbnd h) 0 (by omega)
    intro m_22 B_22 hB_22 hE_22 s_22 h k_22 hk_22
    obtain ⟨τ_22, l8_22, l9_22⟩ := s_22
    have h : Ok (fL_goesBack_b22 τ_22 l6_22 l7_22 l8_22 l9_22) B_22 := h
    change J X K 12 False QQ k_22 (6 * k_22) 2064 (jl K τ_22) 22 [(0, .ref (K.2.2 + 47)), (1, .ref (K.2.2 + 0)), (2, .ref (K.2.2 + 1)), (3, .ref (K.2.2 + 42)), (4, .ref (K.2.2 + 43)), (5, .ref (K.2.2 + 45)), (6, .int l6_22), (7, .int l7_22), (8, .int l8_22), (9, .int l9_22)] []
    have hj_197 : (∀ (τ_197 : LawS) (l8_197 : Int32) (l9_197 : Int32), Ok (fL_goesBack_j197 l6_22 l7_22 τ_197 l8_197 l9_197) B_22 → J X K 12 False QQ (k_22 + 44) (6 * (k_22 + 44)) 2064 (jl K τ_197) 197 [(0, .ref (K.2.2 + 47)), (1, .ref (K.2.2 + 0)), (2, .ref (K.2.2 + 1)), (3, .ref (K.2.2 + 42)), (4, .ref (K.2.2 + 43)), (5, .ref (K.2.2 + 45)), (6, .int l6_22), (7, .int l7_22), (8, .int l8_197), (9, .int l9_197)] []) := by
      intro τ_197 l8_197 l9_197 h
      unfold fL_goesBack_j197 at h
      obtain ⟨x9_5, e_x9_5, h⟩ := Ok.nm h
      refine J_iincE (i := 9) (p := 9) (lv' := [(9, .int x9_5), (0, .ref (K.2.2 + 47)), (1, .ref (K.2.2 + 0)), (2, .ref (K.2.2 + 1)), (3, .ref (K.2.2 + 42)), (4, .ref (K.2.2 + 43)), (5, .ref (K.2.2 + 45)), (6, .int l6_22), (7, .int l7_22), (8, .int l8_197)]) C e_x9_5 dL_goesBack_197 rfl (by decide) (Nat.le_of_ble_eq_true rfl) rfl rfl ?_
      refine J_goto (t := 22) C dL_goesBack_200 (by decide) ?_
      refine J.sub [1, 2, 3, 4, 5, 6, 7, 8, 9, 0] rfl ?_
      exact hB_22 (τ_197, l8_197, x9_5) h.osome (k_22 + 44) (by omega)
    have hj_169 : (∀ (τ_169 : LawS) (l8_169 : Int32) (l9_169 : Int32) (l11_169 : Int32), Ok (fL_goesBack_j169 l6_22 l7_22 τ_169 l8_169 l9_169 l11_169) B_22 → J X K 12 False QQ (k_22 + 40) (6 * (k_22 + 40)) 2064 (jl K τ_169) 169 [(0, .ref (K.2.2 + 47)), (1, .ref (K.2.2 + 0)), (2, .ref (K.2.2 + 1)), (3, .ref (K.2.2 + 42)), (4, .ref (K.2.2 + 43)), (5, .ref (K.2.2 + 45)), (6, .int l6_22), (7, .int l7_22), (8, .int l8_169), (9, .int l9_169), (11, .int l11_169)] []) := by
      intro τ_169 l8_169 l9_169 l11_169 h
      unfold fL_goesBack_j169 at h
      refine J_iload (i := 8) (p := 8) C dL_goesBack_169 rfl rfl ?_
      refine J_iload (i := 11) (p := 10) C dL_goesBack_171 rfl rfl ?_
      refine J_iadd C dL_goesBack_173 rfl ?_
      obtain ⟨x8_6, e_x8_6, h⟩ := Ok.nm h
      refine J_istoreE (i := 8) (lv' := [(8, .int x8_6), (0, .ref (K.2.2 + 47)), (1, .ref (K.2.2 + 0)), (2, .ref (K.2.2 + 1)), (3, .ref (K.2.2 + 42)), (4, .ref (K.2.2 + 43)), (5, .ref (K.2.2 + 45)), (6, .int l6_22), (7, .int l7_22), (9, .int l9_169), (11, .int l11_169)]) C e_x8_6 dL_goesBack_174 (Nat.le_of_ble_eq_true rfl) rfl rfl ?_
      refine J_aload_n (i := 1) (p := 2) C dL_goesBack_176 rfl rfl rfl ?_
      refine Jl_cS (α := Int32 × LawS) (rest := []) (st9 := fun p_40 => [.int p_40.1]) C hR hX cs_RL_8 (kL_next hl  (Ok.ofbnd h)) rfl rfl (Nat.le_of_ble_eq_true rfl) (Nat.le_of_ble_eq_true rfl) (Nat.le_of_ble_eq_true rfl) ⟨(by omega), (by omega)⟩ dL_goesBack_177 rfl (fun _ => rfl) (fun p_40 h => ?_)
      have h : Ok _ _ := h
      change J X K 12 False QQ (k_22 + 40) (6 * (k_22 + 40)) 2064 (jl K p_40.2) 180 [(8, .int x8_6), (0, .ref (K.2.2 + 47)), (1, .ref (K.2.2 + 0)), (2, .ref (K.2.2 + 1)), (3, .ref (K.2.2 + 42)), (4, .ref (K.2.2 + 43)), (5, .ref (K.2.2 + 45)), (6, .int l6_22), (7, .int l7_22), (9, .int l9_169), (11, .int l11_169)] [.int p_40.1]
      refine J_iconst (v := 3) C (by decide) dL_goesBack_180 rfl ?_
      refine J_irem C (by decide) dL_goesBack_181 rfl ?_
      refine J_if_ne (t := 197) C dL_goesBack_182 (by decide) rfl (fun c_41 => ?_) (fun c_41 => ?_)
      · have h := h.neg c_41
        refine J.widen (k' := (k_22 + 44)) (sl' := (6 * (k_22 + 44))) (by omega) (by omega) ?_
        refine J.sub [1, 2, 3, 4, 5, 6, 7, 8, 0, 9] rfl ?_
        exact hj_197 p_40.2 x8_6 l9_169 h
      · have h := h.pos (Decidable.not_not.mp c_41)
        refine J_aload_n (i := 0) (p := 1) C dL_goesBack_185 rfl rfl rfl ?_
        refine J_aload_n (i := 1) (p := 2) C dL_goesBack_186 rfl rfl rfl ?_
        refine J_aload (i := 5) (p := 6) C dL_goesBack_187 rfl rfl ?_
        refine Jl_cS (α := Int32 × LawS) (rest := []) (st9 := fun p_42 => [.int p_42.1]) C hR hX cs_RL_196 (kL_moves hl  (Ok.ofbnd h)) rfl rfl (Nat.le_of_ble_eq_true rfl) (Nat.le_of_ble_eq_true rfl) (Nat.le_of_ble_eq_true rfl) ⟨(by omega), (by omega)⟩ dL_goesBack_189 rfl (fun _ => rfl) (fun p_42 h => ?_)
        have h : Ok _ _ := h
        refine J.widen (k' := (k_22 + 44)) (sl' := (6 * (k_22 + 44))) (by omega) (by omega) ?_
        change J X K 12 False QQ (k_22 + 44) (6 * (k_22 + 44)) 2064 (jl K p_42.2) 192 [(8, .int x8_6), (0, .ref (K.2.2 + 47)), (1, .ref (K.2.2 + 0)), (2, .ref (K.2.2 + 1)), (3, .ref (K.2.2 + 42)), (4, .ref (K.2.2 + 43)), (5, .ref (K.2.2 + 45)), (6, .int l6_22), (7, .int l7_22), (9, .int l9_169), (11, .int l11_169)] [.int p_42.1]
        refine J_if_ne (t := 197) C dL_goesBack_192 (by decide) rfl (fun c_43 => ?_) (fun c_43 => ?_)
        · have h := h.neg c_43
          refine J.sub [1, 2, 3, 4, 5, 6, 7, 8, 0, 9] rfl ?_
          exact hj_197 p_42.2 x8_6 l9_169 h
        · have h := h.pos (Decidable.not_not.mp c_43)
          have h := hE_22 (Sum.inr (Sum.inr (Sum.inr (Sum.inr (Sum.inr p_42.2))))) h.osome
          try dsimp only at h
          refine J.widen (k' := 484) (sl' := 2904) (by omega) (by omega) ?_
          refine J_iconst (v := 0) C (by decide) dL_goesBack_195 rfl ?_
          rw [← hQQ]
          exact J_zret C hret rfl (Nat.le_of_ble_eq_true rfl) (Nat.le_of_ble_eq_true rfl) ⟨_, h.osome, rfl, rfl, rfl⟩ dL_goesBack_196
    have hj_126 : (∀ (τ_126 : LawS) (l8_126 : Int32) (l9_126 : Int32), Ok (fL_goesBack_j126 l6_22 l7_22 τ_126 l8_126 l9_126) B_22 → J X K 12 False QQ (k_22 + 40) (6 * (k_22 + 40)) 2064 (jl K τ_126) 126 [(0, .ref (K.2.2 + 47)), (1, .ref (K.2.2 + 0)), (2, .ref (K.2.2 + 1)), (3, .ref (K.2.2 + 42)), (4, .ref (K.2.2 + 43)), (5, .ref (K.2.2 + 45)), (6, .int l6_22), (7, .int l7_22), (8, .int l8_126), (9, .int l9_126)] []) := by
      intro τ_126 l8_126 l9_126 h
      unfold fL_goesBack_j126 at h
      refine J_aload_n (i := 0) (p := 0) C dL_goesBack_126 rfl rfl rfl ?_
      refine J_iconst (v := 1) C (by decide) dL_goesBack_127 rfl ?_
      refine Jl_cV (α := Int32 × Sto) (rest := []) (st9 := fun p_44 => [.int p_44.1]) (wd := fun p_44 => p_44.2) C hR hX cv_RL_189 (k11_acts_n hl (Ok.ofnox h) (fun c hc => hc)) rfl rfl (Nat.le_of_ble_eq_true rfl) (Nat.le_of_ble_eq_true rfl) (Nat.le_of_ble_eq_true rfl) ⟨(by omega), (by omega)⟩ dL_goesBack_128 rfl (fun E n9 w9 hx => hx.elim) (fun _ => rfl) (fun p_44 h => ?_)
      have h : Ok _ _ := h
      change J X K 12 False QQ (k_22 + 40) (6 * (k_22 + 40)) 2064 (jl K (τ_126.1, p_44.2)) 131 [(0, .ref (K.2.2 + 47)), (1, .ref (K.2.2 + 0)), (2, .ref (K.2.2 + 1)), (3, .ref (K.2.2 + 42)), (4, .ref (K.2.2 + 43)), (5, .ref (K.2.2 + 45)), (6, .int l6_22), (7, .int l7_22), (8, .int l8_126), (9, .int l9_126)] [.int p_44.1]
      refine J_iload (i := 6) (p := 6) C dL_goesBack_131 rfl rfl ?_
      refine J_isub C dL_goesBack_133 rfl ?_
      refine J_iload (i := 8) (p := 8) C dL_goesBack_134 rfl rfl ?_
      refine J_isub C dL_goesBack_136 rfl ?_
      obtain ⟨x11_7, e_x11_7, h⟩ := Ok.nm h
      refine J_istoreE (i := 11) (lv' := [(11, .int x11_7), (0, .ref (K.2.2 + 47)), (1, .ref (K.2.2 + 0)), (2, .ref (K.2.2 + 1)), (3, .ref (K.2.2 + 42)), (4, .ref (K.2.2 + 43)), (5, .ref (K.2.2 + 45)), (6, .int l6_22), (7, .int l7_22), (8, .int l8_126), (9, .int l9_126)]) C e_x11_7 dL_goesBack_137 (Nat.le_of_ble_eq_true rfl) rfl rfl ?_
      refine J_iload (i := 11) (p := 0) C dL_goesBack_139 rfl rfl ?_
      refine J_if_lt (t := 167) C dL_goesBack_141 (by decide) rfl (fun c_45 => ?_) (fun c_45 => ?_)
      · have h := h.pos c_45
        have h := hE_22 (Sum.inr (Sum.inr (Sum.inr (Sum.inr (Sum.inl (τ_126.1, p_44.2)))))) h.osome
        try dsimp only at h
        refine J.widen (k' := 484) (sl' := 2904) (by omega) (by omega) ?_
        refine J.sub [] rfl ?_
        exact hj_167 (τ_126.1, p_44.2) h
      · have h := h.neg c_45
        refine J_iload (i := 11) (p := 0) C dL_goesBack_144 rfl rfl ?_
        refine J_iconst (v := 1) C (by decide) dL_goesBack_146 rfl ?_
        refine J_icmp_gt (t := 167) C dL_goesBack_147 (by decide) rfl (fun c_46 => ?_) (fun c_46 => ?_)
        · have h := h.pos c_46
          have h := hE_22 (Sum.inr (Sum.inr (Sum.inr (Sum.inr (Sum.inl (τ_126.1, p_44.2)))))) h.osome
          try dsimp only at h
          refine J.widen (k' := 484) (sl' := 2904) (by omega) (by omega) ?_
          refine J.sub [] rfl ?_
          exact hj_167 (τ_126.1, p_44.2) h
        · have h := h.neg c_46
          refine J_iload (i := 11) (p := 0) C dL_goesBack_150 rfl rfl ?_
          refine J_if_ne (t := 169) C dL_goesBack_152 (by decide) rfl (fun c_47 => ?_) (fun c_47 => ?_)
          · have h := h.neg c_47
            refine J.sub [1, 2, 3, 4, 5, 6, 7, 8, 9, 10, 0] rfl ?_
            exact hj_169 (τ_126.1, p_44.2) l8_126 l9_126 x11_7 h
          · have h := h.pos (Decidable.not_not.mp c_47)
            refine J_aload_n (i := 0) (p := 1) C dL_goesBack_155 rfl rfl rfl ?_
            refine J_aload_n (i := 2) (p := 3) C dL_goesBack_156 rfl rfl rfl ?_
            refine J_iload (i := 8) (p := 9) C dL_goesBack_157 rfl rfl ?_
            obtain ⟨g_48, h⟩ := Ok.ofgd h
            refine Jl_aald (r2 := 2 + Int32.toNatClampNeg l8_126) C rfl g_48 dL_goesBack_159 rfl ?_
            refine J_aload_n (i := 3) (p := 4) C dL_goesBack_160 rfl rfl rfl ?_
            refine Jl_cS (α := Int32 × LawS) (rest := []) (st9 := fun p_49 => [.int p_49.1]) C hR hX cs_RL_178 (kL_isLike hl (kl_row g_48) (Ok.ofbnd h)) rfl rfl (Nat.le_of_ble_eq_true rfl) (Nat.le_of_ble_eq_true rfl) (Nat.le_of_ble_eq_true rfl) ⟨(by omega), (by omega)⟩ dL_goesBack_161 rfl (fun _ => rfl) (fun p_49 h => ?_)
            have h : Ok _ _ := h
            change J X K 12 False QQ (k_22 + 40) (6 * (k_22 + 40)) 2064 (jl K p_49.2) 164 [(11, .int x11_7), (0, .ref (K.2.2 + 47)), (1, .ref (K.2.2 + 0)), (2, .ref (K.2.2 + 1)), (3, .ref (K.2.2 + 42)), (4, .ref (K.2.2 + 43)), (5, .ref (K.2.2 + 45)), (6, .int l6_22), (7, .int l7_22), (8, .int l8_126), (9, .int l9_126)] [.int p_49.1]
            refine J_if_ne (t := 169) C dL_goesBack_164 (by decide) rfl (fun c_50 => ?_) (fun c_50 => ?_)
            · have h := h.neg c_50
              refine J.sub [1, 2, 3, 4, 5, 6, 7, 8, 9, 10, 0] rfl ?_
              exact hj_169 p_49.2 l8_126 l9_126 x11_7 h
            · have h := h.pos (Decidable.not_not.mp c_50)
              have h := hE_22 (Sum.inr (Sum.inr (Sum.inr (Sum.inr (Sum.inl p_49.2))))) h.osome
              try dsimp only at h
              refine J.widen (k' := 484) (sl' := 2904) (by omega) (by omega) ?_
              refine J.sub [] rfl ?_
              exact hj_167 p_49.2 h
    have hj_76 : (∀ (τ_76 : LawS) (l8_76 : Int32) (l9_76 : Int32) (l10_76 : Int32) (l11_76 : Int32), Ok (fL_goesBack_j76 l6_22 l7_22 τ_76 l8_76 l9_76 l10_76 l11_76) B_22 → J X K 12 False QQ (k_22 + 4) (6 * (k_22 + 4)) 2064 (jl K τ_76) 76 [(0, .ref (K.2.2 + 47)), (1, .ref (K.2.2 + 0)), (2, .ref (K.2.2 + 1)), (3, .ref (K.2.2 + 42)), (4, .ref (K.2.2 + 43)), (5, .ref (K.2.2 + 45)), (6, .int l6_22), (7, .int l7_22), (8, .int l8_76), (9, .int l9_76), (10, .int l10_76), (11, .int l11_76)] []) := by
      intro τ_76 l8_76 l9_76 l10_76 l11_76 h
      unfold fL_goesBack_j76 at h
      refine loop_room (S := LawS × Int32) (P := fun m_76 s_76 => ∀ k_76 : Nat, k_76 + m_76 * 8 ≤ (k_22 + 36) → J X K 12 False QQ k_76 (6 * k_76) 2064 (jl K s_76.1) 76 [(0, .ref (K.2.2 + 47)), (1, .ref (K.2.2 + 0)), (2, .ref (K.2.2 + 1)), (3, .ref (K.2.2 + 42)), (4, .ref (K.2.2 + 43)), (5, .ref (K.2.2 + 45)), (6, .int l6_22), (7, .int l7_22), (8, .int l8_76), (9, .int l9_76), (10, .int l10_76), (11, .int s_76.2)] []) ?_ 4 (τ_76, l11_76) (Ok.ofbnd h) (k_22 + 4) (by omega)
      intro m_76 B_76 hB_76 hE_76 s_76 h k_76 hk_76
      obtain ⟨τ_76, l11_76⟩ := s_76
      have h : Ok (fL_goesBack_b76 l6_22 l7_22 τ_76 l8_76 l9_76 l10_76 l11_76) B_76 := h
      change J X K 12 False QQ k_76 (6 * k_76) 2064 (jl K τ_76) 76 [(0, .ref (K.2.2 + 47)), (1, .ref (K.2.2 + 0)), (2, .ref (K.2.2 + 1)), (3, .ref (K.2.2 + 42)), (4, .ref (K.2.2 + 43)), (5, .ref (K.2.2 + 45)), (6, .int l6_22), (7, .int l7_22), (8, .int l8_76), (9, .int l9_76), (10, .int l10_76), (11, .int l11_76)] []
      unfold fL_goesBack_b76 at h
      refine J_iload (i := 11) (p := 11) C dL_goesBack_76 rfl rfl ?_
      refine J_iconst (v := 2) C (by decide) dL_goesBack_78 rfl ?_
      refine J_iload (i := 10) (p := 10) C dL_goesBack_79 rfl rfl ?_
      refine J_imul C dL_goesBack_81 rfl ?_
      refine J_icmp_gt (t := 105) C dL_goesBack_82 (by decide) rfl (fun c_51 => ?_) (fun c_51 => ?_)
      · have h := h.pos c_51
        have h := hE_76 (Sum.inl τ_76) h.osome
        try dsimp only at h
        refine J.widen (k' := (k_22 + 36)) (sl' := (6 * (k_22 + 36))) (by omega) (by omega) ?_
        refine J_iload (i := 10) (p := 10) C dL_goesBack_105 rfl rfl ?_
        refine J_iconst (v := 1) C (by decide) dL_goesBack_107 rfl ?_
        refine J_icmp_ne (t := 126) C dL_goesBack_108 (by decide) rfl (fun c_52 => ?_) (fun c_52 => ?_)
        · have h := h.neg c_52
          refine J.widen (k' := (k_22 + 40)) (sl' := (6 * (k_22 + 40))) (by omega) (by omega) ?_
          refine J.sub [0, 1, 2, 3, 4, 5, 6, 7, 8, 9] rfl ?_
          exact hj_126 τ_76 l8_76 l9_76 h
        · have h := h.pos (Decidable.not_not.mp c_52)
          refine J_aload_n (i := 0) (p := 0) C dL_goesBack_111 rfl rfl rfl ?_
          refine J_bipush (v := 13) C (by decide) dL_goesBack_112 rfl ?_
          refine J_iconst (v := 0) C (by decide) dL_goesBack_114 rfl ?_
          refine J_iconst (v := 0) C (by decide) dL_goesBack_115 rfl ?_
          refine J_iconst (v := 0) C (by decide) dL_goesBack_116 rfl ?_
          refine Jl_cH (α := Int32 × LawS) (rest := []) (st9 := fun p_53 => [.int p_53.1]) C hR hX ch_RL_174 (kL_done hl  (Ok.ofbnd h)) rfl rfl (Nat.le_of_ble_eq_true rfl) (Nat.le_of_ble_eq_true rfl) (Nat.le_of_ble_eq_true rfl) ⟨(by omega), (by omega)⟩ dL_goesBack_117 rfl (fun _ => rfl) (fun p_53 h => ?_)
          have h : Ok _ _ := h
          refine J.widen (k' := (k_22 + 40)) (sl' := (6 * (k_22 + 40))) (by omega) (by omega) ?_
          change J X K 12 False QQ (k_22 + 40) (6 * (k_22 + 40)) 2064 (jl K p_53.2) 120 [(0, .ref (K.2.2 + 47)), (1, .ref (K.2.2 + 0)), (2, .ref (K.2.2 + 1)), (3, .ref (K.2.2 + 42)), (4, .ref (K.2.2 + 43)), (5, .ref (K.2.2 + 45)), (6, .int l6_22), (7, .int l7_22), (8, .int l8_76), (9, .int l9_76), (10, .int l10_76), (11, .int l11_76)] [.int p_53.1]
          refine J_iconst (v := 1) C (by decide) dL_goesBack_120 rfl ?_
          refine J_icmp_eq (t := 126) C dL_goesBack_121 (by decide) rfl (fun c_54 => ?_) (fun c_54 => ?_)
          · have h := h.pos c_54
            refine J.sub [0, 1, 2, 3, 4, 5, 6, 7, 8, 9] rfl ?_
            exact hj_126 p_53.2 l8_76 l9_76 h
          · have h := h.neg c_54
            have h := hE_22 (Sum.inr (Sum.inr (Sum.inr (Sum.inl p_53.2)))) h.osome
            try dsimp only at h
            refine J.widen (k' := 484) (sl' := 2904) (by omega) (by omega) ?_
            refine J_iconst (v := 0) C (by decide) dL_goesBack_124 rfl ?_
            rw [← hQQ]
            exact J_zret C hret rfl (Nat.le_of_ble_eq_true rfl) (Nat.le_of_ble_eq_true rfl) ⟨_, h.osome, rfl, rfl, rfl⟩ dL_goesBack_125
      · have h := h.neg c_51
        refine J_aload_n (i := 0) (p := 0) C dL_goesBack_85 rfl rfl rfl ?_
        refine J_aload_n (i := 1) (p := 1) C dL_goesBack_86 rfl rfl rfl ?_
        refine J_aload (i := 4) (p := 4) C dL_goesBack_87 rfl rfl ?_
        refine Jl_cS (α := Int32 × LawS) (rest := []) (st9 := fun p_55 => [.int p_55.1]) C hR hX cs_RL_193 (kL_acts hl  (Ok.ofbnd h)) rfl rfl (Nat.le_of_ble_eq_true rfl) (Nat.le_of_ble_eq_true rfl) (Nat.le_of_ble_eq_true rfl) ⟨(by omega), (by omega)⟩ dL_goesBack_89 rfl (fun _ => rfl) (fun p_55 h => ?_)
        have h : Ok _ _ := h
        refine J.widen (k' := (k_76 + 8)) (sl' := (6 * (k_76 + 8))) (by omega) (by omega) ?_
        change J X K 12 False QQ (k_76 + 8) (6 * (k_76 + 8)) 2064 (jl K p_55.2) 92 [(0, .ref (K.2.2 + 47)), (1, .ref (K.2.2 + 0)), (2, .ref (K.2.2 + 1)), (3, .ref (K.2.2 + 42)), (4, .ref (K.2.2 + 43)), (5, .ref (K.2.2 + 45)), (6, .int l6_22), (7, .int l7_22), (8, .int l8_76), (9, .int l9_76), (10, .int l10_76), (11, .int l11_76)] [.int p_55.1]
        refine J_ldc (v := -1000009) C ci_RL_192 dL_goesBack_92 rfl ?_
        refine J_icmp_ne (t := 99) C dL_goesBack_94 (by decide) rfl (fun c_56 => ?_) (fun c_56 => ?_)
        · have h := h.neg c_56
          obtain ⟨x11_8, e_x11_8, h⟩ := Ok.nm h
          refine J_iincE (i := 11) (p := 11) (lv' := [(11, .int x11_8), (0, .ref (K.2.2 + 47)), (1, .ref (K.2.2 + 0)), (2, .ref (K.2.2 + 1)), (3, .ref (K.2.2 + 42)), (4, .ref (K.2.2 + 43)), (5, .ref (K.2.2 + 45)), (6, .int l6_22), (7, .int l7_22), (8, .int l8_76), (9, .int l9_76), (10, .int l10_76)]) C e_x11_8 dL_goesBack_99 rfl (by decide) (Nat.le_of_ble_eq_true rfl) rfl rfl ?_
          refine J_goto (t := 76) C dL_goesBack_102 (by decide) ?_
          refine J.sub [1, 2, 3, 4, 5, 6, 7, 8, 9, 10, 11, 0] rfl ?_
          exact hB_76 (p_55.2, x11_8) h.osome (k_76 + 8) (by omega)
        · have h := h.pos (Decidable.not_not.mp c_56)
          have h := hE_76 (Sum.inr p_55.2) h.osome
          try dsimp only at h
          refine J.widen (k' := (k_22 + 36)) (sl' := (6 * (k_22 + 36))) (by omega) (by omega) ?_
          have h := hE_22 (Sum.inr (Sum.inr (Sum.inl p_55.2))) h.osome
          try dsimp only at h
          refine J.widen (k' := 484) (sl' := 2904) (by omega) (by omega) ?_
          refine J_iconst (v := 0) C (by decide) dL_goesBack_97 rfl ?_
          rw [← hQQ]
          exact J_zret C hret rfl (Nat.le_of_ble_eq_true rfl) (Nat.le_of_ble_eq_true rfl) ⟨_, h.osome, rfl, rfl, rfl⟩ dL_goesBack_98
    have hj_73 : (∀ (τ_73 : LawS) (l8_73 : Int32) (l9_73 : Int32) (l10_73 : Int32), Ok (fL_goesBack_j73 l6_22 l7_22 τ_73 l8_73 l9_73 l10_73) B_22 → J X K 12 False QQ (k_22 + 4) (6 * (k_22 + 4)) 2064 (jl K τ_73) 73 [(0, .ref (K.2.2 + 47)), (1, .ref (K.2.2 + 0)), (2, .ref (K.2.2 + 1)), (3, .ref (K.2.2 + 42)), (4, .ref (K.2.2 + 43)), (5, .ref (K.2.2 + 45)), (6, .int l6_22), (7, .int l7_22), (8, .int l8_73), (9, .int l9_73), (10, .int l10_73)] []) := by
      intro τ_73 l8_73 l9_73 l10_73 h
      unfold fL_goesBack_j73 at h
      refine J_iconst (v := 0) C (by decide) dL_goesBack_73 rfl ?_
      obtain ⟨x11_9, e_x11_9, h⟩ := Ok.nm h
      refine J_istoreE (i := 11) (lv' := [(11, .int x11_9), (0, .ref (K.2.2 + 47)), (1, .ref (K.2.2 + 0)), (2, .ref (K.2.2 + 1)), (3, .ref (K.2.2 + 42)), (4, .ref (K.2.2 + 43)), (5, .ref (K.2.2 + 45)), (6, .int l6_22), (7, .int l7_22), (8, .int l8_73), (9, .int l9_73), (10, .int l10_73)]) C e_x11_9 dL_goesBack_74 (Nat.le_of_ble_eq_true rfl) rfl rfl ?_
      refine J.sub [1, 2, 3, 4, 5, 6, 7, 8, 9, 10, 11, 0] rfl ?_
      exact hj_76 τ_73 l8_73 l9_73 l10_73 x11_9 h
    have hj_43 : (∀ (τ_43 : LawS) (l8_43 : Int32) (l9_43 : Int32) (s0_43 : Int32), Ok (fL_goesBack_j43 l6_22 l7_22 τ_43 l8_43 l9_43 s0_43) B_22 → J X K 12 False QQ k_22 (6 * k_22) 2064 (jl K τ_43) 43 [(0, .ref (K.2.2 + 47)), (1, .ref (K.2.2 + 0)), (2, .ref (K.2.2 + 1)), (3, .ref (K.2.2 + 42)), (4, .ref (K.2.2 + 43)), (5, .ref (K.2.2 + 45)), (6, .int l6_22), (7, .int l7_22), (8, .int l8_43), (9, .int l9_43)] [.int s0_43]) := by
      intro τ_43 l8_43 l9_43 s0_43 h
      unfold fL_goesBack_j43 at h
      obtain ⟨x10_10, e_x10_10, h⟩ := Ok.nm h
      refine J_istoreE (i := 10) (lv' := [(10, .int x10_10), (0, .ref (K.2.2 + 47)), (1, .ref (K.2.2 + 0)), (2, .ref (K.2.2 + 1)), (3, .ref (K.2.2 + 42)), (4, .ref (K.2.2 + 43)), (5, .ref (K.2.2 + 45)), (6, .int l6_22), (7, .int l7_22), (8, .int l8_43), (9, .int l9_43)]) C e_x10_10 dL_goesBack_43 (Nat.le_of_ble_eq_true rfl) rfl rfl ?_
      refine J_aload_n (i := 0) (p := 1) C dL_goesBack_45 rfl rfl rfl ?_
      refine J_aload_n (i := 2) (p := 3) C dL_goesBack_46 rfl rfl rfl ?_
      refine J_iload (i := 8) (p := 9) C dL_goesBack_47 rfl rfl ?_
      obtain ⟨g_60, h⟩ := Ok.ofgd h
      refine Jl_aald (r2 := 2 + Int32.toNatClampNeg l8_43) C rfl g_60 dL_goesBack_49 rfl ?_
      refine Jl_cS (α := LawS) (rest := []) (st9 := fun p_61 => []) C hR hX cs_RL_151 (kL_sees hl (kl_row g_60) (Ok.ofbnd h)) rfl rfl (Nat.le_of_ble_eq_true rfl) (Nat.le_of_ble_eq_true rfl) (Nat.le_of_ble_eq_true rfl) ⟨(by omega), (by omega)⟩ dL_goesBack_50 rfl (fun _ => rfl) (fun p_61 h => ?_)
      have h : Ok _ _ := h
      change J X K 12 False QQ k_22 (6 * k_22) 2064 (jl K p_61) 53 [(10, .int x10_10), (0, .ref (K.2.2 + 47)), (1, .ref (K.2.2 + 0)), (2, .ref (K.2.2 + 1)), (3, .ref (K.2.2 + 42)), (4, .ref (K.2.2 + 43)), (5, .ref (K.2.2 + 45)), (6, .int l6_22), (7, .int l7_22), (8, .int l8_43), (9, .int l9_43)] []
      refine J_iload (i := 10) (p := 0) C dL_goesBack_53 rfl rfl ?_
      refine J_iconst (v := 1) C (by decide) dL_goesBack_55 rfl ?_
      refine J_icmp_ne (t := 73) C dL_goesBack_56 (by decide) rfl (fun c_62 => ?_) (fun c_62 => ?_)
      · have h := h.neg c_62
        refine J.widen (k' := (k_22 + 4)) (sl' := (6 * (k_22 + 4))) (by omega) (by omega) ?_
        refine J.sub [1, 2, 3, 4, 5, 6, 7, 8, 9, 10, 0] rfl ?_
        exact hj_73 p_61 l8_43 l9_43 x10_10 h
      · have h := h.pos (Decidable.not_not.mp c_62)
        refine J_aload_n (i := 0) (p := 1) C dL_goesBack_59 rfl rfl rfl ?_
        refine J_bipush (v := 13) C (by decide) dL_goesBack_60 rfl ?_
        refine J_iconst (v := 1) C (by decide) dL_goesBack_62 rfl ?_
        refine J_iconst (v := 0) C (by decide) dL_goesBack_63 rfl ?_
        refine J_iconst (v := 0) C (by decide) dL_goesBack_64 rfl ?_
        refine Jl_cH (α := Int32 × LawS) (rest := []) (st9 := fun p_63 => [.int p_63.1]) C hR hX ch_RL_174 (kL_done hl  (Ok.ofbnd h)) rfl rfl (Nat.le_of_ble_eq_true rfl) (Nat.le_of_ble_eq_true rfl) (Nat.le_of_ble_eq_true rfl) ⟨(by omega), (by omega)⟩ dL_goesBack_65 rfl (fun _ => rfl) (fun p_63 h => ?_)
        have h : Ok _ _ := h
        refine J.widen (k' := (k_22 + 4)) (sl' := (6 * (k_22 + 4))) (by omega) (by omega) ?_
        change J X K 12 False QQ (k_22 + 4) (6 * (k_22 + 4)) 2064 (jl K p_63.2) 68 [(10, .int x10_10), (0, .ref (K.2.2 + 47)), (1, .ref (K.2.2 + 0)), (2, .ref (K.2.2 + 1)), (3, .ref (K.2.2 + 42)), (4, .ref (K.2.2 + 43)), (5, .ref (K.2.2 + 45)), (6, .int l6_22), (7, .int l7_22), (8, .int l8_43), (9, .int l9_43)] [.int p_63.1]
        refine J_if_eq (t := 73) C dL_goesBack_68 (by decide) rfl (fun c_64 => ?_) (fun c_64 => ?_)
        · have h := h.pos c_64
          refine J.sub [1, 2, 3, 4, 5, 6, 7, 8, 9, 10, 0] rfl ?_
          exact hj_73 p_63.2 l8_43 l9_43 x10_10 h
        · have h := h.neg c_64
          have h := hE_22 (Sum.inr (Sum.inl p_63.2)) h.osome
          try dsimp only at h
          refine J.widen (k' := 484) (sl' := 2904) (by omega) (by omega) ?_
          refine J_iconst (v := 0) C (by decide) dL_goesBack_71 rfl ?_
          rw [← hQQ]
          exact J_zret C hret rfl (Nat.le_of_ble_eq_true rfl) (Nat.le_of_ble_eq_true rfl) ⟨_, h.osome, rfl, rfl, rfl⟩ dL_goesBack_72
    unfold fL_goesBack_b22 at h
    refine J_iload (i := 9) (p := 9) C dL_goesBack_22 rfl rfl ?_
    refine J_iload (i := 7) (p := 7) C dL_goesBack_24 rfl rfl ?_
    refine J_icmp_ge (t := 203) C dL_goesBack_26 (by decide) rfl (fun c_65 => ?_) (fun c_65 => ?_)
    · have h := h.pos c_65
      have h := hE_22 (Sum.inl (τ_22, l8_22)) h.osome
      try dsimp only at h
      refine J.widen (k' := 484) (sl' := 2904) (by omega) (by omega) ?_
      refine J_aload_n (i := 0) (p := 0) C dL_goesBack_203 rfl rfl rfl ?_
      refine J_aload_n (i := 2) (p := 2) C dL_goesBack_204 rfl rfl rfl ?_
      refine J_bipush (v := 20) C (by decide) dL_goesBack_205 rfl ?_
      refine J_iload (i := 8) (p := 8) C dL_goesBack_207 rfl rfl ?_
      refine J_iadd C dL_goesBack_209 rfl ?_
      obtain ⟨g_66, h⟩ := Ok.ofgd h
      refine Jl_aald (r2 := 2 + Int32.toNatClampNeg ((20 : Int32) + l8_22)) C rfl g_66 dL_goesBack_210 rfl ?_
      refine Jl_cS (α := LawS) (rest := []) (st9 := fun p_67 => []) C hR hX cs_RL_151 (kL_sees hl (kl_row g_66) (Ok.ofbnd h)) rfl rfl (Nat.le_of_ble_eq_true rfl) (Nat.le_of_ble_eq_true rfl) (Nat.le_of_ble_eq_true rfl) ⟨(Nat.le_of_ble_eq_true rfl), (Nat.le_of_ble_eq_true rfl)⟩ dL_goesBack_211 rfl (fun _ => rfl) (fun p_67 h => ?_)
      have h : Ok _ _ := h
      change J X K 12 False QQ 484 2904 2064 (jl K p_67) 214 [(0, .ref (K.2.2 + 47)), (1, .ref (K.2.2 + 0)), (2, .ref (K.2.2 + 1)), (3, .ref (K.2.2 + 42)), (4, .ref (K.2.2 + 43)), (5, .ref (K.2.2 + 45)), (6, .int l6_22), (7, .int l7_22), (8, .int l8_22), (9, .int l9_22)] []
      refine J_iload (i := 8) (p := 8) C dL_goesBack_214 rfl rfl ?_
      obtain ⟨x9_11, e_x9_11, h⟩ := Ok.nm h
      refine J_istoreE (i := 9) (lv' := [(9, .int x9_11), (0, .ref (K.2.2 + 47)), (1, .ref (K.2.2 + 0)), (2, .ref (K.2.2 + 1)), (3, .ref (K.2.2 + 42)), (4, .ref (K.2.2 + 43)), (5, .ref (K.2.2 + 45)), (6, .int l6_22), (7, .int l7_22), (8, .int l8_22)]) C e_x9_11 dL_goesBack_216 (Nat.le_of_ble_eq_true rfl) rfl rfl ?_
      refine J.sub [1, 3, 4, 7, 9, 0] rfl ?_
      exact hj_218 p_67 l6_22 l8_22 x9_11 h
    · have h := h.neg c_65
      refine J_aload_n (i := 1) (p := 1) C dL_goesBack_29 rfl rfl rfl ?_
      refine Jl_cS (α := Int32 × LawS) (rest := []) (st9 := fun p_68 => [.int p_68.1]) C hR hX cs_RL_8 (kL_next hl  (Ok.ofbnd h)) rfl rfl (Nat.le_of_ble_eq_true rfl) (Nat.le_of_ble_eq_true rfl) (Nat.le_of_ble_eq_true rfl) ⟨(by omega), (by omega)⟩ dL_goesBack_30 rfl (fun _ => rfl) (fun p_68 h => ?_)
      have h : Ok _ _ := h
      change J X K 12 False QQ k_22 (6 * k_22) 2064 (jl K p_68.2) 33 [(0, .ref (K.2.2 + 47)), (1, .ref (K.2.2 + 0)), (2, .ref (K.2.2 + 1)), (3, .ref (K.2.2 + 42)), (4, .ref (K.2.2 + 43)), (5, .ref (K.2.2 + 45)), (6, .int l6_22), (7, .int l7_22), (8, .int l8_22), (9, .int l9_22)] [.int p_68.1]
      refine J_iconst (v := 5) C (by decide) dL_goesBack_33 rfl ?_
      refine J_irem C (by decide) dL_goesBack_34 rfl ?_
      refine J_if_ne (t := 42) C dL_goesBack_35 (by decide) rfl (fun c_69 => ?_) (fun c_69 => ?_)
      · have h := h.neg c_69
        refine J_iconst (v := 0) C (by decide) dL_goesBack_42 rfl ?_
        exact hj_43 p_68.2 l8_22 l9_22 (0 : Int32) h
      · have h := h.pos (Decidable.not_not.mp c_69)
        refine J_iconst (v := 1) C (by decide) dL_goesBack_38 rfl ?_
        refine J_goto (t := 43) C dL_goesBack_39 (by decide) ?_
        exact hj_43 p_68.2 l8_22 l9_22 (1 : Int32) h
  unfold fL_goesBack at h
  refine J_aload_n (i := 0) (p := 0) C dL_goesBack_0 rfl rfl rfl ?_
  refine J_iconst (v := 1) C (by decide) dL_goesBack_1 rfl ?_
  refine Jl_cV (α := Int32 × Sto) (rest := []) (st9 := fun p_72 => [.int p_72.1]) (wd := fun p_72 => p_72.2) C hR hX cv_RL_189 (k11_acts_n hl (Ok.ofnox h) (fun c hc => hc)) rfl rfl (Nat.le_of_ble_eq_true rfl) (Nat.le_of_ble_eq_true rfl) (Nat.le_of_ble_eq_true rfl) ⟨(Nat.le_of_ble_eq_true rfl), (Nat.le_of_ble_eq_true rfl)⟩ dL_goesBack_2 rfl (fun E n9 w9 hx => hx.elim) (fun _ => rfl) (fun p_72 h => ?_)
  have h : Ok _ _ := h
  change J X K 12 False QQ 0 0 2064 (jl K (τ.1, p_72.2)) 5 [(0, .ref (K.2.2 + 47)), (1, .ref (K.2.2 + 0)), (2, .ref (K.2.2 + 1)), (3, .ref (K.2.2 + 42)), (4, .ref (K.2.2 + 43)), (5, .ref (K.2.2 + 45))] [.int p_72.1]
  obtain ⟨x6_13, e_x6_13, h⟩ := Ok.nm h
  refine J_istoreE (i := 6) (lv' := [(6, .int x6_13), (0, .ref (K.2.2 + 47)), (1, .ref (K.2.2 + 0)), (2, .ref (K.2.2 + 1)), (3, .ref (K.2.2 + 42)), (4, .ref (K.2.2 + 43)), (5, .ref (K.2.2 + 45))]) C e_x6_13 dL_goesBack_5 (Nat.le_of_ble_eq_true rfl) rfl rfl ?_
  refine J_aload_n (i := 1) (p := 2) C dL_goesBack_7 rfl rfl rfl ?_
  refine J_iconst (v := 1) C (by decide) dL_goesBack_8 rfl ?_
  refine J_bipush (v := 10) C (by decide) dL_goesBack_9 rfl ?_
  refine Jl_cS (α := Int32 × LawS) (rest := []) (st9 := fun p_73 => [.int p_73.1]) C hR hX cs_RL_137 (kL_from hl  (Ok.ofbnd h)) rfl rfl (Nat.le_of_ble_eq_true rfl) (Nat.le_of_ble_eq_true rfl) (Nat.le_of_ble_eq_true rfl) ⟨(Nat.le_of_ble_eq_true rfl), (Nat.le_of_ble_eq_true rfl)⟩ dL_goesBack_11 rfl (fun _ => rfl) (fun p_73 h => ?_)
  have h : Ok _ _ := h
  change J X K 12 False QQ 0 0 2064 (jl K p_73.2) 14 [(6, .int x6_13), (0, .ref (K.2.2 + 47)), (1, .ref (K.2.2 + 0)), (2, .ref (K.2.2 + 1)), (3, .ref (K.2.2 + 42)), (4, .ref (K.2.2 + 43)), (5, .ref (K.2.2 + 45))] [.int p_73.1]
  obtain ⟨x7_14, e_x7_14, h⟩ := Ok.nm h
  refine J_istoreE (i := 7) (lv' := [(7, .int x7_14), (6, .int x6_13), (0, .ref (K.2.2 + 47)), (1, .ref (K.2.2 + 0)), (2, .ref (K.2.2 + 1)), (3, .ref (K.2.2 + 42)), (4, .ref (K.2.2 + 43)), (5, .ref (K.2.2 + 45))]) C e_x7_14 dL_goesBack_14 (Nat.le_of_ble_eq_true rfl) rfl rfl ?_
  refine J_iconst (v := 0) C (by decide) dL_goesBack_16 rfl ?_
  obtain ⟨x8_15, e_x8_15, h⟩ := Ok.nm h
  refine J_istoreE (i := 8) (lv' := [(8, .int x8_15), (7, .int x7_14), (6, .int x6_13), (0, .ref (K.2.2 + 47)), (1, .ref (K.2.2 + 0)), (2, .ref (K.2.2 + 1)), (3, .ref (K.2.2 + 42)), (4, .ref (K.2.2 + 43)), (5, .ref (K.2.2 + 45))]) C e_x8_15 dL_goesBack_17 (Nat.le_of_ble_eq_true rfl) rfl rfl ?_
  refine J_iconst (v := 0) C (by decide) dL_goesBack_19 rfl ?_
  obtain ⟨x9_16, e_x9_16, h⟩ := Ok.nm h
  refine J_istoreE (i := 9) (lv' := [(9, .int x9_16), (8, .int x8_15), (7, .int x7_14), (6, .int x6_13), (0, .ref (K.2.2 + 47)), (1, .ref (K.2.2 + 0)), (2, .ref (K.2.2 + 1)), (3, .ref (K.2.2 + 42)), (4, .ref (K.2.2 + 43)), (5, .ref (K.2.2 + 45))]) C e_x9_16 dL_goesBack_20 (Nat.le_of_ble_eq_true rfl) rfl rfl ?_
  refine J.sub [4, 5, 6, 7, 8, 9, 3, 2, 1, 0] rfl ?_
  exact hj_22 p_73.2 x6_13 x7_14 x8_15 x9_16 h
set_option maxHeartbeats 4000000 in
set_option maxRecDepth 100000 in
theorem kL_branches {l : Launch} {K : JK} (hl : l.stackTraces = false) {τ : LawS}   {Qf : Int32 × LawS → Prop} (h : Ok (fL_branches τ) Qf) : Con l K yL_branches (.code yL_branches cL_branches 9 (some .boolean) :: TB) 10 48 288 False [.ref (K.2.2 + 47), .ref (K.2.2 + 0), .ref (K.2.2 + 1), .ref (K.2.2 + 42), .ref (K.2.2 + 43)] 2064 (jl K τ) (PL Qf (fun p => some (.int p.1)) (fun p => jl K p.2)) PN := by
  refine Con.enter (own := RL) hl (by decide) rfl (Nat.le_of_ble_eq_true rfl) ?_
  intro X hX hR C hret hnt
  generalize hQQ : jQ X K 48 288 (PL Qf (fun p => some (.int p.1)) (fun p => jl K p.2)) PN False = QQ
  change J X K 9 False QQ 0 0 2064 (jl K τ) 0 [(0, .ref (K.2.2 + 47)), (1, .ref (K.2.2 + 0)), (2, .ref (K.2.2 + 1)), (3, .ref (K.2.2 + 42)), (4, .ref (K.2.2 + 43))] []
  have hj_340 : (∀ (τ_340 : LawS) (s0_340 : Int32), Ok (fL_branches_j340 τ_340 s0_340) Qf → J X K 9 False QQ 48 288 2064 (jl K τ_340) 340 [] [.int s0_340]) := by
    intro τ_340 s0_340 h
    unfold fL_branches_j340 at h
    obtain ⟨g_1, h⟩ := Ok.ofgd h
    rw [← hQQ]
    exact J_zret C hret (narB g_1).1 (Nat.le_of_ble_eq_true rfl) (Nat.le_of_ble_eq_true rfl) ⟨_, h.osome, rfl, rfl, rfl⟩ dL_branches_340
  have hj_339 : (∀ (τ_339 : LawS), Ok (fL_branches_j339 τ_339) Qf → J X K 9 False QQ 48 288 2064 (jl K τ_339) 339 [] []) := by
    intro τ_339 h
    unfold fL_branches_j339 at h
    refine J_iconst (v := 0) C (by decide) dL_branches_339 rfl ?_
    exact hj_340 τ_339 (0 : Int32) h
  have hj_310 : (∀ (τ_310 : LawS) (s0_310 : Int32), Ok (fL_branches_j310 τ_310 s0_310) Qf → J X K 9 False QQ 44 264 2064 (jl K τ_310) 310 [(0, .ref (K.2.2 + 47))] [.int s0_310]) := by
    intro τ_310 s0_310 h
    unfold fL_branches_j310 at h
    obtain ⟨x8_1, e_x8_1, h⟩ := Ok.nm h
    refine J_istoreE (i := 8) (lv' := [(8, .int x8_1), (0, .ref (K.2.2 + 47))]) C e_x8_1 dL_branches_310 (Nat.le_of_ble_eq_true rfl) rfl rfl ?_
    refine J_iload (i := 8) (p := 0) C dL_branches_312 rfl rfl ?_
    refine J_if_eq (t := 339) C dL_branches_314 (by decide) rfl (fun c_2 => ?_) (fun c_2 => ?_)
    · have h := h.pos c_2
      refine J.widen (k' := 48) (sl' := 288) (Nat.le_of_ble_eq_true rfl) (Nat.le_of_ble_eq_true rfl) ?_
      refine J.sub [] rfl ?_
      exact hj_339 τ_310 h
    · have h := h.neg c_2
      refine J_aload_n (i := 0) (p := 1) C dL_branches_317 rfl rfl rfl ?_
      refine J_bipush (v := 12) C (by decide) dL_branches_318 rfl ?_
      refine J_aload_n (i := 0) (p := 1) C dL_branches_320 rfl rfl rfl ?_
      refine J_iconst (v := 3) C (by decide) dL_branches_321 rfl ?_
      refine Jl_cV (α := Int32 × Sto) (rest := [.int (12 : Int32), .ref (K.2.2 + 47)]) (st9 := fun p_3 => [.int p_3.1, .int (12 : Int32), .ref (K.2.2 + 47)]) (wd := fun p_3 => p_3.2) C hR hX cv_RL_189 (k11_acts_n hl (Ok.ofnox h) (fun c hc => hc)) rfl rfl (Nat.le_of_ble_eq_true rfl) (Nat.le_of_ble_eq_true rfl) (Nat.le_of_ble_eq_true rfl) ⟨(Nat.le_of_ble_eq_true rfl), (Nat.le_of_ble_eq_true rfl)⟩ dL_branches_322 rfl (fun E n9 w9 hx => hx.elim) (fun _ => rfl) (fun p_3 h => ?_)
      have h : Ok _ _ := h
      change J X K 9 False QQ 44 264 2064 (jl K (τ_310.1, p_3.2)) 325 [(8, .int x8_1), (0, .ref (K.2.2 + 47))] [.int p_3.1, .int (12 : Int32), .ref (K.2.2 + 47)]
      refine J_iconst (v := 0) C (by decide) dL_branches_325 rfl ?_
      refine J_iconst (v := 0) C (by decide) dL_branches_326 rfl ?_
      refine Jl_cH (α := Int32 × LawS) (rest := []) (st9 := fun p_4 => [.int p_4.1]) C hR hX ch_RL_174 (kL_done hl  (Ok.ofbnd h)) rfl rfl (Nat.le_of_ble_eq_true rfl) (Nat.le_of_ble_eq_true rfl) (Nat.le_of_ble_eq_true rfl) ⟨(Nat.le_of_ble_eq_true rfl), (Nat.le_of_ble_eq_true rfl)⟩ dL_branches_327 rfl (fun _ => rfl) (fun p_4 h => ?_)
      have h : Ok _ _ := h
      change J X K 9 False QQ 48 288 2064 (jl K p_4.2) 330 [(8, .int x8_1), (0, .ref (K.2.2 + 47))] [.int p_4.1]
      refine J_ldc (v := -1000004) C ci_RL_126 dL_branches_330 rfl ?_
      refine J_icmp_ne (t := 339) C dL_branches_332 (by decide) rfl (fun c_5 => ?_) (fun c_5 => ?_)
      · have h := h.neg c_5
        refine J.sub [] rfl ?_
        exact hj_339 p_4.2 h
      · have h := h.pos (Decidable.not_not.mp c_5)
        refine J_iconst (v := 1) C (by decide) dL_branches_335 rfl ?_
        refine J_goto (t := 340) C dL_branches_336 (by decide) ?_
        refine J.sub [] rfl ?_
        exact hj_340 p_4.2 (1 : Int32) h
  have hj_309 : (∀ (τ_309 : LawS), Ok (fL_branches_j309 τ_309) Qf → J X K 9 False QQ 44 264 2064 (jl K τ_309) 309 [(0, .ref (K.2.2 + 47))] []) := by
    intro τ_309 h
    unfold fL_branches_j309 at h
    refine J_iconst (v := 0) C (by decide) dL_branches_309 rfl ?_
    exact hj_310 τ_309 (0 : Int32) h
  have hj_205 : (∀ (τ_205 : LawS) (l5_205 : Int32) (s0_205 : Int32), Ok (fL_branches_j205 τ_205 l5_205 s0_205) Qf → J X K 9 False QQ 24 144 2064 (jl K τ_205) 205 [(0, .ref (K.2.2 + 47)), (2, .ref (K.2.2 + 1)), (3, .ref (K.2.2 + 42)), (5, .int l5_205)] [.int s0_205]) := by
    intro τ_205 l5_205 s0_205 h
    unfold fL_branches_j205 at h
    obtain ⟨x8_2, e_x8_2, h⟩ := Ok.nm h
    refine J_istoreE (i := 8) (lv' := [(8, .int x8_2), (0, .ref (K.2.2 + 47)), (2, .ref (K.2.2 + 1)), (3, .ref (K.2.2 + 42)), (5, .int l5_205)]) C e_x8_2 dL_branches_205 (Nat.le_of_ble_eq_true rfl) rfl rfl ?_
    refine J_iload (i := 8) (p := 0) C dL_branches_207 rfl rfl ?_
    refine J_if_eq (t := 309) C dL_branches_209 (by decide) rfl (fun c_6 => ?_) (fun c_6 => ?_)
    · have h := h.pos c_6
      refine J.widen (k' := 44) (sl' := 264) (Nat.le_of_ble_eq_true rfl) (Nat.le_of_ble_eq_true rfl) ?_
      refine J.sub [1] rfl ?_
      exact hj_309 τ_205 h
    · have h := h.neg c_6
      refine J_aload_n (i := 0) (p := 1) C dL_branches_212 rfl rfl rfl ?_
      refine J_bipush (v := 10) C (by decide) dL_branches_213 rfl ?_
      refine J_iconst (v := 1) C (by decide) dL_branches_215 rfl ?_
      refine J_iconst (v := 0) C (by decide) dL_branches_216 rfl ?_
      refine J_iconst (v := 0) C (by decide) dL_branches_217 rfl ?_
      refine Jl_cH (α := Int32 × LawS) (rest := []) (st9 := fun p_7 => [.int p_7.1]) C hR hX ch_RL_174 (kL_done hl  (Ok.ofbnd h)) rfl rfl (Nat.le_of_ble_eq_true rfl) (Nat.le_of_ble_eq_true rfl) (Nat.le_of_ble_eq_true rfl) ⟨(Nat.le_of_ble_eq_true rfl), (Nat.le_of_ble_eq_true rfl)⟩ dL_branches_218 rfl (fun _ => rfl) (fun p_7 h => ?_)
      have h : Ok _ _ := h
      change J X K 9 False QQ 28 168 2064 (jl K p_7.2) 221 [(8, .int x8_2), (0, .ref (K.2.2 + 47)), (2, .ref (K.2.2 + 1)), (3, .ref (K.2.2 + 42)), (5, .int l5_205)] [.int p_7.1]
      refine J_iconst (v := 1) C (by decide) dL_branches_221 rfl ?_
      refine J_icmp_ne (t := 309) C dL_branches_222 (by decide) rfl (fun c_8 => ?_) (fun c_8 => ?_)
      · have h := h.neg c_8
        refine J.widen (k' := 44) (sl' := 264) (Nat.le_of_ble_eq_true rfl) (Nat.le_of_ble_eq_true rfl) ?_
        refine J.sub [1] rfl ?_
        exact hj_309 p_7.2 h
      · have h := h.pos (Decidable.not_not.mp c_8)
        refine J_aload_n (i := 0) (p := 1) C dL_branches_225 rfl rfl rfl ?_
        refine J_bipush (v := 11) C (by decide) dL_branches_226 rfl ?_
        refine J_iconst (v := 1) C (by decide) dL_branches_228 rfl ?_
        refine J_iconst (v := 0) C (by decide) dL_branches_229 rfl ?_
        refine J_iconst (v := 0) C (by decide) dL_branches_230 rfl ?_
        refine Jl_cH (α := Int32 × LawS) (rest := []) (st9 := fun p_9 => [.int p_9.1]) C hR hX ch_RL_174 (kL_done hl  (Ok.ofbnd h)) rfl rfl (Nat.le_of_ble_eq_true rfl) (Nat.le_of_ble_eq_true rfl) (Nat.le_of_ble_eq_true rfl) ⟨(Nat.le_of_ble_eq_true rfl), (Nat.le_of_ble_eq_true rfl)⟩ dL_branches_231 rfl (fun _ => rfl) (fun p_9 h => ?_)
        have h : Ok _ _ := h
        change J X K 9 False QQ 32 192 2064 (jl K p_9.2) 234 [(8, .int x8_2), (0, .ref (K.2.2 + 47)), (2, .ref (K.2.2 + 1)), (3, .ref (K.2.2 + 42)), (5, .int l5_205)] [.int p_9.1]
        refine J_iconst (v := 1) C (by decide) dL_branches_234 rfl ?_
        refine J_icmp_ne (t := 309) C dL_branches_235 (by decide) rfl (fun c_10 => ?_) (fun c_10 => ?_)
        · have h := h.neg c_10
          refine J.widen (k' := 44) (sl' := 264) (Nat.le_of_ble_eq_true rfl) (Nat.le_of_ble_eq_true rfl) ?_
          refine J.sub [1] rfl ?_
          exact hj_309 p_9.2 h
        · have h := h.pos (Decidable.not_not.mp c_10)
          refine J_aload_n (i := 0) (p := 1) C dL_branches_238 rfl rfl rfl ?_
          refine J_aload_n (i := 2) (p := 2) C dL_branches_239 rfl rfl rfl ?_
          refine J_iconst (v := 1) C (by decide) dL_branches_240 rfl ?_
          refine Jl_aald (r2 := 3) C rfl (by decide) dL_branches_241 rfl ?_
          refine J_aload_n (i := 3) (p := 3) C dL_branches_242 rfl rfl rfl ?_
          refine Jl_cS (α := Int32 × LawS) (rest := []) (st9 := fun p_11 => [.int p_11.1]) C hR hX cs_RL_178 (kL_isLike hl rfl (Ok.ofbnd h)) rfl rfl (Nat.le_of_ble_eq_true rfl) (Nat.le_of_ble_eq_true rfl) (Nat.le_of_ble_eq_true rfl) ⟨(Nat.le_of_ble_eq_true rfl), (Nat.le_of_ble_eq_true rfl)⟩ dL_branches_243 rfl (fun _ => rfl) (fun p_11 h => ?_)
          have h : Ok _ _ := h
          change J X K 9 False QQ 32 192 2064 (jl K p_11.2) 246 [(8, .int x8_2), (0, .ref (K.2.2 + 47)), (2, .ref (K.2.2 + 1)), (3, .ref (K.2.2 + 42)), (5, .int l5_205)] [.int p_11.1]
          refine J_if_eq (t := 309) C dL_branches_246 (by decide) rfl (fun c_12 => ?_) (fun c_12 => ?_)
          · have h := h.pos c_12
            refine J.widen (k' := 44) (sl' := 264) (Nat.le_of_ble_eq_true rfl) (Nat.le_of_ble_eq_true rfl) ?_
            refine J.sub [1] rfl ?_
            exact hj_309 p_11.2 h
          · have h := h.neg c_12
            refine J_aload_n (i := 0) (p := 1) C dL_branches_249 rfl rfl rfl ?_
            refine J_bipush (v := 10) C (by decide) dL_branches_250 rfl ?_
            refine J_iconst (v := 1) C (by decide) dL_branches_252 rfl ?_
            refine J_iconst (v := 0) C (by decide) dL_branches_253 rfl ?_
            refine J_iconst (v := 0) C (by decide) dL_branches_254 rfl ?_
            refine Jl_cH (α := Int32 × LawS) (rest := []) (st9 := fun p_13 => [.int p_13.1]) C hR hX ch_RL_174 (kL_done hl  (Ok.ofbnd h)) rfl rfl (Nat.le_of_ble_eq_true rfl) (Nat.le_of_ble_eq_true rfl) (Nat.le_of_ble_eq_true rfl) ⟨(Nat.le_of_ble_eq_true rfl), (Nat.le_of_ble_eq_true rfl)⟩ dL_branches_255 rfl (fun _ => rfl) (fun p_13 h => ?_)
            have h : Ok _ _ := h
            change J X K 9 False QQ 36 216 2064 (jl K p_13.2) 258 [(8, .int x8_2), (0, .ref (K.2.2 + 47)), (2, .ref (K.2.2 + 1)), (3, .ref (K.2.2 + 42)), (5, .int l5_205)] [.int p_13.1]
            refine J_iconst (v := 1) C (by decide) dL_branches_258 rfl ?_
            refine J_icmp_ne (t := 309) C dL_branches_259 (by decide) rfl (fun c_14 => ?_) (fun c_14 => ?_)
            · have h := h.neg c_14
              refine J.widen (k' := 44) (sl' := 264) (Nat.le_of_ble_eq_true rfl) (Nat.le_of_ble_eq_true rfl) ?_
              refine J.sub [1] rfl ?_
              exact hj_309 p_13.2 h
            · have h := h.pos (Decidable.not_not.mp c_14)
              refine J_aload_n (i := 0) (p := 1) C dL_branches_262 rfl rfl rfl ?_
              refine J_bipush (v := 12) C (by decide) dL_branches_263 rfl ?_
              refine J_iload (i := 5) (p := 4) C dL_branches_265 rfl rfl ?_
              refine J_iconst (v := 1) C (by decide) dL_branches_267 rfl ?_
              refine J_iadd C dL_branches_268 rfl ?_
              refine J_iconst (v := 0) C (by decide) dL_branches_269 rfl ?_
              refine J_iconst (v := 0) C (by decide) dL_branches_270 rfl ?_
              refine Jl_cH (α := Int32 × LawS) (rest := []) (st9 := fun p_15 => [.int p_15.1]) C hR hX ch_RL_174 (kL_done hl  (Ok.ofbnd h)) rfl rfl (Nat.le_of_ble_eq_true rfl) (Nat.le_of_ble_eq_true rfl) (Nat.le_of_ble_eq_true rfl) ⟨(Nat.le_of_ble_eq_true rfl), (Nat.le_of_ble_eq_true rfl)⟩ dL_branches_271 rfl (fun _ => rfl) (fun p_15 h => ?_)
              have h : Ok _ _ := h
              change J X K 9 False QQ 40 240 2064 (jl K p_15.2) 274 [(8, .int x8_2), (0, .ref (K.2.2 + 47)), (2, .ref (K.2.2 + 1)), (3, .ref (K.2.2 + 42)), (5, .int l5_205)] [.int p_15.1]
              refine J_iload (i := 5) (p := 4) C dL_branches_274 rfl rfl ?_
              refine J_iconst (v := 2) C (by decide) dL_branches_276 rfl ?_
              refine J_iadd C dL_branches_277 rfl ?_
              refine J_icmp_ne (t := 309) C dL_branches_278 (by decide) rfl (fun c_16 => ?_) (fun c_16 => ?_)
              · have h := h.neg c_16
                refine J.widen (k' := 44) (sl' := 264) (Nat.le_of_ble_eq_true rfl) (Nat.le_of_ble_eq_true rfl) ?_
                refine J.sub [1] rfl ?_
                exact hj_309 p_15.2 h
              · have h := h.pos (Decidable.not_not.mp c_16)
                refine J_aload_n (i := 0) (p := 1) C dL_branches_281 rfl rfl rfl ?_
                refine J_bipush (v := 11) C (by decide) dL_branches_282 rfl ?_
                refine J_iconst (v := 1) C (by decide) dL_branches_284 rfl ?_
                refine J_iconst (v := 0) C (by decide) dL_branches_285 rfl ?_
                refine J_iconst (v := 0) C (by decide) dL_branches_286 rfl ?_
                refine Jl_cH (α := Int32 × LawS) (rest := []) (st9 := fun p_17 => [.int p_17.1]) C hR hX ch_RL_174 (kL_done hl  (Ok.ofbnd h)) rfl rfl (Nat.le_of_ble_eq_true rfl) (Nat.le_of_ble_eq_true rfl) (Nat.le_of_ble_eq_true rfl) ⟨(Nat.le_of_ble_eq_true rfl), (Nat.le_of_ble_eq_true rfl)⟩ dL_branches_287 rfl (fun _ => rfl) (fun p_17 h => ?_)
                have h : Ok _ _ := h
                change J X K 9 False QQ 44 264 2064 (jl K p_17.2) 290 [(8, .int x8_2), (0, .ref (K.2.2 + 47)), (2, .ref (K.2.2 + 1)), (3, .ref (K.2.2 + 42)), (5, .int l5_205)] [.int p_17.1]
                refine J_iconst (v := 1) C (by decide) dL_branches_290 rfl ?_
                refine J_icmp_ne (t := 309) C dL_branches_291 (by decide) rfl (fun c_18 => ?_) (fun c_18 => ?_)
                · have h := h.neg c_18
                  refine J.sub [1] rfl ?_
                  exact hj_309 p_17.2 h
                · have h := h.pos (Decidable.not_not.mp c_18)
                  refine J_aload_n (i := 0) (p := 1) C dL_branches_294 rfl rfl rfl ?_
                  refine J_aload_n (i := 2) (p := 2) C dL_branches_295 rfl rfl rfl ?_
                  refine J_iconst (v := 2) C (by decide) dL_branches_296 rfl ?_
                  refine Jl_aald (r2 := 4) C rfl (by decide) dL_branches_297 rfl ?_
                  refine J_aload_n (i := 3) (p := 3) C dL_branches_298 rfl rfl rfl ?_
                  refine Jl_cS (α := Int32 × LawS) (rest := []) (st9 := fun p_19 => [.int p_19.1]) C hR hX cs_RL_178 (kL_isLike hl rfl (Ok.ofbnd h)) rfl rfl (Nat.le_of_ble_eq_true rfl) (Nat.le_of_ble_eq_true rfl) (Nat.le_of_ble_eq_true rfl) ⟨(Nat.le_of_ble_eq_true rfl), (Nat.le_of_ble_eq_true rfl)⟩ dL_branches_299 rfl (fun _ => rfl) (fun p_19 h => ?_)
                  have h : Ok _ _ := h
                  change J X K 9 False QQ 44 264 2064 (jl K p_19.2) 302 [(8, .int x8_2), (0, .ref (K.2.2 + 47)), (2, .ref (K.2.2 + 1)), (3, .ref (K.2.2 + 42)), (5, .int l5_205)] [.int p_19.1]
                  refine J_if_eq (t := 309) C dL_branches_302 (by decide) rfl (fun c_20 => ?_) (fun c_20 => ?_)
                  · have h := h.pos c_20
                    refine J.sub [1] rfl ?_
                    exact hj_309 p_19.2 h
                  · have h := h.neg c_20
                    refine J_iconst (v := 1) C (by decide) dL_branches_305 rfl ?_
                    refine J_goto (t := 310) C dL_branches_306 (by decide) ?_
                    refine J.sub [1] rfl ?_
                    exact hj_310 p_19.2 (1 : Int32) h
  have hj_204 : (∀ (τ_204 : LawS) (l5_204 : Int32), Ok (fL_branches_j204 τ_204 l5_204) Qf → J X K 9 False QQ 24 144 2064 (jl K τ_204) 204 [(0, .ref (K.2.2 + 47)), (2, .ref (K.2.2 + 1)), (3, .ref (K.2.2 + 42)), (5, .int l5_204)] []) := by
    intro τ_204 l5_204 h
    unfold fL_branches_j204 at h
    refine J_iconst (v := 0) C (by decide) dL_branches_204 rfl ?_
    exact hj_205 τ_204 l5_204 (0 : Int32) h
  have hj_96 : (∀ (τ_96 : LawS), Ok (fL_branches_j96 τ_96) Qf → J X K 9 False QQ 8 48 2064 (jl K τ_96) 96 [] []) := by
    intro τ_96 h
    unfold fL_branches_j96 at h
    refine J_iconst (v := 0) C (by decide) dL_branches_96 rfl ?_
    rw [← hQQ]
    exact J_zret C hret rfl (Nat.le_of_ble_eq_true rfl) (Nat.le_of_ble_eq_true rfl) ⟨_, h.osome, rfl, rfl, rfl⟩ dL_branches_97
  have hj_37 : (∀ (τ_37 : LawS), Ok (fL_branches_j37 τ_37) Qf → J X K 9 False QQ 0 0 2064 (jl K τ_37) 37 [] []) := by
    intro τ_37 h
    unfold fL_branches_j37 at h
    refine J_iconst (v := 1) C (by decide) dL_branches_37 rfl ?_
    rw [← hQQ]
    exact J_zret C hret rfl (Nat.le_of_ble_eq_true rfl) (Nat.le_of_ble_eq_true rfl) ⟨_, h.osome, rfl, rfl, rfl⟩ dL_branches_38
  unfold fL_branches at h
  refine J_aload_n (i := 0) (p := 0) C dL_branches_0 rfl rfl rfl ?_
  refine J_aload_n (i := 2) (p := 2) C dL_branches_1 rfl rfl rfl ?_
  refine J_iconst (v := 0) C (by decide) dL_branches_2 rfl ?_
  refine Jl_aald (r2 := 2) C rfl (by decide) dL_branches_3 rfl ?_
  refine Jl_cS (α := LawS) (rest := []) (st9 := fun p_21 => []) C hR hX cs_RL_151 (kL_sees hl rfl (Ok.ofbnd h)) rfl rfl (Nat.le_of_ble_eq_true rfl) (Nat.le_of_ble_eq_true rfl) (Nat.le_of_ble_eq_true rfl) ⟨(Nat.le_of_ble_eq_true rfl), (Nat.le_of_ble_eq_true rfl)⟩ dL_branches_4 rfl (fun _ => rfl) (fun p_21 h => ?_)
  have h : Ok _ _ := h
  change J X K 9 False QQ 0 0 2064 (jl K p_21) 7 [(0, .ref (K.2.2 + 47)), (1, .ref (K.2.2 + 0)), (2, .ref (K.2.2 + 1)), (3, .ref (K.2.2 + 42)), (4, .ref (K.2.2 + 43))] []
  refine J_aload_n (i := 0) (p := 0) C dL_branches_7 rfl rfl rfl ?_
  refine J_iconst (v := 3) C (by decide) dL_branches_8 rfl ?_
  refine Jl_cV (α := Int32 × Sto) (rest := []) (st9 := fun p_22 => [.int p_22.1]) (wd := fun p_22 => p_22.2) C hR hX cv_RL_189 (k11_acts_n hl (Ok.ofnox h) (fun c hc => hc)) rfl rfl (Nat.le_of_ble_eq_true rfl) (Nat.le_of_ble_eq_true rfl) (Nat.le_of_ble_eq_true rfl) ⟨(Nat.le_of_ble_eq_true rfl), (Nat.le_of_ble_eq_true rfl)⟩ dL_branches_9 rfl (fun E n9 w9 hx => hx.elim) (fun _ => rfl) (fun p_22 h => ?_)
  have h : Ok _ _ := h
  change J X K 9 False QQ 0 0 2064 (jl K (p_21.1, p_22.2)) 12 [(0, .ref (K.2.2 + 47)), (1, .ref (K.2.2 + 0)), (2, .ref (K.2.2 + 1)), (3, .ref (K.2.2 + 42)), (4, .ref (K.2.2 + 43))] [.int p_22.1]
  obtain ⟨x5_3, e_x5_3, h⟩ := Ok.nm h
  refine J_istoreE (i := 5) (lv' := [(5, .int x5_3), (0, .ref (K.2.2 + 47)), (1, .ref (K.2.2 + 0)), (2, .ref (K.2.2 + 1)), (3, .ref (K.2.2 + 42)), (4, .ref (K.2.2 + 43))]) C e_x5_3 dL_branches_12 (Nat.le_of_ble_eq_true rfl) rfl rfl ?_
  refine J_aload (i := 4) (p := 5) C dL_branches_14 rfl rfl ?_
  refine J_iconst (v := 0) C (by decide) dL_branches_16 rfl ?_
  refine J_bipush (v := 120) C (by decide) dL_branches_17 rfl ?_
  obtain ⟨g_23, h⟩ := Ok.ofgd h
  obtain ⟨τx_4, e_τx_4, h⟩ := Ok.nm h
  refine Jl_iast C id rfl rfl g_23 e_τx_4 dL_branches_19 rfl ?_
  refine J_aload_n (i := 0) (p := 1) C dL_branches_20 rfl rfl rfl ?_
  refine J_aload (i := 4) (p := 5) C dL_branches_21 rfl rfl ?_
  refine J_iconst (v := 1) C (by decide) dL_branches_23 rfl ?_
  refine Jl_cS (α := Int32 × LawS) (rest := []) (st9 := fun p_24 => [.int p_24.1]) C hR hX cs_RL_165 (kL_feeds hl rfl (Ok.ofbnd h)) rfl rfl (Nat.le_of_ble_eq_true rfl) (Nat.le_of_ble_eq_true rfl) (Nat.le_of_ble_eq_true rfl) ⟨(Nat.le_of_ble_eq_true rfl), (Nat.le_of_ble_eq_true rfl)⟩ dL_branches_24 rfl (fun _ => rfl) (fun p_24 h => ?_)
  have h : Ok _ _ := h
  change J X K 9 False QQ 0 0 2064 (jl K p_24.2) 27 [(5, .int x5_3), (0, .ref (K.2.2 + 47)), (1, .ref (K.2.2 + 0)), (2, .ref (K.2.2 + 1)), (3, .ref (K.2.2 + 42)), (4, .ref (K.2.2 + 43))] [.int p_24.1]
  refine J_if_eq (t := 37) C dL_branches_27 (by decide) rfl (fun c_25 => ?_) (fun c_25 => ?_)
  · have h := h.pos c_25
    refine J.sub [] rfl ?_
    exact hj_37 p_24.2 h
  · have h := h.neg c_25
    refine J_iload (i := 5) (p := 0) C dL_branches_30 rfl rfl ?_
    refine J_bipush (v := 8) C (by decide) dL_branches_32 rfl ?_
    refine J_icmp_le (t := 39) C dL_branches_34 (by decide) rfl (fun c_26 => ?_) (fun c_26 => ?_)
    · have h := h.pos c_26
      refine J_aload_n (i := 0) (p := 1) C dL_branches_39 rfl rfl rfl ?_
      refine J_iconst (v := 0) C (by decide) dL_branches_40 rfl ?_
      refine J_iconst (v := 0) C (by decide) dL_branches_41 rfl ?_
      refine J_iconst (v := 0) C (by decide) dL_branches_42 rfl ?_
      refine J_iconst (v := 0) C (by decide) dL_branches_43 rfl ?_
      refine Jl_cH (α := Int32 × LawS) (rest := []) (st9 := fun p_27 => [.int p_27.1]) C hR hX ch_RL_174 (kL_done hl  (Ok.ofbnd h)) rfl rfl (Nat.le_of_ble_eq_true rfl) (Nat.le_of_ble_eq_true rfl) (Nat.le_of_ble_eq_true rfl) ⟨(Nat.le_of_ble_eq_true rfl), (Nat.le_of_ble_eq_true rfl)⟩ dL_branches_44 rfl (fun _ => rfl) (fun p_27 h => ?_)
      have h : Ok _ _ := h
      change J X K 9 False QQ 4 24 2064 (jl K p_27.2) 47 [(5, .int x5_3), (0, .ref (K.2.2 + 47)), (1, .ref (K.2.2 + 0)), (2, .ref (K.2.2 + 1)), (3, .ref (K.2.2 + 42)), (4, .ref (K.2.2 + 43))] [.int p_27.1]
      obtain ⟨x6_5, e_x6_5, h⟩ := Ok.nm h
      refine J_istoreE (i := 6) (lv' := [(6, .int x6_5), (5, .int x5_3), (0, .ref (K.2.2 + 47)), (1, .ref (K.2.2 + 0)), (2, .ref (K.2.2 + 1)), (3, .ref (K.2.2 + 42)), (4, .ref (K.2.2 + 43))]) C e_x6_5 dL_branches_47 (Nat.le_of_ble_eq_true rfl) rfl rfl ?_
      refine J_iload (i := 6) (p := 0) C dL_branches_49 rfl rfl ?_
      refine J_ldc (v := -1000003) C ci_RL_123 dL_branches_51 rfl ?_
      refine J_icmp_ne (t := 65) C dL_branches_53 (by decide) rfl (fun c_28 => ?_) (fun c_28 => ?_)
      · have h := h.neg c_28
        refine J_aload_n (i := 0) (p := 2) C dL_branches_65 rfl rfl rfl ?_
        refine J_aload_n (i := 2) (p := 4) C dL_branches_66 rfl rfl rfl ?_
        refine J_iconst (v := 1) C (by decide) dL_branches_67 rfl ?_
        refine Jl_aald (r2 := 3) C rfl (by decide) dL_branches_68 rfl ?_
        refine Jl_cS (α := LawS) (rest := []) (st9 := fun p_29 => []) C hR hX cs_RL_151 (kL_sees hl rfl (Ok.ofbnd h)) rfl rfl (Nat.le_of_ble_eq_true rfl) (Nat.le_of_ble_eq_true rfl) (Nat.le_of_ble_eq_true rfl) ⟨(Nat.le_of_ble_eq_true rfl), (Nat.le_of_ble_eq_true rfl)⟩ dL_branches_69 rfl (fun _ => rfl) (fun p_29 h => ?_)
        have h : Ok _ _ := h
        change J X K 9 False QQ 4 24 2064 (jl K p_29) 72 [(6, .int x6_5), (5, .int x5_3), (0, .ref (K.2.2 + 47)), (1, .ref (K.2.2 + 0)), (2, .ref (K.2.2 + 1)), (3, .ref (K.2.2 + 42)), (4, .ref (K.2.2 + 43))] []
        refine J_aload_n (i := 0) (p := 2) C dL_branches_72 rfl rfl rfl ?_
        refine J_bipush (v := 10) C (by decide) dL_branches_73 rfl ?_
        refine J_iconst (v := 1) C (by decide) dL_branches_75 rfl ?_
        refine J_iconst (v := 0) C (by decide) dL_branches_76 rfl ?_
        refine J_iconst (v := 0) C (by decide) dL_branches_77 rfl ?_
        refine Jl_cH (α := Int32 × LawS) (rest := []) (st9 := fun p_30 => [.int p_30.1]) C hR hX ch_RL_174 (kL_done hl  (Ok.ofbnd h)) rfl rfl (Nat.le_of_ble_eq_true rfl) (Nat.le_of_ble_eq_true rfl) (Nat.le_of_ble_eq_true rfl) ⟨(Nat.le_of_ble_eq_true rfl), (Nat.le_of_ble_eq_true rfl)⟩ dL_branches_78 rfl (fun _ => rfl) (fun p_30 h => ?_)
        have h : Ok _ _ := h
        change J X K 9 False QQ 8 48 2064 (jl K p_30.2) 81 [(6, .int x6_5), (5, .int x5_3), (0, .ref (K.2.2 + 47)), (1, .ref (K.2.2 + 0)), (2, .ref (K.2.2 + 1)), (3, .ref (K.2.2 + 42)), (4, .ref (K.2.2 + 43))] [.int p_30.1]
        refine J_iconst (v := 1) C (by decide) dL_branches_81 rfl ?_
        refine J_icmp_ne (t := 96) C dL_branches_82 (by decide) rfl (fun c_31 => ?_) (fun c_31 => ?_)
        · have h := h.neg c_31
          refine J.sub [] rfl ?_
          exact hj_96 p_30.2 h
        · have h := h.pos (Decidable.not_not.mp c_31)
          refine J_aload_n (i := 0) (p := 2) C dL_branches_85 rfl rfl rfl ?_
          refine J_aload_n (i := 2) (p := 4) C dL_branches_86 rfl rfl rfl ?_
          refine J_iconst (v := 0) C (by decide) dL_branches_87 rfl ?_
          refine Jl_aald (r2 := 2) C rfl (by decide) dL_branches_88 rfl ?_
          refine J_aload_n (i := 3) (p := 5) C dL_branches_89 rfl rfl rfl ?_
          refine Jl_cS (α := Int32 × LawS) (rest := []) (st9 := fun p_32 => [.int p_32.1]) C hR hX cs_RL_178 (kL_isLike hl rfl (Ok.ofbnd h)) rfl rfl (Nat.le_of_ble_eq_true rfl) (Nat.le_of_ble_eq_true rfl) (Nat.le_of_ble_eq_true rfl) ⟨(Nat.le_of_ble_eq_true rfl), (Nat.le_of_ble_eq_true rfl)⟩ dL_branches_90 rfl (fun _ => rfl) (fun p_32 h => ?_)
          have h : Ok _ _ := h
          change J X K 9 False QQ 8 48 2064 (jl K p_32.2) 93 [(6, .int x6_5), (5, .int x5_3), (0, .ref (K.2.2 + 47)), (1, .ref (K.2.2 + 0)), (2, .ref (K.2.2 + 1)), (3, .ref (K.2.2 + 42)), (4, .ref (K.2.2 + 43))] [.int p_32.1]
          refine J_if_ne (t := 98) C dL_branches_93 (by decide) rfl (fun c_33 => ?_) (fun c_33 => ?_)
          · have h := h.neg c_33
            refine J_aload_n (i := 0) (p := 2) C dL_branches_98 rfl rfl rfl ?_
            refine J_iconst (v := 2) C (by decide) dL_branches_99 rfl ?_
            refine J_iconst (v := 0) C (by decide) dL_branches_100 rfl ?_
            refine J_iconst (v := 0) C (by decide) dL_branches_101 rfl ?_
            refine J_iconst (v := 0) C (by decide) dL_branches_102 rfl ?_
            refine Jl_cH (α := Int32 × LawS) (rest := []) (st9 := fun p_34 => [.int p_34.1]) C hR hX ch_RL_174 (kL_done hl  (Ok.ofbnd h)) rfl rfl (Nat.le_of_ble_eq_true rfl) (Nat.le_of_ble_eq_true rfl) (Nat.le_of_ble_eq_true rfl) ⟨(Nat.le_of_ble_eq_true rfl), (Nat.le_of_ble_eq_true rfl)⟩ dL_branches_103 rfl (fun _ => rfl) (fun p_34 h => ?_)
            have h : Ok _ _ := h
            change J X K 9 False QQ 12 72 2064 (jl K p_34.2) 106 [(6, .int x6_5), (5, .int x5_3), (0, .ref (K.2.2 + 47)), (1, .ref (K.2.2 + 0)), (2, .ref (K.2.2 + 1)), (3, .ref (K.2.2 + 42)), (4, .ref (K.2.2 + 43))] [.int p_34.1]
            obtain ⟨x7_6, e_x7_6, h⟩ := Ok.nm h
            refine J_istoreE (i := 7) (lv' := [(7, .int x7_6), (6, .int x6_5), (5, .int x5_3), (0, .ref (K.2.2 + 47)), (1, .ref (K.2.2 + 0)), (2, .ref (K.2.2 + 1)), (3, .ref (K.2.2 + 42)), (4, .ref (K.2.2 + 43))]) C e_x7_6 dL_branches_106 (Nat.le_of_ble_eq_true rfl) rfl rfl ?_
            refine J_iload (i := 7) (p := 0) C dL_branches_108 rfl rfl ?_
            refine J_ldc (v := -1000003) C ci_RL_123 dL_branches_110 rfl ?_
            refine J_icmp_ne (t := 117) C dL_branches_112 (by decide) rfl (fun c_35 => ?_) (fun c_35 => ?_)
            · have h := h.neg c_35
              refine J_aload_n (i := 0) (p := 3) C dL_branches_117 rfl rfl rfl ?_
              refine J_aload_n (i := 2) (p := 5) C dL_branches_118 rfl rfl rfl ?_
              refine J_iconst (v := 2) C (by decide) dL_branches_119 rfl ?_
              refine Jl_aald (r2 := 4) C rfl (by decide) dL_branches_120 rfl ?_
              refine Jl_cS (α := LawS) (rest := []) (st9 := fun p_36 => []) C hR hX cs_RL_151 (kL_sees hl rfl (Ok.ofbnd h)) rfl rfl (Nat.le_of_ble_eq_true rfl) (Nat.le_of_ble_eq_true rfl) (Nat.le_of_ble_eq_true rfl) ⟨(Nat.le_of_ble_eq_true rfl), (Nat.le_of_ble_eq_true rfl)⟩ dL_branches_121 rfl (fun _ => rfl) (fun p_36 h => ?_)
              have h : Ok _ _ := h
              change J X K 9 False QQ 12 72 2064 (jl K p_36) 124 [(7, .int x7_6), (6, .int x6_5), (5, .int x5_3), (0, .ref (K.2.2 + 47)), (1, .ref (K.2.2 + 0)), (2, .ref (K.2.2 + 1)), (3, .ref (K.2.2 + 42)), (4, .ref (K.2.2 + 43))] []
              refine J_iload (i := 6) (p := 1) C dL_branches_124 rfl rfl ?_
              refine J_if_le (t := 204) C dL_branches_126 (by decide) rfl (fun c_37 => ?_) (fun c_37 => ?_)
              · have h := h.pos c_37
                refine J.widen (k' := 24) (sl' := 144) (Nat.le_of_ble_eq_true rfl) (Nat.le_of_ble_eq_true rfl) ?_
                refine J.sub [3, 5, 6, 2] rfl ?_
                exact hj_204 p_36 x5_3 h
              · have h := h.neg c_37
                refine J_iload (i := 7) (p := 0) C dL_branches_129 rfl rfl ?_
                refine J_if_le (t := 204) C dL_branches_131 (by decide) rfl (fun c_38 => ?_) (fun c_38 => ?_)
                · have h := h.pos c_38
                  refine J.widen (k' := 24) (sl' := 144) (Nat.le_of_ble_eq_true rfl) (Nat.le_of_ble_eq_true rfl) ?_
                  refine J.sub [3, 5, 6, 2] rfl ?_
                  exact hj_204 p_36 x5_3 h
                · have h := h.neg c_38
                  refine J_aload_n (i := 0) (p := 3) C dL_branches_134 rfl rfl rfl ?_
                  refine J_bipush (v := 10) C (by decide) dL_branches_135 rfl ?_
                  refine J_iconst (v := 1) C (by decide) dL_branches_137 rfl ?_
                  refine J_iconst (v := 0) C (by decide) dL_branches_138 rfl ?_
                  refine J_iconst (v := 0) C (by decide) dL_branches_139 rfl ?_
                  refine Jl_cH (α := Int32 × LawS) (rest := []) (st9 := fun p_39 => [.int p_39.1]) C hR hX ch_RL_174 (kL_done hl  (Ok.ofbnd h)) rfl rfl (Nat.le_of_ble_eq_true rfl) (Nat.le_of_ble_eq_true rfl) (Nat.le_of_ble_eq_true rfl) ⟨(Nat.le_of_ble_eq_true rfl), (Nat.le_of_ble_eq_true rfl)⟩ dL_branches_140 rfl (fun _ => rfl) (fun p_39 h => ?_)
                  have h : Ok _ _ := h
                  change J X K 9 False QQ 16 96 2064 (jl K p_39.2) 143 [(7, .int x7_6), (6, .int x6_5), (5, .int x5_3), (0, .ref (K.2.2 + 47)), (1, .ref (K.2.2 + 0)), (2, .ref (K.2.2 + 1)), (3, .ref (K.2.2 + 42)), (4, .ref (K.2.2 + 43))] [.int p_39.1]
                  refine J_iconst (v := 1) C (by decide) dL_branches_143 rfl ?_
                  refine J_icmp_ne (t := 204) C dL_branches_144 (by decide) rfl (fun c_40 => ?_) (fun c_40 => ?_)
                  · have h := h.neg c_40
                    refine J.widen (k' := 24) (sl' := 144) (Nat.le_of_ble_eq_true rfl) (Nat.le_of_ble_eq_true rfl) ?_
                    refine J.sub [3, 5, 6, 2] rfl ?_
                    exact hj_204 p_39.2 x5_3 h
                  · have h := h.pos (Decidable.not_not.mp c_40)
                    refine J_aload_n (i := 0) (p := 3) C dL_branches_147 rfl rfl rfl ?_
                    refine J_iconst (v := 3) C (by decide) dL_branches_148 rfl ?_
                    refine Jl_cV (α := Int32 × Sto) (rest := []) (st9 := fun p_41 => [.int p_41.1]) (wd := fun p_41 => p_41.2) C hR hX cv_RL_189 (k11_acts_n hl (Ok.ofnox h) (fun c hc => hc)) rfl rfl (Nat.le_of_ble_eq_true rfl) (Nat.le_of_ble_eq_true rfl) (Nat.le_of_ble_eq_true rfl) ⟨(Nat.le_of_ble_eq_true rfl), (Nat.le_of_ble_eq_true rfl)⟩ dL_branches_149 rfl (fun E n9 w9 hx => hx.elim) (fun _ => rfl) (fun p_41 h => ?_)
                    have h : Ok _ _ := h
                    change J X K 9 False QQ 16 96 2064 (jl K (p_39.2.1, p_41.2)) 152 [(7, .int x7_6), (6, .int x6_5), (5, .int x5_3), (0, .ref (K.2.2 + 47)), (1, .ref (K.2.2 + 0)), (2, .ref (K.2.2 + 1)), (3, .ref (K.2.2 + 42)), (4, .ref (K.2.2 + 43))] [.int p_41.1]
                    refine J_iload (i := 5) (p := 2) C dL_branches_152 rfl rfl ?_
                    refine J_iconst (v := 2) C (by decide) dL_branches_154 rfl ?_
                    refine J_iadd C dL_branches_155 rfl ?_
                    refine J_icmp_ne (t := 204) C dL_branches_156 (by decide) rfl (fun c_42 => ?_) (fun c_42 => ?_)
                    · have h := h.neg c_42
                      refine J.widen (k' := 24) (sl' := 144) (Nat.le_of_ble_eq_true rfl) (Nat.le_of_ble_eq_true rfl) ?_
                      refine J.sub [3, 5, 6, 2] rfl ?_
                      exact hj_204 (p_39.2.1, p_41.2) x5_3 h
                    · have h := h.pos (Decidable.not_not.mp c_42)
                      refine J_aload_n (i := 0) (p := 3) C dL_branches_159 rfl rfl rfl ?_
                      refine J_bipush (v := 12) C (by decide) dL_branches_160 rfl ?_
                      refine J_iload (i := 5) (p := 2) C dL_branches_162 rfl rfl ?_
                      refine J_iconst (v := 0) C (by decide) dL_branches_164 rfl ?_
                      refine J_iconst (v := 0) C (by decide) dL_branches_165 rfl ?_
                      refine Jl_cH (α := Int32 × LawS) (rest := []) (st9 := fun p_43 => [.int p_43.1]) C hR hX ch_RL_174 (kL_done hl  (Ok.ofbnd h)) rfl rfl (Nat.le_of_ble_eq_true rfl) (Nat.le_of_ble_eq_true rfl) (Nat.le_of_ble_eq_true rfl) ⟨(Nat.le_of_ble_eq_true rfl), (Nat.le_of_ble_eq_true rfl)⟩ dL_branches_166 rfl (fun _ => rfl) (fun p_43 h => ?_)
                      have h : Ok _ _ := h
                      change J X K 9 False QQ 20 120 2064 (jl K p_43.2) 169 [(7, .int x7_6), (6, .int x6_5), (5, .int x5_3), (0, .ref (K.2.2 + 47)), (1, .ref (K.2.2 + 0)), (2, .ref (K.2.2 + 1)), (3, .ref (K.2.2 + 42)), (4, .ref (K.2.2 + 43))] [.int p_43.1]
                      refine J_iload (i := 5) (p := 2) C dL_branches_169 rfl rfl ?_
                      refine J_iconst (v := 2) C (by decide) dL_branches_171 rfl ?_
                      refine J_iadd C dL_branches_172 rfl ?_
                      refine J_icmp_ne (t := 204) C dL_branches_173 (by decide) rfl (fun c_44 => ?_) (fun c_44 => ?_)
                      · have h := h.neg c_44
                        refine J.widen (k' := 24) (sl' := 144) (Nat.le_of_ble_eq_true rfl) (Nat.le_of_ble_eq_true rfl) ?_
                        refine J.sub [3, 5, 6, 2] rfl ?_
                        exact hj_204 p_43.2 x5_3 h
                      · have h := h.pos (Decidable.not_not.mp c_44)
                        refine J_aload_n (i := 0) (p := 3) C dL_branches_176 rfl rfl rfl ?_
                        refine J_bipush (v := 11) C (by decide) dL_branches_177 rfl ?_
                        refine J_iconst (v := 1) C (by decide) dL_branches_179 rfl ?_
                        refine J_iconst (v := 0) C (by decide) dL_branches_180 rfl ?_
                        refine J_iconst (v := 0) C (by decide) dL_branches_181 rfl ?_
                        refine Jl_cH (α := Int32 × LawS) (rest := []) (st9 := fun p_45 => [.int p_45.1]) C hR hX ch_RL_174 (kL_done hl  (Ok.ofbnd h)) rfl rfl (Nat.le_of_ble_eq_true rfl) (Nat.le_of_ble_eq_true rfl) (Nat.le_of_ble_eq_true rfl) ⟨(Nat.le_of_ble_eq_true rfl), (Nat.le_of_ble_eq_true rfl)⟩ dL_branches_182 rfl (fun _ => rfl) (fun p_45 h => ?_)
                        have h : Ok _ _ := h
                        change J X K 9 False QQ 24 144 2064 (jl K p_45.2) 185 [(7, .int x7_6), (6, .int x6_5), (5, .int x5_3), (0, .ref (K.2.2 + 47)), (1, .ref (K.2.2 + 0)), (2, .ref (K.2.2 + 1)), (3, .ref (K.2.2 + 42)), (4, .ref (K.2.2 + 43))] [.int p_45.1]
                        refine J_iconst (v := 1) C (by decide) dL_branches_185 rfl ?_
                        refine J_icmp_ne (t := 204) C dL_branches_186 (by decide) rfl (fun c_46 => ?_) (fun c_46 => ?_)
                        · have h := h.neg c_46
                          refine J.sub [3, 5, 6, 2] rfl ?_
                          exact hj_204 p_45.2 x5_3 h
                        · have h := h.pos (Decidable.not_not.mp c_46)
                          refine J_aload_n (i := 0) (p := 3) C dL_branches_189 rfl rfl rfl ?_
                          refine J_aload_n (i := 2) (p := 5) C dL_branches_190 rfl rfl rfl ?_
                          refine J_iconst (v := 1) C (by decide) dL_branches_191 rfl ?_
                          refine Jl_aald (r2 := 3) C rfl (by decide) dL_branches_192 rfl ?_
                          refine J_aload_n (i := 3) (p := 6) C dL_branches_193 rfl rfl rfl ?_
                          refine Jl_cS (α := Int32 × LawS) (rest := []) (st9 := fun p_47 => [.int p_47.1]) C hR hX cs_RL_178 (kL_isLike hl rfl (Ok.ofbnd h)) rfl rfl (Nat.le_of_ble_eq_true rfl) (Nat.le_of_ble_eq_true rfl) (Nat.le_of_ble_eq_true rfl) ⟨(Nat.le_of_ble_eq_true rfl), (Nat.le_of_ble_eq_true rfl)⟩ dL_branches_194 rfl (fun _ => rfl) (fun p_47 h => ?_)
                          have h : Ok _ _ := h
                          change J X K 9 False QQ 24 144 2064 (jl K p_47.2) 197 [(7, .int x7_6), (6, .int x6_5), (5, .int x5_3), (0, .ref (K.2.2 + 47)), (1, .ref (K.2.2 + 0)), (2, .ref (K.2.2 + 1)), (3, .ref (K.2.2 + 42)), (4, .ref (K.2.2 + 43))] [.int p_47.1]
                          refine J_if_eq (t := 204) C dL_branches_197 (by decide) rfl (fun c_48 => ?_) (fun c_48 => ?_)
                          · have h := h.pos c_48
                            refine J.sub [3, 5, 6, 2] rfl ?_
                            exact hj_204 p_47.2 x5_3 h
                          · have h := h.neg c_48
                            refine J_iconst (v := 1) C (by decide) dL_branches_200 rfl ?_
                            refine J_goto (t := 205) C dL_branches_201 (by decide) ?_
                            refine J.sub [3, 5, 6, 2] rfl ?_
                            exact hj_205 p_47.2 x5_3 (1 : Int32) h
            · have h := h.pos (Decidable.not_not.mp c_35)
              refine J_iconst (v := 1) C (by decide) dL_branches_115 rfl ?_
              rw [← hQQ]
              exact J_zret C hret rfl (Nat.le_of_ble_eq_true rfl) (Nat.le_of_ble_eq_true rfl) ⟨_, h.osome, rfl, rfl, rfl⟩ dL_branches_116
          · have h := h.pos (Decidable.not_not.mp c_33)
            refine J.sub [] rfl ?_
            exact hj_96 p_32.2 h
      · have h := h.pos (Decidable.not_not.mp c_28)
        refine J_aload_n (i := 0) (p := 2) C dL_branches_56 rfl rfl rfl ?_
        refine J_aload_n (i := 2) (p := 4) C dL_branches_57 rfl rfl rfl ?_
        refine J_iconst (v := 0) C (by decide) dL_branches_58 rfl ?_
        refine Jl_aald (r2 := 2) C rfl (by decide) dL_branches_59 rfl ?_
        refine J_aload_n (i := 3) (p := 5) C dL_branches_60 rfl rfl rfl ?_
        refine Jl_cS (α := Int32 × LawS) (rest := []) (st9 := fun p_49 => [.int p_49.1]) C hR hX cs_RL_178 (kL_isLike hl rfl (Ok.ofbnd h)) rfl rfl (Nat.le_of_ble_eq_true rfl) (Nat.le_of_ble_eq_true rfl) (Nat.le_of_ble_eq_true rfl) ⟨(Nat.le_of_ble_eq_true rfl), (Nat.le_of_ble_eq_true rfl)⟩ dL_branches_61 rfl (fun _ => rfl) (fun p_49 h => ?_)
        have h : Ok _ _ := h
        change J X K 9 False QQ 4 24 2064 (jl K p_49.2) 64 [(6, .int x6_5), (5, .int x5_3), (0, .ref (K.2.2 + 47)), (1, .ref (K.2.2 + 0)), (2, .ref (K.2.2 + 1)), (3, .ref (K.2.2 + 42)), (4, .ref (K.2.2 + 43))] [.int p_49.1]
        obtain ⟨g_50, h⟩ := Ok.ofgd h
        rw [← hQQ]
        exact J_zret C hret (narB g_50).1 (Nat.le_of_ble_eq_true rfl) (Nat.le_of_ble_eq_true rfl) ⟨_, h.osome, rfl, rfl, rfl⟩ dL_branches_64
    · have h := h.neg c_26
      refine J.sub [] rfl ?_
      exact hj_37 p_24.2 h
