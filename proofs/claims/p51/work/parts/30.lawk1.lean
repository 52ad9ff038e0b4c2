set_option maxHeartbeats 4000000 in
set_option maxRecDepth 100000 in
theorem kL_next {l : Launch} {K : JK} (hl : l.stackTraces = false) {τ : LawS}   {Qf : Int32 × LawS → Prop} (h : Ok (fL_next τ) Qf) : Con l K yL_next (.code yL_next cL_next 1 (some .int) :: TB) 0 0 0 False [.ref (K.2.2 + 0)] 2064 (jl K τ) (PL Qf (fun p => some (.int p.1)) (fun p => jl K p.2)) PN := by
  refine Con.enter (own := RL) hl (by decide) rfl (Nat.le_of_ble_eq_true rfl) ?_
  intro X hX hR C hret hnt
  generalize hQQ : jQ X K 0 0 (PL Qf (fun p => some (.int p.1)) (fun p => jl K p.2)) PN False = QQ
  change J X K 1 False QQ 0 0 2064 (jl K τ) 0 [(0, .ref (K.2.2 + 0))] []
  unfold fL_next at h
  refine J_aload_n (i := 0) (p := 0) C dL_next_0 rfl rfl rfl ?_
  refine J_iconst (v := 0) C (by decide) dL_next_1 rfl ?_
  refine J_aload_n (i := 0) (p := 0) C dL_next_2 rfl rfl rfl ?_
  refine J_iconst (v := 0) C (by decide) dL_next_3 rfl ?_
  obtain ⟨g_1, h⟩ := Ok.ofgd h
  refine Jl_iald C rfl rfl g_1 dL_next_4 rfl ?_
  refine J_ldc (v := 1103515245) C ci_RL_7 dL_next_5 rfl ?_
  refine J_imul C dL_next_7 rfl ?_
  refine J_sipush (v := 12345) C (by decide) dL_next_8 rfl ?_
  refine J_iadd C dL_next_11 rfl ?_
  obtain ⟨g_2, h⟩ := Ok.ofgd h
  obtain ⟨τx_1, e_τx_1, h⟩ := Ok.nm h
  refine Jl_iast C id rfl rfl g_2 e_τx_1 dL_next_12 rfl ?_
  refine J_aload_n (i := 0) (p := 0) C dL_next_13 rfl rfl rfl ?_
  refine J_iconst (v := 0) C (by decide) dL_next_14 rfl ?_
  refine J_dup2 C rfl rfl dL_next_15 rfl ?_
  obtain ⟨g_3, h⟩ := Ok.ofgd h
  refine Jl_iald C rfl rfl g_3 dL_next_16 rfl ?_
  refine J_aload_n (i := 0) (p := 0) C dL_next_17 rfl rfl rfl ?_
  refine J_iconst (v := 0) C (by decide) dL_next_18 rfl ?_
  obtain ⟨g_4, h⟩ := Ok.ofgd h
  refine Jl_iald C rfl rfl g_4 dL_next_19 rfl ?_
  refine J_bipush (v := 15) C (by decide) dL_next_20 rfl ?_
  refine J_iushr C dL_next_22 rfl ?_
  refine J_ixor C dL_next_23 rfl ?_
  obtain ⟨g_5, h⟩ := Ok.ofgd h
  obtain ⟨τx_2, e_τx_2, h⟩ := Ok.nm h
  refine Jl_iast C id rfl rfl g_5 e_τx_2 dL_next_24 rfl ?_
  refine J_aload_n (i := 0) (p := 0) C dL_next_25 rfl rfl rfl ?_
  refine J_iconst (v := 0) C (by decide) dL_next_26 rfl ?_
  obtain ⟨g_6, h⟩ := Ok.ofgd h
  refine Jl_iald C rfl rfl g_6 dL_next_27 rfl ?_
  refine J_bipush (v := 9) C (by decide) dL_next_28 rfl ?_
  refine J_iushr C dL_next_30 rfl ?_
  rw [← hQQ]
  exact J_iret C hret (Nat.le_of_ble_eq_true rfl) (Nat.le_of_ble_eq_true rfl) ⟨_, h.osome, rfl, rfl, rfl⟩ dL_next_31
set_option maxHeartbeats 4000000 in
set_option maxRecDepth 100000 in
theorem kL_from {l : Launch} {K : JK} (hl : l.stackTraces = false) {τ : LawS} {l1 : Int32} {l2 : Int32}  {Qf : Int32 × LawS → Prop} (h : Ok (fL_from τ l1 l2) Qf) : Con l K yL_from (.code yL_from cL_from 3 (some .int) :: TB) 1 0 0 False [.ref (K.2.2 + 0), .int l1, .int l2] 2064 (jl K τ) (PL Qf (fun p => some (.int p.1)) (fun p => jl K p.2)) PN := by
  refine Con.enter (own := RL) hl (by decide) rfl (Nat.le_of_ble_eq_true rfl) ?_
  intro X hX hR C hret hnt
  generalize hQQ : jQ X K 0 0 (PL Qf (fun p => some (.int p.1)) (fun p => jl K p.2)) PN False = QQ
  change J X K 3 False QQ 0 0 2064 (jl K τ) 0 [(0, .ref (K.2.2 + 0)), (1, .int l1), (2, .int l2)] []
  unfold fL_from at h
  refine J_iload_n (i := 1) (p := 1) C dL_from_0 rfl rfl rfl ?_
  refine J_aload_n (i := 0) (p := 0) C dL_from_1 rfl rfl rfl ?_
  refine Jl_cS (α := Int32 × LawS) (rest := [.int l1]) (st9 := fun p_1 => [.int p_1.1, .int l1]) C hR hX cs_RL_8 (kL_next hl  (Ok.ofbnd h)) rfl rfl (Nat.le_of_ble_eq_true rfl) (Nat.le_of_ble_eq_true rfl) (Nat.le_of_ble_eq_true rfl) ⟨(Nat.le_of_ble_eq_true rfl), (Nat.le_of_ble_eq_true rfl)⟩ dL_from_2 rfl (fun _ => rfl) (fun p_1 h => ?_)
  have h : Ok _ _ := h
  change J X K 3 False QQ 0 0 2064 (jl K p_1.2) 5 [(0, .ref (K.2.2 + 0)), (1, .int l1), (2, .int l2)] [.int p_1.1, .int l1]
  refine J_iload_n (i := 2) (p := 2) C dL_from_5 rfl rfl rfl ?_
  refine J_iload_n (i := 1) (p := 1) C dL_from_6 rfl rfl rfl ?_
  refine J_isub C dL_from_7 rfl ?_
  refine J_iconst (v := 1) C (by decide) dL_from_8 rfl ?_
  refine J_iadd C dL_from_9 rfl ?_
  obtain ⟨g_2, h⟩ := Ok.ofgd h
  refine J_irem C (nz_spec g_2) dL_from_10 rfl ?_
  refine J_iadd C dL_from_11 rfl ?_
  rw [← hQQ]
  exact J_iret C hret (Nat.le_of_ble_eq_true rfl) (Nat.le_of_ble_eq_true rfl) ⟨_, h.osome, rfl, rfl, rfl⟩ dL_from_12
set_option maxHeartbeats 4000000 in
set_option maxRecDepth 100000 in
theorem kL_one {l : Launch} {K : JK} (hl : l.stackTraces = false) {τ : LawS} {l0 : Int32}  {Qf : Int32 → Prop} (h : Ok (fL_one l0) Qf) : Con l K yL_one (.code yL_one cL_one 1 (some .int) :: TB) 0 0 0 False [.int l0] 2064 (jl K τ) (PL Qf (fun p => some (.int p)) (fun p => jl K τ)) PN := by
  refine Con.enter (own := RL) hl (by decide) rfl (Nat.le_of_ble_eq_true rfl) ?_
  intro X hX hR C hret hnt
  generalize hQQ : jQ X K 0 0 (PL Qf (fun p => some (.int p)) (fun p => jl K τ)) PN False = QQ
  change J X K 1 False QQ 0 0 2064 (jl K τ) 0 [(0, .int l0)] []
  have hj_9 : (∀ (s0_9 : Int32), Ok (fL_one_j9 l0 s0_9) Qf → J X K 1 False QQ 0 0 2064 (jl K τ) 9 [] [.int s0_9]) := by
    intro s0_9 h
    unfold fL_one_j9 at h
    rw [← hQQ]
    exact J_iret C hret (Nat.le_of_ble_eq_true rfl) (Nat.le_of_ble_eq_true rfl) ⟨_, h.osome, rfl, rfl, rfl⟩ dL_one_9
  unfold fL_one at h
  refine J_iload_n (i := 0) (p := 0) C dL_one_0 rfl rfl rfl ?_
  refine J_if_eq (t := 8) C dL_one_1 (by decide) rfl (fun c_1 => ?_) (fun c_1 => ?_)
  · have h := h.pos c_1
    refine J_iconst (v := 0) C (by decide) dL_one_8 rfl ?_
    refine J.sub [] rfl ?_
    exact hj_9 (0 : Int32) h
  · have h := h.neg c_1
    refine J_iconst (v := 1) C (by decide) dL_one_4 rfl ?_
    refine J_goto (t := 9) C dL_one_5 (by decide) ?_
    refine J.sub [] rfl ?_
    exact hj_9 (1 : Int32) h
set_option maxHeartbeats 4000000 in
set_option maxRecDepth 100000 in
theorem kL_done {l : Launch} {K : JK} (hl : l.stackTraces = false) {τ : LawS} {l1 : Int32} {l2 : Int32} {l3 : Int32} {l4 : Int32}  {Qf : Int32 × LawS → Prop} (h : Ok (fL_done τ l1 l2 l3 l4) Qf) : Con l K yL_done (.codeWith yL_done cL_done 6 (some .int) doneH :: TB) 9 4 24 False [.ref (K.2.2 + 47), .int l1, .int l2, .int l3, .int l4] 2064 (jl K τ) (PL Qf (fun p => some (.int p.1)) (fun p => jl K p.2)) PN := by
  refine Con.enterH (own := RL) hl (by decide) rfl (Nat.le_of_ble_eq_true rfl) ?_
  intro X hX hR C hret htab
  generalize hQQ : jQ X K 4 24 (PL Qf (fun p => some (.int p.1)) (fun p => jl K p.2)) PN False = QQ
  change J X K 6 False QQ 0 0 2064 (jl K τ) 0 [(0, .ref (K.2.2 + 47)), (1, .int l1), (2, .int l2), (3, .int l3), (4, .int l4)] []
  have hj_313 : (∀ (τ_313 : LawS) (s2_313 : Int32), Ok (fL_done_j313 l1 l2 l3 l4 τ_313 s2_313) Qf → J X K 6 False QQ 0 0 2064 (jl K τ_313) 313 [] [.int s2_313, .int l2, .ref (K.2.2 + 47)]) := by
    intro τ_313 s2_313 h
    unfold fL_done_j313 at h
    refine Jl_cV (α := Int32 × Sto) (rest := []) (st9 := fun p_1 => [.int p_1.1]) (wd := fun p_1 => p_1.2) C hR hX cv_RL_95 (k11_find hl (Ok.ofhdl h)) rfl rfl (Nat.le_of_ble_eq_true rfl) (Nat.le_of_ble_eq_true rfl) (Nat.le_of_ble_eq_true rfl) ⟨(Nat.le_of_ble_eq_true rfl), (Nat.le_of_ble_eq_true rfl)⟩ dL_done_313 rfl (fun E n9 w9 hx => by rw [← hQQ]; exact done_kx (pc := 313) C htab hret 23 (by decide +kernel) (by decide +kernel) (by decide +kernel) (by decide +kernel) (by decide +kernel) (by decide +kernel) (by decide +kernel) (by decide +kernel) hx (Nat.le_of_ble_eq_true rfl) (Nat.le_of_ble_eq_true rfl)) (fun _ => rfl) (fun p_1 h => ?_)
    have h : Ok _ _ := h
    change J X K 6 False QQ 2 12 2064 (jl K (τ_313.1, p_1.2)) 316 [] [.int p_1.1]
    rw [← hQQ]
    exact J_iret C hret (Nat.le_of_ble_eq_true rfl) (Nat.le_of_ble_eq_true rfl) ⟨_, h.osome, rfl, rfl, rfl⟩ dL_done_316
  have hj_297 : (∀ (τ_297 : LawS) (s1_297 : Int32), Ok (fL_done_j297 l1 l2 l3 l4 τ_297 s1_297) Qf → J X K 6 False QQ 0 0 2064 (jl K τ_297) 297 [] [.int s1_297, .ref (K.2.2 + 47)]) := by
    intro τ_297 s1_297 h
    unfold fL_done_j297 at h
    refine Jl_cV (α := Int32 × Sto) (rest := []) (st9 := fun p_2 => [.int p_2.1]) (wd := fun p_2 => p_2.2) C hR hX cv_RL_92 (k11_setPattern hl (Ok.ofhdl h)) rfl rfl (Nat.le_of_ble_eq_true rfl) (Nat.le_of_ble_eq_true rfl) (Nat.le_of_ble_eq_true rfl) ⟨(Nat.le_of_ble_eq_true rfl), (Nat.le_of_ble_eq_true rfl)⟩ dL_done_297 rfl (fun E n9 w9 hx => by rw [← hQQ]; exact done_kx (pc := 297) C htab hret 22 (by decide +kernel) (by decide +kernel) (by decide +kernel) (by decide +kernel) (by decide +kernel) (by decide +kernel) (by decide +kernel) (by decide +kernel) hx (Nat.le_of_ble_eq_true rfl) (Nat.le_of_ble_eq_true rfl)) (fun _ => rfl) (fun p_2 h => ?_)
    have h : Ok _ _ := h
    change J X K 6 False QQ 1 6 2064 (jl K (τ_297.1, p_2.2)) 300 [] [.int p_2.1]
    rw [← hQQ]
    exact J_iret C hret (Nat.le_of_ble_eq_true rfl) (Nat.le_of_ble_eq_true rfl) ⟨_, h.osome, rfl, rfl, rfl⟩ dL_done_300
  have hj_256 : (∀ (τ_256 : LawS) (s3_256 : Int32), Ok (fL_done_j256 l1 l2 l3 l4 τ_256 s3_256) Qf → J X K 6 False QQ 0 0 2064 (jl K τ_256) 256 [] [.int s3_256, .int l3, .int l2, .ref (K.2.2 + 47)]) := by
    intro τ_256 s3_256 h
    unfold fL_done_j256 at h
    refine Jl_cV (α := Int32 × Sto) (rest := []) (st9 := fun p_3 => [.int p_3.1]) (wd := fun p_3 => p_3.2) C hR hX cv_RL_76 (k11_setMark hl (Ok.ofhdl h)) rfl rfl (Nat.le_of_ble_eq_true rfl) (Nat.le_of_ble_eq_true rfl) (Nat.le_of_ble_eq_true rfl) ⟨(Nat.le_of_ble_eq_true rfl), (Nat.le_of_ble_eq_true rfl)⟩ dL_done_256 rfl (fun E n9 w9 hx => by rw [← hQQ]; exact done_kx (pc := 256) C htab hret 17 (by decide +kernel) (by decide +kernel) (by decide +kernel) (by decide +kernel) (by decide +kernel) (by decide +kernel) (by decide +kernel) (by decide +kernel) hx (Nat.le_of_ble_eq_true rfl) (Nat.le_of_ble_eq_true rfl)) (fun _ => rfl) (fun p_3 h => ?_)
    have h : Ok _ _ := h
    change J X K 6 False QQ 2 12 2064 (jl K (τ_256.1, p_3.2)) 259 [] [.int p_3.1]
    rw [← hQQ]
    exact J_iret C hret (Nat.le_of_ble_eq_true rfl) (Nat.le_of_ble_eq_true rfl) ⟨_, h.osome, rfl, rfl, rfl⟩ dL_done_259
  have hj_216 : (∀ (τ_216 : LawS) (s1_216 : Int32), Ok (fL_done_j216 l1 l2 l3 l4 τ_216 s1_216) Qf → J X K 6 False QQ 0 0 2064 (jl K τ_216) 216 [] [.int s1_216, .ref (K.2.2 + 47)]) := by
    intro τ_216 s1_216 h
    unfold fL_done_j216 at h
    refine Jl_cV (α := Int32 × Sto) (rest := []) (st9 := fun p_4 => [.int p_4.1]) (wd := fun p_4 => p_4.2) C hR hX cv_RL_59 (k11_group hl (Ok.ofbnd h)) rfl rfl (Nat.le_of_ble_eq_true rfl) (Nat.le_of_ble_eq_true rfl) (Nat.le_of_ble_eq_true rfl) ⟨(Nat.le_of_ble_eq_true rfl), (Nat.le_of_ble_eq_true rfl)⟩ dL_done_216 rfl (fun E n9 w9 hx => hx.elim) (fun _ => rfl) (fun p_4 h => ?_)
    have h : Ok _ _ := h
    change J X K 6 False QQ 0 0 2064 (jl K (τ_216.1, p_4.2)) 219 [] [.int p_4.1]
    refine Jl_cS (α := Int32) (rest := []) (st9 := fun p_5 => [.int p_5]) C hR hX cs_RL_63 (kL_one hl  (Ok.ofbnd h)) rfl rfl (Nat.le_of_ble_eq_true rfl) (Nat.le_of_ble_eq_true rfl) (Nat.le_of_ble_eq_true rfl) ⟨(Nat.le_of_ble_eq_true rfl), (Nat.le_of_ble_eq_true rfl)⟩ dL_done_219 rfl (fun _ => rfl) (fun p_5 h => ?_)
    have h : Ok _ _ := h
    change J X K 6 False QQ 0 0 2064 (jl K (τ_216.1, p_4.2)) 222 [] [.int p_5]
    rw [← hQQ]
    exact J_iret C hret (Nat.le_of_ble_eq_true rfl) (Nat.le_of_ble_eq_true rfl) ⟨_, h.osome, rfl, rfl, rfl⟩ dL_done_222
  unfold fL_done at h
  refine J_iload_n (i := 1) (p := 1) C dL_done_0 rfl rfl rfl ?_
  by_cases c_6 : Int32.toInt l1 = 0
  · have h := h.pos c_6
    refine J_tab (t := 124) C 0 c_6 dL_done_1 (by decide) (by decide) rfl (by decide) ?_
    refine J_aload_n (i := 0) (p := 0) C dL_done_124 rfl rfl rfl ?_
    refine Jl_cV (α := Int32 × Sto) (rest := []) (st9 := fun p_7 => [.int p_7.1]) (wd := fun p_7 => p_7.2) C hR hX cv_RL_14 (k11_type hl (Ok.ofhdl h)) rfl rfl (Nat.le_of_ble_eq_true rfl) (Nat.le_of_ble_eq_true rfl) (Nat.le_of_ble_eq_true rfl) ⟨(Nat.le_of_ble_eq_true rfl), (Nat.le_of_ble_eq_true rfl)⟩ dL_done_125 rfl (fun E n9 w9 hx => by rw [← hQQ]; exact done_kx (pc := 125) C htab hret 0 (by decide +kernel) (by decide +kernel) (by decide +kernel) (by decide +kernel) (by decide +kernel) (by decide +kernel) (by decide +kernel) (by decide +kernel) hx (Nat.le_of_ble_eq_true rfl) (Nat.le_of_ble_eq_true rfl)) (fun _ => rfl) (fun p_7 h => ?_)
    have h : Ok _ _ := h
    change J X K 6 False QQ 1 6 2064 (jl K (τ.1, p_7.2)) 128 [(0, .ref (K.2.2 + 47)), (1, .int l1), (2, .int l2), (3, .int l3), (4, .int l4)] [.int p_7.1]
    rw [← hQQ]
    exact J_iret C hret (Nat.le_of_ble_eq_true rfl) (Nat.le_of_ble_eq_true rfl) ⟨_, h.osome, rfl, rfl, rfl⟩ dL_done_128
  · have h := h.neg c_6
    by_cases c_8 : Int32.toInt l1 = 1
    · have h := h.pos c_8
      refine J_tab (t := 129) C 1 c_8 dL_done_1 (by decide) (by decide) rfl (by decide) ?_
      refine J_aload_n (i := 0) (p := 0) C dL_done_129 rfl rfl rfl ?_
      refine J_iload_n (i := 2) (p := 2) C dL_done_130 rfl rfl rfl ?_
      refine Jl_cV (α := Int32 × Sto) (rest := []) (st9 := fun p_9 => [.int p_9.1]) (wd := fun p_9 => p_9.2) C hR hX cv_RL_20 (k11_erase hl (Ok.ofhdl h)) rfl rfl (Nat.le_of_ble_eq_true rfl) (Nat.le_of_ble_eq_true rfl) (Nat.le_of_ble_eq_true rfl) ⟨(Nat.le_of_ble_eq_true rfl), (Nat.le_of_ble_eq_true rfl)⟩ dL_done_131 rfl (fun E n9 w9 hx => by rw [← hQQ]; exact done_kx (pc := 131) C htab hret 1 (by decide +kernel) (by decide +kernel) (by decide +kernel) (by decide +kernel) (by decide +kernel) (by decide +kernel) (by decide +kernel) (by decide +kernel) hx (Nat.le_of_ble_eq_true rfl) (Nat.le_of_ble_eq_true rfl)) (fun _ => rfl) (fun p_9 h => ?_)
      have h : Ok _ _ := h
      change J X K 6 False QQ 1 6 2064 (jl K (τ.1, p_9.2)) 134 [(0, .ref (K.2.2 + 47)), (1, .int l1), (2, .int l2), (3, .int l3), (4, .int l4)] [.int p_9.1]
      rw [← hQQ]
      exact J_iret C hret (Nat.le_of_ble_eq_true rfl) (Nat.le_of_ble_eq_true rfl) ⟨_, h.osome, rfl, rfl, rfl⟩ dL_done_134
    · have h := h.neg c_8
      by_cases c_10 : Int32.toInt l1 = 2
      · have h := h.pos c_10
        refine J_tab (t := 135) C 2 c_10 dL_done_1 (by decide) (by decide) rfl (by decide) ?_
        refine J_aload_n (i := 0) (p := 0) C dL_done_135 rfl rfl rfl ?_
        refine J_iload_n (i := 2) (p := 2) C dL_done_136 rfl rfl rfl ?_
        refine J_iload_n (i := 3) (p := 3) C dL_done_137 rfl rfl rfl ?_
        refine Jl_cV (α := Int32 × Sto) (rest := []) (st9 := fun p_11 => [.int p_11.1]) (wd := fun p_11 => p_11.2) C hR hX cv_RL_24 (k11_replace hl (Ok.ofhdl h)) rfl rfl (Nat.le_of_ble_eq_true rfl) (Nat.le_of_ble_eq_true rfl) (Nat.le_of_ble_eq_true rfl) ⟨(Nat.le_of_ble_eq_true rfl), (Nat.le_of_ble_eq_true rfl)⟩ dL_done_138 rfl (fun E n9 w9 hx => by rw [← hQQ]; exact done_kx (pc := 138) C htab hret 2 (by decide +kernel) (by decide +kernel) (by decide +kernel) (by decide +kernel) (by decide +kernel) (by decide +kernel) (by decide +kernel) (by decide +kernel) hx (Nat.le_of_ble_eq_true rfl) (Nat.le_of_ble_eq_true rfl)) (fun _ => rfl) (fun p_11 h => ?_)
        have h : Ok _ _ := h
        change J X K 6 False QQ 4 24 2064 (jl K (τ.1, p_11.2)) 141 [(0, .ref (K.2.2 + 47)), (1, .int l1), (2, .int l2), (3, .int l3), (4, .int l4)] [.int p_11.1]
        rw [← hQQ]
        exact J_iret C hret (Nat.le_of_ble_eq_true rfl) (Nat.le_of_ble_eq_true rfl) ⟨_, h.osome, rfl, rfl, rfl⟩ dL_done_141
      · have h := h.neg c_10
        by_cases c_12 : Int32.toInt l1 = 3
        · have h := h.pos c_12
          refine J_tab (t := 142) C 3 c_12 dL_done_1 (by decide) (by decide) rfl (by decide) ?_
          refine J_aload_n (i := 0) (p := 0) C dL_done_142 rfl rfl rfl ?_
          refine J_iload_n (i := 2) (p := 2) C dL_done_143 rfl rfl rfl ?_
          refine J_iload_n (i := 3) (p := 3) C dL_done_144 rfl rfl rfl ?_
          refine Jl_cV (α := Int32 × Sto) (rest := []) (st9 := fun p_13 => [.int p_13.1]) (wd := fun p_13 => p_13.2) C hR hX cv_RL_28 (k11_cut hl (Ok.ofhdl h)) rfl rfl (Nat.le_of_ble_eq_true rfl) (Nat.le_of_ble_eq_true rfl) (Nat.le_of_ble_eq_true rfl) ⟨(Nat.le_of_ble_eq_true rfl), (Nat.le_of_ble_eq_true rfl)⟩ dL_done_145 rfl (fun E n9 w9 hx => by rw [← hQQ]; exact done_kx (pc := 145) C htab hret 3 (by decide +kernel) (by decide +kernel) (by decide +kernel) (by decide +kernel) (by decide +kernel) (by decide +kernel) (by decide +kernel) (by decide +kernel) hx (Nat.le_of_ble_eq_true rfl) (Nat.le_of_ble_eq_true rfl)) (fun _ => rfl) (fun p_13 h => ?_)
          have h : Ok _ _ := h
          change J X K 6 False QQ 4 24 2064 (jl K (τ.1, p_13.2)) 148 [(0, .ref (K.2.2 + 47)), (1, .int l1), (2, .int l2), (3, .int l3), (4, .int l4)] [.int p_13.1]
          rw [← hQQ]
          exact J_iret C hret (Nat.le_of_ble_eq_true rfl) (Nat.le_of_ble_eq_true rfl) ⟨_, h.osome, rfl, rfl, rfl⟩ dL_done_148
        · have h := h.neg c_12
          by_cases c_14 : Int32.toInt l1 = 4
          · have h := h.pos c_14
            refine J_tab (t := 149) C 4 c_14 dL_done_1 (by decide) (by decide) rfl (by decide) ?_
            refine J_aload_n (i := 0) (p := 0) C dL_done_149 rfl rfl rfl ?_
            refine Jl_cV (α := Int32 × Sto) (rest := []) (st9 := fun p_15 => [.int p_15.1]) (wd := fun p_15 => p_15.2) C hR hX cv_RL_31 (k11_paste hl (Ok.ofhdl h)) rfl rfl (Nat.le_of_ble_eq_true rfl) (Nat.le_of_ble_eq_true rfl) (Nat.le_of_ble_eq_true rfl) ⟨(Nat.le_of_ble_eq_true rfl), (Nat.le_of_ble_eq_true rfl)⟩ dL_done_150 rfl (fun E n9 w9 hx => by rw [← hQQ]; exact done_kx (pc := 150) C htab hret 4 (by decide +kernel) (by decide +kernel) (by decide +kernel) (by decide +kernel) (by decide +kernel) (by decide +kernel) (by decide +kernel) (by decide +kernel) hx (Nat.le_of_ble_eq_true rfl) (Nat.le_of_ble_eq_true rfl)) (fun _ => rfl) (fun p_15 h => ?_)
            have h : Ok _ _ := h
            change J X K 6 False QQ 1 6 2064 (jl K (τ.1, p_15.2)) 153 [(0, .ref (K.2.2 + 47)), (1, .int l1), (2, .int l2), (3, .int l3), (4, .int l4)] [.int p_15.1]
            rw [← hQQ]
            exact J_iret C hret (Nat.le_of_ble_eq_true rfl) (Nat.le_of_ble_eq_true rfl) ⟨_, h.osome, rfl, rfl, rfl⟩ dL_done_153
          · have h := h.neg c_14
            by_cases c_16 : Int32.toInt l1 = 5
            · have h := h.pos c_16
              refine J_tab (t := 154) C 5 c_16 dL_done_1 (by decide) (by decide) rfl (by decide) ?_
              refine J_aload_n (i := 0) (p := 0) C dL_done_154 rfl rfl rfl ?_
              refine J_iload_n (i := 2) (p := 2) C dL_done_155 rfl rfl rfl ?_
              refine J_iload_n (i := 3) (p := 3) C dL_done_156 rfl rfl rfl ?_
              refine J_iload (i := 4) (p := 4) C dL_done_157 rfl rfl ?_
              refine Jl_cV (α := Int32 × Sto) (rest := []) (st9 := fun p_17 => [.int p_17.1]) (wd := fun p_17 => p_17.2) C hR hX cv_RL_34 (k11_indent hl (Ok.ofhdl h)) rfl rfl (Nat.le_of_ble_eq_true rfl) (Nat.le_of_ble_eq_true rfl) (Nat.le_of_ble_eq_true rfl) ⟨(Nat.le_of_ble_eq_true rfl), (Nat.le_of_ble_eq_true rfl)⟩ dL_done_159 rfl (fun E n9 w9 hx => by rw [← hQQ]; exact done_kx (pc := 159) C htab hret 5 (by decide +kernel) (by decide +kernel) (by decide +kernel) (by decide +kernel) (by decide +kernel) (by decide +kernel) (by decide +kernel) (by decide +kernel) hx (Nat.le_of_ble_eq_true rfl) (Nat.le_of_ble_eq_true rfl)) (fun _ => rfl) (fun p_17 h => ?_)
              have h : Ok _ _ := h
              change J X K 6 False QQ 3 18 2064 (jl K (τ.1, p_17.2)) 162 [(0, .ref (K.2.2 + 47)), (1, .int l1), (2, .int l2), (3, .int l3), (4, .int l4)] [.int p_17.1]
              rw [← hQQ]
              exact J_iret C hret (Nat.le_of_ble_eq_true rfl) (Nat.le_of_ble_eq_true rfl) ⟨_, h.osome, rfl, rfl, rfl⟩ dL_done_162
            · have h := h.neg c_16
              by_cases c_18 : Int32.toInt l1 = 6
              · have h := h.pos c_18
                refine J_tab (t := 163) C 6 c_18 dL_done_1 (by decide) (by decide) rfl (by decide) ?_
                refine J_aload_n (i := 0) (p := 0) C dL_done_163 rfl rfl rfl ?_
                refine J_iload_n (i := 2) (p := 2) C dL_done_164 rfl rfl rfl ?_
                refine J_iload_n (i := 3) (p := 3) C dL_done_165 rfl rfl rfl ?_
                refine Jl_cV (α := Int32 × Sto) (rest := []) (st9 := fun p_19 => [.int p_19.1]) (wd := fun p_19 => p_19.2) C hR hX cv_RL_38 (k11_wrap hl (Ok.ofhdl h)) rfl rfl (Nat.le_of_ble_eq_true rfl) (Nat.le_of_ble_eq_true rfl) (Nat.le_of_ble_eq_true rfl) ⟨(Nat.le_of_ble_eq_true rfl), (Nat.le_of_ble_eq_true rfl)⟩ dL_done_166 rfl (fun E n9 w9 hx => by rw [← hQQ]; exact done_kx (pc := 166) C htab hret 6 (by decide +kernel) (by decide +kernel) (by decide +kernel) (by decide +kernel) (by decide +kernel) (by decide +kernel) (by decide +kernel) (by decide +kernel) hx (Nat.le_of_ble_eq_true rfl) (Nat.le_of_ble_eq_true rfl)) (fun _ => rfl) (fun p_19 h => ?_)
                have h : Ok _ _ := h
                change J X K 6 False QQ 2 12 2064 (jl K (τ.1, p_19.2)) 169 [(0, .ref (K.2.2 + 47)), (1, .int l1), (2, .int l2), (3, .int l3), (4, .int l4)] [.int p_19.1]
                rw [← hQQ]
                exact J_iret C hret (Nat.le_of_ble_eq_true rfl) (Nat.le_of_ble_eq_true rfl) ⟨_, h.osome, rfl, rfl, rfl⟩ dL_done_169
              · have h := h.neg c_18
                by_cases c_20 : Int32.toInt l1 = 7
                · have h := h.pos c_20
                  refine J_tab (t := 170) C 7 c_20 dL_done_1 (by decide) (by decide) rfl (by decide) ?_
                  refine J_aload_n (i := 0) (p := 0) C dL_done_170 rfl rfl rfl ?_
                  refine J_iload_n (i := 2) (p := 2) C dL_done_171 rfl rfl rfl ?_
                  refine J_iload_n (i := 3) (p := 3) C dL_done_172 rfl rfl rfl ?_
                  refine Jl_cV (α := Int32 × Sto) (rest := []) (st9 := fun p_21 => [.int p_21.1]) (wd := fun p_21 => p_21.2) C hR hX cv_RL_41 (k11_joinLines hl (Ok.ofhdl h)) rfl rfl (Nat.le_of_ble_eq_true rfl) (Nat.le_of_ble_eq_true rfl) (Nat.le_of_ble_eq_true rfl) ⟨(Nat.le_of_ble_eq_true rfl), (Nat.le_of_ble_eq_true rfl)⟩ dL_done_173 rfl (fun E n9 w9 hx => by rw [← hQQ]; exact done_kx (pc := 173) C htab hret 7 (by decide +kernel) (by decide +kernel) (by decide +kernel) (by decide +kernel) (by decide +kernel) (by decide +kernel) (by decide +kernel) (by decide +kernel) hx (Nat.le_of_ble_eq_true rfl) (Nat.le_of_ble_eq_true rfl)) (fun _ => rfl) (fun p_21 h => ?_)
                  have h : Ok _ _ := h
                  change J X K 6 False QQ 3 18 2064 (jl K (τ.1, p_21.2)) 176 [(0, .ref (K.2.2 + 47)), (1, .int l1), (2, .int l2), (3, .int l3), (4, .int l4)] [.int p_21.1]
                  rw [← hQQ]
                  exact J_iret C hret (Nat.le_of_ble_eq_true rfl) (Nat.le_of_ble_eq_true rfl) ⟨_, h.osome, rfl, rfl, rfl⟩ dL_done_176
                · have h := h.neg c_20
                  by_cases c_22 : Int32.toInt l1 = 8
                  · have h := h.pos c_22
                    refine J_tab (t := 177) C 8 c_22 dL_done_1 (by decide) (by decide) rfl (by decide) ?_
                    refine J_aload_n (i := 0) (p := 0) C dL_done_177 rfl rfl rfl ?_
                    refine Jl_cV (α := Int32 × Sto) (rest := []) (st9 := fun p_23 => [.int p_23.1]) (wd := fun p_23 => p_23.2) C hR hX cv_RL_44 (k11_replaceNext hl (Ok.ofhdl h)) rfl rfl (Nat.le_of_ble_eq_true rfl) (Nat.le_of_ble_eq_true rfl) (Nat.le_of_ble_eq_true rfl) ⟨(Nat.le_of_ble_eq_true rfl), (Nat.le_of_ble_eq_true rfl)⟩ dL_done_178 rfl (fun E n9 w9 hx => by rw [← hQQ]; exact done_kx (pc := 178) C htab hret 8 (by decide +kernel) (by decide +kernel) (by decide +kernel) (by decide +kernel) (by decide +kernel) (by decide +kernel) (by decide +kernel) (by decide +kernel) hx (Nat.le_of_ble_eq_true rfl) (Nat.le_of_ble_eq_true rfl)) (fun _ => rfl) (fun p_23 h => ?_)
                    have h : Ok _ _ := h
                    change J X K 6 False QQ 1 6 2064 (jl K (τ.1, p_23.2)) 181 [(0, .ref (K.2.2 + 47)), (1, .int l1), (2, .int l2), (3, .int l3), (4, .int l4)] [.int p_23.1]
                    rw [← hQQ]
                    exact J_iret C hret (Nat.le_of_ble_eq_true rfl) (Nat.le_of_ble_eq_true rfl) ⟨_, h.osome, rfl, rfl, rfl⟩ dL_done_181
                  · have h := h.neg c_22
                    by_cases c_24 : Int32.toInt l1 = 9
                    · have h := h.pos c_24
                      refine J_tab (t := 182) C 9 c_24 dL_done_1 (by decide) (by decide) rfl (by decide) ?_
                      refine J_aload_n (i := 0) (p := 0) C dL_done_182 rfl rfl rfl ?_
                      refine Jl_cV (α := Int32 × Sto) (rest := []) (st9 := fun p_25 => [.int p_25.1]) (wd := fun p_25 => p_25.2) C hR hX cv_RL_47 (k11_replaceAll hl (Ok.ofhdl h)) rfl rfl (Nat.le_of_ble_eq_true rfl) (Nat.le_of_ble_eq_true rfl) (Nat.le_of_ble_eq_true rfl) ⟨(Nat.le_of_ble_eq_true rfl), (Nat.le_of_ble_eq_true rfl)⟩ dL_done_183 rfl (fun E n9 w9 hx => by rw [← hQQ]; exact done_kx (pc := 183) C htab hret 9 (by decide +kernel) (by decide +kernel) (by decide +kernel) (by decide +kernel) (by decide +kernel) (by decide +kernel) (by decide +kernel) (by decide +kernel) hx (Nat.le_of_ble_eq_true rfl) (Nat.le_of_ble_eq_true rfl)) (fun _ => rfl) (fun p_25 h => ?_)
                      have h : Ok _ _ := h
                      change J X K 6 False QQ 1 6 2064 (jl K (τ.1, p_25.2)) 186 [(0, .ref (K.2.2 + 47)), (1, .int l1), (2, .int l2), (3, .int l3), (4, .int l4)] [.int p_25.1]
                      rw [← hQQ]
                      exact J_iret C hret (Nat.le_of_ble_eq_true rfl) (Nat.le_of_ble_eq_true rfl) ⟨_, h.osome, rfl, rfl, rfl⟩ dL_done_186
                    · have h := h.neg c_24
                      by_cases c_26 : Int32.toInt l1 = 10
                      · have h := h.pos c_26
                        refine J_tab (t := 187) C 10 c_26 dL_done_1 (by decide) (by decide) rfl (by decide) ?_
                        refine J_aload_n (i := 0) (p := 0) C dL_done_187 rfl rfl rfl ?_
                        refine J_iload_n (i := 2) (p := 2) C dL_done_188 rfl rfl rfl ?_
                        refine Jl_cV (α := Int32 × Sto) (rest := []) (st9 := fun p_27 => [.int p_27.1]) (wd := fun p_27 => p_27.2) C hR hX cv_RL_50 (k11_undo hl (Ok.ofhdl h)) rfl rfl (Nat.le_of_ble_eq_true rfl) (Nat.le_of_ble_eq_true rfl) (Nat.le_of_ble_eq_true rfl) ⟨(Nat.le_of_ble_eq_true rfl), (Nat.le_of_ble_eq_true rfl)⟩ dL_done_189 rfl (fun E n9 w9 hx => by rw [← hQQ]; exact done_kx (pc := 189) C htab hret 10 (by decide +kernel) (by decide +kernel) (by decide +kernel) (by decide +kernel) (by decide +kernel) (by decide +kernel) (by decide +kernel) (by decide +kernel) hx (Nat.le_of_ble_eq_true rfl) (Nat.le_of_ble_eq_true rfl)) (fun _ => rfl) (fun p_27 h => ?_)
                        have h : Ok _ _ := h
                        change J X K 6 False QQ 1 6 2064 (jl K (τ.1, p_27.2)) 192 [(0, .ref (K.2.2 + 47)), (1, .int l1), (2, .int l2), (3, .int l3), (4, .int l4)] [.int p_27.1]
                        rw [← hQQ]
                        exact J_iret C hret (Nat.le_of_ble_eq_true rfl) (Nat.le_of_ble_eq_true rfl) ⟨_, h.osome, rfl, rfl, rfl⟩ dL_done_192
                      · have h := h.neg c_26
                        by_cases c_28 : Int32.toInt l1 = 11
                        · have h := h.pos c_28
                          refine J_tab (t := 193) C 11 c_28 dL_done_1 (by decide) (by decide) rfl (by decide) ?_
                          refine J_aload_n (i := 0) (p := 0) C dL_done_193 rfl rfl rfl ?_
                          refine J_iload_n (i := 2) (p := 2) C dL_done_194 rfl rfl rfl ?_
                          refine Jl_cV (α := Int32 × Sto) (rest := []) (st9 := fun p_29 => [.int p_29.1]) (wd := fun p_29 => p_29.2) C hR hX cv_RL_53 (k11_redo hl (Ok.ofhdl h)) rfl rfl (Nat.le_of_ble_eq_true rfl) (Nat.le_of_ble_eq_true rfl) (Nat.le_of_ble_eq_true rfl) ⟨(Nat.le_of_ble_eq_true rfl), (Nat.le_of_ble_eq_true rfl)⟩ dL_done_195 rfl (fun E n9 w9 hx => by rw [← hQQ]; exact done_kx (pc := 195) C htab hret 11 (by decide +kernel) (by decide +kernel) (by decide +kernel) (by decide +kernel) (by decide +kernel) (by decide +kernel) (by decide +kernel) (by decide +kernel) hx (Nat.le_of_ble_eq_true rfl) (Nat.le_of_ble_eq_true rfl)) (fun _ => rfl) (fun p_29 h => ?_)
                          have h : Ok _ _ := h
                          change J X K 6 False QQ 1 6 2064 (jl K (τ.1, p_29.2)) 198 [(0, .ref (K.2.2 + 47)), (1, .int l1), (2, .int l2), (3, .int l3), (4, .int l4)] [.int p_29.1]
                          rw [← hQQ]
                          exact J_iret C hret (Nat.le_of_ble_eq_true rfl) (Nat.le_of_ble_eq_true rfl) ⟨_, h.osome, rfl, rfl, rfl⟩ dL_done_198
                        · have h := h.neg c_28
                          by_cases c_30 : Int32.toInt l1 = 12
                          · have h := h.pos c_30
                            refine J_tab (t := 199) C 12 c_30 dL_done_1 (by decide) (by decide) rfl (by decide) ?_
                            refine J_aload_n (i := 0) (p := 0) C dL_done_199 rfl rfl rfl ?_
                            refine J_iload_n (i := 2) (p := 2) C dL_done_200 rfl rfl rfl ?_
                            refine Jl_cV (α := Int32 × Sto) (rest := []) (st9 := fun p_31 => [.int p_31.1]) (wd := fun p_31 => p_31.2) C hR hX cv_RL_56 (k11_branch hl (Ok.ofhdl h)) rfl rfl (Nat.le_of_ble_eq_true rfl) (Nat.le_of_ble_eq_true rfl) (Nat.le_of_ble_eq_true rfl) ⟨(Nat.le_of_ble_eq_true rfl), (Nat.le_of_ble_eq_true rfl)⟩ dL_done_201 rfl (fun E n9 w9 hx => by rw [← hQQ]; exact done_kx (pc := 201) C htab hret 12 (by decide +kernel) (by decide +kernel) (by decide +kernel) (by decide +kernel) (by decide +kernel) (by decide +kernel) (by decide +kernel) (by decide +kernel) hx (Nat.le_of_ble_eq_true rfl) (Nat.le_of_ble_eq_true rfl)) (fun _ => rfl) (fun p_31 h => ?_)
                            have h : Ok _ _ := h
                            change J X K 6 False QQ 1 6 2064 (jl K (τ.1, p_31.2)) 204 [(0, .ref (K.2.2 + 47)), (1, .int l1), (2, .int l2), (3, .int l3), (4, .int l4)] [.int p_31.1]
                            rw [← hQQ]
                            exact J_iret C hret (Nat.le_of_ble_eq_true rfl) (Nat.le_of_ble_eq_true rfl) ⟨_, h.osome, rfl, rfl, rfl⟩ dL_done_204
                          · have h := h.neg c_30
                            by_cases c_32 : Int32.toInt l1 = 13
                            · have h := h.pos c_32
                              refine J_tab (t := 205) C 13 c_32 dL_done_1 (by decide) (by decide) rfl (by decide) ?_
                              refine J_aload_n (i := 0) (p := 0) C dL_done_205 rfl rfl rfl ?_
                              refine J_iload_n (i := 2) (p := 2) C dL_done_206 rfl rfl rfl ?_
                              refine J_iconst (v := 1) C (by decide) dL_done_207 rfl ?_
                              refine J_icmp_ne (t := 215) C dL_done_208 (by decide) rfl (fun c_33 => ?_) (fun c_33 => ?_)
                              · have h := h.neg c_33
                                refine J_iconst (v := 0) C (by decide) dL_done_215 rfl ?_
                                refine J.sub [] rfl ?_
                                exact hj_216 τ (0 : Int32) h
                              · have h := h.pos (Decidable.not_not.mp c_33)
                                refine J_iconst (v := 1) C (by decide) dL_done_211 rfl ?_
                                refine J_goto (t := 216) C dL_done_212 (by decide) ?_
                                refine J.sub [] rfl ?_
                                exact hj_216 τ (1 : Int32) h
                            · have h := h.neg c_32
                              by_cases c_34 : Int32.toInt l1 = 14
                              · have h := h.pos c_34
                                refine J_tab (t := 223) C 14 c_34 dL_done_1 (by decide) (by decide) rfl (by decide) ?_
                                refine J_aload_n (i := 0) (p := 0) C dL_done_223 rfl rfl rfl ?_
                                refine J_iload_n (i := 2) (p := 2) C dL_done_224 rfl rfl rfl ?_
                                refine Jl_cV (α := Int32 × Sto) (rest := []) (st9 := fun p_35 => [.int p_35.1]) (wd := fun p_35 => p_35.2) C hR hX cv_RL_67 (k11_setCursor hl (Ok.ofhdl h)) rfl rfl (Nat.le_of_ble_eq_true rfl) (Nat.le_of_ble_eq_true rfl) (Nat.le_of_ble_eq_true rfl) ⟨(Nat.le_of_ble_eq_true rfl), (Nat.le_of_ble_eq_true rfl)⟩ dL_done_225 rfl (fun E n9 w9 hx => by rw [← hQQ]; exact done_kx (pc := 225) C htab hret 14 (by decide +kernel) (by decide +kernel) (by decide +kernel) (by decide +kernel) (by decide +kernel) (by decide +kernel) (by decide +kernel) (by decide +kernel) hx (Nat.le_of_ble_eq_true rfl) (Nat.le_of_ble_eq_true rfl)) (fun _ => rfl) (fun p_35 h => ?_)
                                have h : Ok _ _ := h
                                change J X K 6 False QQ 1 6 2064 (jl K (τ.1, p_35.2)) 228 [(0, .ref (K.2.2 + 47)), (1, .int l1), (2, .int l2), (3, .int l3), (4, .int l4)] [.int p_35.1]
                                rw [← hQQ]
                                exact J_iret C hret (Nat.le_of_ble_eq_true rfl) (Nat.le_of_ble_eq_true rfl) ⟨_, h.osome, rfl, rfl, rfl⟩ dL_done_228
                              · have h := h.neg c_34
                                by_cases c_36 : Int32.toInt l1 = 15
                                · have h := h.pos c_36
                                  refine J_tab (t := 229) C 15 c_36 dL_done_1 (by decide) (by decide) rfl (by decide) ?_
                                  refine J_aload_n (i := 0) (p := 0) C dL_done_229 rfl rfl rfl ?_
                                  refine J_iload_n (i := 2) (p := 2) C dL_done_230 rfl rfl rfl ?_
                                  refine Jl_cV (α := Int32 × Sto) (rest := []) (st9 := fun p_37 => [.int p_37.1]) (wd := fun p_37 => p_37.2) C hR hX cv_RL_70 (k11_addCursor hl (Ok.ofhdl h)) rfl rfl (Nat.le_of_ble_eq_true rfl) (Nat.le_of_ble_eq_true rfl) (Nat.le_of_ble_eq_true rfl) ⟨(Nat.le_of_ble_eq_true rfl), (Nat.le_of_ble_eq_true rfl)⟩ dL_done_231 rfl (fun E n9 w9 hx => by rw [← hQQ]; exact done_kx (pc := 231) C htab hret 15 (by decide +kernel) (by decide +kernel) (by decide +kernel) (by decide +kernel) (by decide +kernel) (by decide +kernel) (by decide +kernel) (by decide +kernel) hx (Nat.le_of_ble_eq_true rfl) (Nat.le_of_ble_eq_true rfl)) (fun _ => rfl) (fun p_37 h => ?_)
                                  have h : Ok _ _ := h
                                  change J X K 6 False QQ 2 12 2064 (jl K (τ.1, p_37.2)) 234 [(0, .ref (K.2.2 + 47)), (1, .int l1), (2, .int l2), (3, .int l3), (4, .int l4)] [.int p_37.1]
                                  rw [← hQQ]
                                  exact J_iret C hret (Nat.le_of_ble_eq_true rfl) (Nat.le_of_ble_eq_true rfl) ⟨_, h.osome, rfl, rfl, rfl⟩ dL_done_234
                                · have h := h.neg c_36
                                  by_cases c_38 : Int32.toInt l1 = 16
                                  · have h := h.pos c_38
                                    refine J_tab (t := 235) C 16 c_38 dL_done_1 (by decide) (by decide) rfl (by decide) ?_
                                    refine J_aload_n (i := 0) (p := 0) C dL_done_235 rfl rfl rfl ?_
                                    refine J_iload_n (i := 2) (p := 2) C dL_done_236 rfl rfl rfl ?_
                                    refine J_iload_n (i := 3) (p := 3) C dL_done_237 rfl rfl rfl ?_
                                    refine Jl_cV (α := Int32 × Sto) (rest := []) (st9 := fun p_39 => [.int p_39.1]) (wd := fun p_39 => p_39.2) C hR hX cv_RL_73 (k11_moveCursors hl (Ok.ofhdl h)) rfl rfl (Nat.le_of_ble_eq_true rfl) (Nat.le_of_ble_eq_true rfl) (Nat.le_of_ble_eq_true rfl) ⟨(Nat.le_of_ble_eq_true rfl), (Nat.le_of_ble_eq_true rfl)⟩ dL_done_238 rfl (fun E n9 w9 hx => by rw [← hQQ]; exact done_kx (pc := 238) C htab hret 16 (by decide +kernel) (by decide +kernel) (by decide +kernel) (by decide +kernel) (by decide +kernel) (by decide +kernel) (by decide +kernel) (by decide +kernel) hx (Nat.le_of_ble_eq_true rfl) (Nat.le_of_ble_eq_true rfl)) (fun _ => rfl) (fun p_39 h => ?_)
                                    have h : Ok _ _ := h
                                    change J X K 6 False QQ 1 6 2064 (jl K (τ.1, p_39.2)) 241 [(0, .ref (K.2.2 + 47)), (1, .int l1), (2, .int l2), (3, .int l3), (4, .int l4)] [.int p_39.1]
                                    rw [← hQQ]
                                    exact J_iret C hret (Nat.le_of_ble_eq_true rfl) (Nat.le_of_ble_eq_true rfl) ⟨_, h.osome, rfl, rfl, rfl⟩ dL_done_241
                                  · have h := h.neg c_38
                                    by_cases c_40 : Int32.toInt l1 = 17
                                    · have h := h.pos c_40
                                      refine J_tab (t := 242) C 17 c_40 dL_done_1 (by decide) (by decide) rfl (by decide) ?_
                                      refine J_aload_n (i := 0) (p := 0) C dL_done_242 rfl rfl rfl ?_
                                      refine J_iload_n (i := 2) (p := 2) C dL_done_243 rfl rfl rfl ?_
                                      refine J_iload_n (i := 3) (p := 3) C dL_done_244 rfl rfl rfl ?_
                                      refine J_iload (i := 4) (p := 4) C dL_done_245 rfl rfl ?_
                                      refine J_iconst (v := 1) C (by decide) dL_done_247 rfl ?_
                                      refine J_icmp_ne (t := 255) C dL_done_248 (by decide) rfl (fun c_41 => ?_) (fun c_41 => ?_)
                                      · have h := h.neg c_41
                                        refine J_iconst (v := 0) C (by decide) dL_done_255 rfl ?_
                                        refine J.sub [] rfl ?_
                                        exact hj_256 τ (0 : Int32) h
                                      · have h := h.pos (Decidable.not_not.mp c_41)
                                        refine J_iconst (v := 1) C (by decide) dL_done_251 rfl ?_
                                        refine J_goto (t := 256) C dL_done_252 (by decide) ?_
                                        refine J.sub [] rfl ?_
                                        exact hj_256 τ (1 : Int32) h
                                    · have h := h.neg c_40
                                      by_cases c_42 : Int32.toInt l1 = 18
                                      · have h := h.pos c_42
                                        refine J_tab (t := 260) C 18 c_42 dL_done_1 (by decide) (by decide) rfl (by decide) ?_
                                        refine J_aload_n (i := 0) (p := 0) C dL_done_260 rfl rfl rfl ?_
                                        refine J_iload_n (i := 2) (p := 2) C dL_done_261 rfl rfl rfl ?_
                                        refine Jl_cV (α := Int32 × Sto) (rest := []) (st9 := fun p_43 => [.int p_43.1]) (wd := fun p_43 => p_43.2) C hR hX cv_RL_80 (k11_dropMark hl (Ok.ofhdl h)) rfl rfl (Nat.le_of_ble_eq_true rfl) (Nat.le_of_ble_eq_true rfl) (Nat.le_of_ble_eq_true rfl) ⟨(Nat.le_of_ble_eq_true rfl), (Nat.le_of_ble_eq_true rfl)⟩ dL_done_262 rfl (fun E n9 w9 hx => by rw [← hQQ]; exact done_kx (pc := 262) C htab hret 18 (by decide +kernel) (by decide +kernel) (by decide +kernel) (by decide +kernel) (by decide +kernel) (by decide +kernel) (by decide +kernel) (by decide +kernel) hx (Nat.le_of_ble_eq_true rfl) (Nat.le_of_ble_eq_true rfl)) (fun _ => rfl) (fun p_43 h => ?_)
                                        have h : Ok _ _ := h
                                        change J X K 6 False QQ 1 6 2064 (jl K (τ.1, p_43.2)) 265 [(0, .ref (K.2.2 + 47)), (1, .int l1), (2, .int l2), (3, .int l3), (4, .int l4)] [.int p_43.1]
                                        rw [← hQQ]
                                        exact J_iret C hret (Nat.le_of_ble_eq_true rfl) (Nat.le_of_ble_eq_true rfl) ⟨_, h.osome, rfl, rfl, rfl⟩ dL_done_265
                                      · have h := h.neg c_42
                                        by_cases c_44 : Int32.toInt l1 = 19
                                        · have h := h.pos c_44
                                          refine J_tab (t := 266) C 19 c_44 dL_done_1 (by decide) (by decide) rfl (by decide) ?_
                                          refine J_aload_n (i := 0) (p := 0) C dL_done_266 rfl rfl rfl ?_
                                          refine J_iload_n (i := 2) (p := 2) C dL_done_267 rfl rfl rfl ?_
                                          refine J_iload_n (i := 3) (p := 3) C dL_done_268 rfl rfl rfl ?_
                                          refine Jl_cV (α := Int32 × Sto) (rest := []) (st9 := fun p_45 => [.int p_45.1]) (wd := fun p_45 => p_45.2) C hR hX cv_RL_83 (k11_fold hl (Ok.ofhdl h)) rfl rfl (Nat.le_of_ble_eq_true rfl) (Nat.le_of_ble_eq_true rfl) (Nat.le_of_ble_eq_true rfl) ⟨(Nat.le_of_ble_eq_true rfl), (Nat.le_of_ble_eq_true rfl)⟩ dL_done_269 rfl (fun E n9 w9 hx => by rw [← hQQ]; exact done_kx (pc := 269) C htab hret 19 (by decide +kernel) (by decide +kernel) (by decide +kernel) (by decide +kernel) (by decide +kernel) (by decide +kernel) (by decide +kernel) (by decide +kernel) hx (Nat.le_of_ble_eq_true rfl) (Nat.le_of_ble_eq_true rfl)) (fun _ => rfl) (fun p_45 h => ?_)
                                          have h : Ok _ _ := h
                                          change J X K 6 False QQ 3 18 2064 (jl K (τ.1, p_45.2)) 272 [(0, .ref (K.2.2 + 47)), (1, .int l1), (2, .int l2), (3, .int l3), (4, .int l4)] [.int p_45.1]
                                          rw [← hQQ]
                                          exact J_iret C hret (Nat.le_of_ble_eq_true rfl) (Nat.le_of_ble_eq_true rfl) ⟨_, h.osome, rfl, rfl, rfl⟩ dL_done_272
                                        · have h := h.neg c_44
                                          by_cases c_46 : Int32.toInt l1 = 20
                                          · have h := h.pos c_46
                                            refine J_tab (t := 273) C 20 c_46 dL_done_1 (by decide) (by decide) rfl (by decide) ?_
                                            refine J_aload_n (i := 0) (p := 0) C dL_done_273 rfl rfl rfl ?_
                                            refine J_iload_n (i := 2) (p := 2) C dL_done_274 rfl rfl rfl ?_
                                            refine Jl_cV (α := Int32 × Sto) (rest := []) (st9 := fun p_47 => [.int p_47.1]) (wd := fun p_47 => p_47.2) C hR hX cv_RL_86 (k11_unfold hl (Ok.ofhdl h)) rfl rfl (Nat.le_of_ble_eq_true rfl) (Nat.le_of_ble_eq_true rfl) (Nat.le_of_ble_eq_true rfl) ⟨(Nat.le_of_ble_eq_true rfl), (Nat.le_of_ble_eq_true rfl)⟩ dL_done_275 rfl (fun E n9 w9 hx => by rw [← hQQ]; exact done_kx (pc := 275) C htab hret 20 (by decide +kernel) (by decide +kernel) (by decide +kernel) (by decide +kernel) (by decide +kernel) (by decide +kernel) (by decide +kernel) (by decide +kernel) hx (Nat.le_of_ble_eq_true rfl) (Nat.le_of_ble_eq_true rfl)) (fun _ => rfl) (fun p_47 h => ?_)
                                            have h : Ok _ _ := h
                                            change J X K 6 False QQ 1 6 2064 (jl K (τ.1, p_47.2)) 278 [(0, .ref (K.2.2 + 47)), (1, .int l1), (2, .int l2), (3, .int l3), (4, .int l4)] [.int p_47.1]
                                            rw [← hQQ]
                                            exact J_iret C hret (Nat.le_of_ble_eq_true rfl) (Nat.le_of_ble_eq_true rfl) ⟨_, h.osome, rfl, rfl, rfl⟩ dL_done_278
                                          · have h := h.neg c_46
                                            by_cases c_48 : Int32.toInt l1 = 21
                                            · have h := h.pos c_48
                                              refine J_tab (t := 279) C 21 c_48 dL_done_1 (by decide) (by decide) rfl (by decide) ?_
                                              refine J_aload_n (i := 0) (p := 0) C dL_done_279 rfl rfl rfl ?_
                                              refine J_iload_n (i := 2) (p := 2) C dL_done_280 rfl rfl rfl ?_
                                              refine J_iload_n (i := 3) (p := 3) C dL_done_281 rfl rfl rfl ?_
                                              refine Jl_cV (α := Int32 × Sto) (rest := []) (st9 := fun p_49 => [.int p_49.1]) (wd := fun p_49 => p_49.2) C hR hX cv_RL_89 (k11_copy hl (Ok.ofhdl h)) rfl rfl (Nat.le_of_ble_eq_true rfl) (Nat.le_of_ble_eq_true rfl) (Nat.le_of_ble_eq_true rfl) ⟨(Nat.le_of_ble_eq_true rfl), (Nat.le_of_ble_eq_true rfl)⟩ dL_done_282 rfl (fun E n9 w9 hx => by rw [← hQQ]; exact done_kx (pc := 282) C htab hret 21 (by decide +kernel) (by decide +kernel) (by decide +kernel) (by decide +kernel) (by decide +kernel) (by decide +kernel) (by decide +kernel) (by decide +kernel) hx (Nat.le_of_ble_eq_true rfl) (Nat.le_of_ble_eq_true rfl)) (fun _ => rfl) (fun p_49 h => ?_)
                                              have h : Ok _ _ := h
                                              change J X K 6 False QQ 3 18 2064 (jl K (τ.1, p_49.2)) 285 [(0, .ref (K.2.2 + 47)), (1, .int l1), (2, .int l2), (3, .int l3), (4, .int l4)] [.int p_49.1]
                                              rw [← hQQ]
                                              exact J_iret C hret (Nat.le_of_ble_eq_true rfl) (Nat.le_of_ble_eq_true rfl) ⟨_, h.osome, rfl, rfl, rfl⟩ dL_done_285
                                            · have h := h.neg c_48
                                              by_cases c_50 : Int32.toInt l1 = 22
                                              · have h := h.pos c_50
                                                refine J_tab (t := 286) C 22 c_50 dL_done_1 (by decide) (by decide) rfl (by decide) ?_
                                                refine J_aload_n (i := 0) (p := 0) C dL_done_286 rfl rfl rfl ?_
                                                refine J_iload_n (i := 2) (p := 2) C dL_done_287 rfl rfl rfl ?_
                                                refine J_iconst (v := 1) C (by decide) dL_done_288 rfl ?_
                                                refine J_icmp_ne (t := 296) C dL_done_289 (by decide) rfl (fun c_51 => ?_) (fun c_51 => ?_)
                                                · have h := h.neg c_51
                                                  refine J_iconst (v := 0) C (by decide) dL_done_296 rfl ?_
                                                  refine J.sub [] rfl ?_
                                                  exact hj_297 τ (0 : Int32) h
                                                · have h := h.pos (Decidable.not_not.mp c_51)
                                                  refine J_iconst (v := 1) C (by decide) dL_done_292 rfl ?_
                                                  refine J_goto (t := 297) C dL_done_293 (by decide) ?_
                                                  refine J.sub [] rfl ?_
                                                  exact hj_297 τ (1 : Int32) h
                                              · have h := h.neg c_50
                                                by_cases c_52 : Int32.toInt l1 = 23
                                                · have h := h.pos c_52
                                                  refine J_tab (t := 301) C 23 c_52 dL_done_1 (by decide) (by decide) rfl (by decide) ?_
                                                  refine J_aload_n (i := 0) (p := 0) C dL_done_301 rfl rfl rfl ?_
                                                  refine J_iload_n (i := 2) (p := 2) C dL_done_302 rfl rfl rfl ?_
                                                  refine J_iload_n (i := 3) (p := 3) C dL_done_303 rfl rfl rfl ?_
                                                  refine J_iconst (v := 1) C (by decide) dL_done_304 rfl ?_
                                                  refine J_icmp_ne (t := 312) C dL_done_305 (by decide) rfl (fun c_53 => ?_) (fun c_53 => ?_)
                                                  · have h := h.neg c_53
                                                    refine J_iconst (v := 0) C (by decide) dL_done_312 rfl ?_
                                                    refine J.sub [] rfl ?_
                                                    exact hj_313 τ (0 : Int32) h
                                                  · have h := h.pos (Decidable.not_not.mp c_53)
                                                    refine J_iconst (v := 1) C (by decide) dL_done_308 rfl ?_
                                                    refine J_goto (t := 313) C dL_done_309 (by decide) ?_
                                                    refine J.sub [] rfl ?_
                                                    exact hj_313 τ (1 : Int32) h
                                                · have h := h.neg c_52
                                                  by_cases c_54 : Int32.toInt l1 = 24
                                                  · have h := h.pos c_54
                                                    refine J_tab (t := 317) C 24 c_54 dL_done_1 (by decide) (by decide) rfl (by decide) ?_
                                                    refine J_aload_n (i := 0) (p := 0) C dL_done_317 rfl rfl rfl ?_
                                                    refine J_iload_n (i := 2) (p := 2) C dL_done_318 rfl rfl rfl ?_
                                                    refine Jl_cV (α := Int32 × Sto) (rest := []) (st9 := fun p_55 => [.int p_55.1]) (wd := fun p_55 => p_55.2) C hR hX cv_RL_99 (k11_play hl (Ok.ofhdl h)) rfl rfl (Nat.le_of_ble_eq_true rfl) (Nat.le_of_ble_eq_true rfl) (Nat.le_of_ble_eq_true rfl) ⟨(Nat.le_of_ble_eq_true rfl), (Nat.le_of_ble_eq_true rfl)⟩ dL_done_319 rfl (fun E n9 w9 hx => by rw [← hQQ]; exact done_kx (pc := 319) C htab hret 24 (by decide +kernel) (by decide +kernel) (by decide +kernel) (by decide +kernel) (by decide +kernel) (by decide +kernel) (by decide +kernel) (by decide +kernel) hx (Nat.le_of_ble_eq_true rfl) (Nat.le_of_ble_eq_true rfl)) (fun _ => rfl) (fun p_55 h => ?_)
                                                    have h : Ok _ _ := h
                                                    change J X K 6 False QQ 1 6 2064 (jl K (τ.1, p_55.2)) 322 [(0, .ref (K.2.2 + 47)), (1, .int l1), (2, .int l2), (3, .int l3), (4, .int l4)] [.int p_55.1]
                                                    rw [← hQQ]
                                                    exact J_iret C hret (Nat.le_of_ble_eq_true rfl) (Nat.le_of_ble_eq_true rfl) ⟨_, h.osome, rfl, rfl, rfl⟩ dL_done_322
                                                  · have h := h.neg c_54
                                                    by_cases c_56 : Int32.toInt l1 = 25
                                                    · have h := h.pos c_56
                                                      refine J_tab (t := 323) C 25 c_56 dL_done_1 (by decide) (by decide) rfl (by decide) ?_
                                                      refine J_aload_n (i := 0) (p := 0) C dL_done_323 rfl rfl rfl ?_
                                                      refine J_iload_n (i := 2) (p := 2) C dL_done_324 rfl rfl rfl ?_
                                                      refine J_iload_n (i := 3) (p := 3) C dL_done_325 rfl rfl rfl ?_
                                                      refine J_iload (i := 4) (p := 4) C dL_done_326 rfl rfl ?_
                                                      refine J_iconst (v := 1) C (by decide) dL_done_328 rfl ?_
                                                      refine J_iload (i := 4) (p := 4) C dL_done_329 rfl rfl ?_
                                                      refine J_iconst (v := 5) C (by decide) dL_done_331 rfl ?_
                                                      refine J_irem C (by decide) dL_done_332 rfl ?_
                                                      refine J_iadd C dL_done_333 rfl ?_
                                                      refine Jl_cV (α := Int32 × Sto) (rest := []) (st9 := fun p_57 => [.int p_57.1]) (wd := fun p_57 => p_57.2) C hR hX cv_RL_102 (k11_copyBlock hl (Ok.ofhdl h)) rfl rfl (Nat.le_of_ble_eq_true rfl) (Nat.le_of_ble_eq_true rfl) (Nat.le_of_ble_eq_true rfl) ⟨(Nat.le_of_ble_eq_true rfl), (Nat.le_of_ble_eq_true rfl)⟩ dL_done_334 rfl (fun E n9 w9 hx => by rw [← hQQ]; exact done_kx (pc := 334) C htab hret 25 (by decide +kernel) (by decide +kernel) (by decide +kernel) (by decide +kernel) (by decide +kernel) (by decide +kernel) (by decide +kernel) (by decide +kernel) hx (Nat.le_of_ble_eq_true rfl) (Nat.le_of_ble_eq_true rfl)) (fun _ => rfl) (fun p_57 h => ?_)
                                                      have h : Ok _ _ := h
                                                      change J X K 6 False QQ 2 12 2064 (jl K (τ.1, p_57.2)) 337 [(0, .ref (K.2.2 + 47)), (1, .int l1), (2, .int l2), (3, .int l3), (4, .int l4)] [.int p_57.1]
                                                      rw [← hQQ]
                                                      exact J_iret C hret (Nat.le_of_ble_eq_true rfl) (Nat.le_of_ble_eq_true rfl) ⟨_, h.osome, rfl, rfl, rfl⟩ dL_done_337
                                                    · have h := h.neg c_56
                                                      by_cases c_58 : Int32.toInt l1 = 26
                                                      · have h := h.pos c_58
                                                        refine J_tab (t := 338) C 26 c_58 dL_done_1 (by decide) (by decide) rfl (by decide) ?_
                                                        refine J_aload_n (i := 0) (p := 0) C dL_done_338 rfl rfl rfl ?_
                                                        refine J_iload_n (i := 2) (p := 2) C dL_done_339 rfl rfl rfl ?_
                                                        refine Jl_cV (α := Int32 × Sto) (rest := []) (st9 := fun p_59 => [.int p_59.1]) (wd := fun p_59 => p_59.2) C hR hX cv_RL_106 (k11_letterAt hl (Ok.ofhdl h)) rfl rfl (Nat.le_of_ble_eq_true rfl) (Nat.le_of_ble_eq_true rfl) (Nat.le_of_ble_eq_true rfl) ⟨(Nat.le_of_ble_eq_true rfl), (Nat.le_of_ble_eq_true rfl)⟩ dL_done_340 rfl (fun E n9 w9 hx => by rw [← hQQ]; exact done_kx (pc := 340) C htab hret 26 (by decide +kernel) (by decide +kernel) (by decide +kernel) (by decide +kernel) (by decide +kernel) (by decide +kernel) (by decide +kernel) (by decide +kernel) hx (Nat.le_of_ble_eq_true rfl) (Nat.le_of_ble_eq_true rfl)) (fun _ => rfl) (fun p_59 h => ?_)
                                                        have h : Ok _ _ := h
                                                        change J X K 6 False QQ 1 6 2064 (jl K (τ.1, p_59.2)) 343 [(0, .ref (K.2.2 + 47)), (1, .int l1), (2, .int l2), (3, .int l3), (4, .int l4)] [.int p_59.1]
                                                        rw [← hQQ]
                                                        exact J_iret C hret (Nat.le_of_ble_eq_true rfl) (Nat.le_of_ble_eq_true rfl) ⟨_, h.osome, rfl, rfl, rfl⟩ dL_done_343
                                                      · have h := h.neg c_58
                                                        refine J_tabO (t := 344) C dL_done_1 (by omega) (by decide) ?_
                                                        refine J_aload_n (i := 0) (p := 0) C dL_done_344 rfl rfl rfl ?_
                                                        refine J_iload_n (i := 2) (p := 2) C dL_done_345 rfl rfl rfl ?_
                                                        refine Jl_cV (α := Int32 × Sto) (rest := []) (st9 := fun p_60 => [.int p_60.1]) (wd := fun p_60 => p_60.2) C hR hX cv_RL_109 (k11_lineOf hl (Ok.ofhdl h)) rfl rfl (Nat.le_of_ble_eq_true rfl) (Nat.le_of_ble_eq_true rfl) (Nat.le_of_ble_eq_true rfl) ⟨(Nat.le_of_ble_eq_true rfl), (Nat.le_of_ble_eq_true rfl)⟩ dL_done_346 rfl (fun E n9 w9 hx => by rw [← hQQ]; exact done_kx (pc := 346) C htab hret 27 (by decide +kernel) (by decide +kernel) (by decide +kernel) (by decide +kernel) (by decide +kernel) (by decide +kernel) (by decide +kernel) (by decide +kernel) hx (Nat.le_of_ble_eq_true rfl) (Nat.le_of_ble_eq_true rfl)) (fun _ => rfl) (fun p_60 h => ?_)
                                                        have h : Ok _ _ := h
                                                        change J X K 6 False QQ 1 6 2064 (jl K (τ.1, p_60.2)) 349 [(0, .ref (K.2.2 + 47)), (1, .int l1), (2, .int l2), (3, .int l3), (4, .int l4)] [.int p_60.1]
                                                        rw [← hQQ]
                                                        exact J_iret C hret (Nat.le_of_ble_eq_true rfl) (Nat.le_of_ble_eq_true rfl) ⟨_, h.osome, rfl, rfl, rfl⟩ dL_done_349
