def f12_says (μ : Sto) (l1 : Int32) : Option (Int32 × Sto) :=
  stp (uI μ 2017 18 (0 : Int32)) fun μx_1 =>
  gd (isB l1) <|
  some (l1, μx_1)
set_option maxHeartbeats 4000000 in
set_option maxRecDepth 100000 in
theorem k12_says {l : Launch} {K : JK} (hl : l.stackTraces = false) {σ μ : Sto} {o : Int64} {l1 : Int32}  {Qf : Int32 × Sto → Prop} (h : Ok (f12_says μ l1) Qf) : Con l K yX12_says (.code yX12_says cX12_says 2 (some .boolean) :: TB) 0 0 0 False [.ref (K.2.2 + 2017), .int l1] 2055 (jw K σ μ o) (PR Qf (fun p => some (.int p.1)) (fun p => jw K σ p.2 o)) PN := by
  refine Con.enter (own := RX12) hl (by decide) rfl (Nat.le_of_ble_eq_true rfl) ?_
  intro X hX hR C hret hnt
  generalize hQQ : jQ X K 0 0 (PR Qf (fun p => some (.int p.1)) (fun p => jw K σ p.2 o)) PN False = QQ
  change J X K 2 False QQ 0 0 2055 (jw K σ μ o) 0 [(0, .ref (K.2.2 + 2017)), (1, .int l1)] []
  unfold f12_says at h
  refine J_aload_n (i := 0) (p := 0) C dX12_says_0 rfl rfl rfl ?_
  refine J_iconst (v := 0) C (by decide) dX12_says_1 rfl ?_
  obtain ⟨μx_1, e_μx_1, h⟩ := Ok.nm h
  refine Jm_putI C id fp_RX12_131 fw_11_18 rfl rfl rfl e_μx_1 dX12_says_2 rfl ?_
  refine J_iload_n (i := 1) (p := 1) C dX12_says_5 rfl rfl rfl ?_
  obtain ⟨g_1, h⟩ := Ok.ofgd h
  rw [← hQQ]
  exact J_zret C hret (narB g_1).1 (Nat.le_of_ble_eq_true rfl) (Nat.le_of_ble_eq_true rfl) ⟨_, h.osome, rfl, rfl, rfl⟩ dX12_says_6
def f12_denies (μ : Sto) (l1 : Int32) : Option (Int32 × Sto) :=
  stp (uI μ 2017 18 l1) fun μx_1 =>
  some ((0 : Int32), μx_1)
set_option maxHeartbeats 4000000 in
set_option maxRecDepth 100000 in
theorem k12_denies {l : Launch} {K : JK} (hl : l.stackTraces = false) {σ μ : Sto} {o : Int64} {l1 : Int32}  {Qf : Int32 × Sto → Prop} (h : Ok (f12_denies μ l1) Qf) : Con l K yX12_denies (.code yX12_denies cX12_denies 2 (some .boolean) :: TB) 0 0 0 False [.ref (K.2.2 + 2017), .int l1] 2055 (jw K σ μ o) (PR Qf (fun p => some (.int p.1)) (fun p => jw K σ p.2 o)) PN := by
  refine Con.enter (own := RX12) hl (by decide) rfl (Nat.le_of_ble_eq_true rfl) ?_
  intro X hX hR C hret hnt
  generalize hQQ : jQ X K 0 0 (PR Qf (fun p => some (.int p.1)) (fun p => jw K σ p.2 o)) PN False = QQ
  change J X K 2 False QQ 0 0 2055 (jw K σ μ o) 0 [(0, .ref (K.2.2 + 2017)), (1, .int l1)] []
  unfold f12_denies at h
  refine J_aload_n (i := 0) (p := 0) C dX12_denies_0 rfl rfl rfl ?_
  refine J_iload_n (i := 1) (p := 1) C dX12_denies_1 rfl rfl rfl ?_
  obtain ⟨μx_1, e_μx_1, h⟩ := Ok.nm h
  refine Jm_putI C id fp_RX12_131 fw_11_18 rfl rfl rfl e_μx_1 dX12_denies_2 rfl ?_
  refine J_iconst (v := 0) C (by decide) dX12_denies_5 rfl ?_
  rw [← hQQ]
  exact J_zret C hret rfl (Nat.le_of_ble_eq_true rfl) (Nat.le_of_ble_eq_true rfl) ⟨_, h.osome, rfl, rfl, rfl⟩ dX12_denies_6
def f12_isLetter_j28 (l0 : Int32) (s0_28 : Int32) : Option (Int32) :=
  gd (isB s0_28) <|
  some s0_28
def f12_isLetter_j23 (l0 : Int32) : Option (Int32) :=
  f12_isLetter_j28 l0 (1 : Int32)
def f12_isLetter (l0 : Int32) : Option (Int32) :=
  if l0 = (10 : Int32) then
    f12_isLetter_j23 l0
  else
    if l0 = (9 : Int32) then
      f12_isLetter_j23 l0
    else
      bnd (f12_in l0 (32 : Int32) (126 : Int32)) fun p_4 =>
      if p_4 = 0 then
        f12_isLetter_j28 l0 (0 : Int32)
      else
        f12_isLetter_j23 l0
set_option maxHeartbeats 4000000 in
set_option maxRecDepth 100000 in
theorem k12_isLetter {l : Launch} {K : JK} (hl : l.stackTraces = false) {σ μ : Sto} {o : Int64} {l0 : Int32}  {Qf : Int32 → Prop} (h : Ok (f12_isLetter l0) Qf) : Con l K yX12_isLetter (.code yX12_isLetter cX12_isLetter 1 (some .boolean) :: TB) 1 0 0 False [.int l0] 2055 (jw K σ μ o) (PR Qf (fun p => some (.int p)) (fun p => jw K σ μ o)) PN := by
  refine Con.enter (own := RX12) hl (by decide) rfl (Nat.le_of_ble_eq_true rfl) ?_
  intro X hX hR C hret hnt
  generalize hQQ : jQ X K 0 0 (PR Qf (fun p => some (.int p)) (fun p => jw K σ μ o)) PN False = QQ
  change J X K 1 False QQ 0 0 2055 (jw K σ μ o) 0 [(0, .int l0)] []
  have hj_28 : (∀ (s0_28 : Int32), Ok (f12_isLetter_j28 l0 s0_28) Qf → J X K 1 False QQ 0 0 2055 (jw K σ μ o) 28 [] [.int s0_28]) := by
    intro s0_28 h
    unfold f12_isLetter_j28 at h
    obtain ⟨g_1, h⟩ := Ok.ofgd h
    rw [← hQQ]
    exact J_zret C hret (narB g_1).1 (Nat.le_of_ble_eq_true rfl) (Nat.le_of_ble_eq_true rfl) ⟨_, h.osome, rfl, rfl, rfl⟩ dX12_isLetter_28
  have hj_23 : (Ok (f12_isLetter_j23 l0) Qf → J X K 1 False QQ 0 0 2055 (jw K σ μ o) 23 [] []) := by
    intro h
    unfold f12_isLetter_j23 at h
    refine J_iconst (v := 1) C (by decide) dX12_isLetter_23 rfl ?_
    refine J_goto (t := 28) C dX12_isLetter_24 (by decide) ?_
    exact hj_28 (1 : Int32) h
  unfold f12_isLetter at h
  refine J_iload_n (i := 0) (p := 0) C dX12_isLetter_0 rfl rfl rfl ?_
  refine J_bipush (v := 10) C (by decide) dX12_isLetter_1 rfl ?_
  refine J_icmp_eq (t := 23) C dX12_isLetter_3 (by decide) rfl (fun c_2 => ?_) (fun c_2 => ?_)
  · have h := h.pos c_2
    refine J.sub [] rfl ?_
    exact hj_23  h
  · have h := h.neg c_2
    refine J_iload_n (i := 0) (p := 0) C dX12_isLetter_6 rfl rfl rfl ?_
    refine J_bipush (v := 9) C (by decide) dX12_isLetter_7 rfl ?_
    refine J_icmp_eq (t := 23) C dX12_isLetter_9 (by decide) rfl (fun c_3 => ?_) (fun c_3 => ?_)
    · have h := h.pos c_3
      refine J.sub [] rfl ?_
      exact hj_23  h
    · have h := h.neg c_3
      refine J_iload_n (i := 0) (p := 0) C dX12_isLetter_12 rfl rfl rfl ?_
      refine J_bipush (v := 32) C (by decide) dX12_isLetter_13 rfl ?_
      refine J_bipush (v := 126) C (by decide) dX12_isLetter_15 rfl ?_
      refine J_cS (rest := []) (st9 := fun p_4 => [.int p_4]) C hR hX cs_RX12_134 (k12_in hl  (Ok.ofbnd h)) rfl rfl (Nat.le_of_ble_eq_true rfl) (Nat.le_of_ble_eq_true rfl) (Nat.le_of_ble_eq_true rfl) ⟨(Nat.le_of_ble_eq_true rfl), (Nat.le_of_ble_eq_true rfl)⟩ dX12_isLetter_17 rfl (fun E n9 w9 hx => JT_n hx) (fun _ => rfl) (fun p_4 h => ?_)
      have h : Ok _ _ := h
      change J X K 1 False QQ 0 0 2055 (jw K σ μ o) 20 [(0, .int l0)] [.int p_4]
      refine J_if_eq (t := 27) C dX12_isLetter_20 (by decide) rfl (fun c_5 => ?_) (fun c_5 => ?_)
      · have h := h.pos c_5
        refine J_iconst (v := 0) C (by decide) dX12_isLetter_27 rfl ?_
        refine J.sub [] rfl ?_
        exact hj_28 (0 : Int32) h
      · have h := h.neg c_5
        refine J.sub [] rfl ?_
        exact hj_23  h
def f12_isSpace_j17 (l0 : Int32) (s0_17 : Int32) : Option (Int32) :=
  gd (isB s0_17) <|
  some s0_17
def f12_isSpace_j12 (l0 : Int32) : Option (Int32) :=
  f12_isSpace_j17 l0 (1 : Int32)
def f12_isSpace (l0 : Int32) : Option (Int32) :=
  if l0 = (32 : Int32) then
    f12_isSpace_j12 l0
  else
    if l0 = (9 : Int32) then
      f12_isSpace_j12 l0
    else
      f12_isSpace_j17 l0 (0 : Int32)
set_option maxHeartbeats 4000000 in
set_option maxRecDepth 100000 in
theorem k12_isSpace {l : Launch} {K : JK} (hl : l.stackTraces = false) {σ μ : Sto} {o : Int64} {l0 : Int32}  {Qf : Int32 → Prop} (h : Ok (f12_isSpace l0) Qf) : Con l K yX12_isSpace (.code yX12_isSpace cX12_isSpace 1 (some .boolean) :: TB) 0 0 0 False [.int l0] 2055 (jw K σ μ o) (PR Qf (fun p => some (.int p)) (fun p => jw K σ μ o)) PN := by
  refine Con.enter (own := RX12) hl (by decide) rfl (Nat.le_of_ble_eq_true rfl) ?_
  intro X hX hR C hret hnt
  generalize hQQ : jQ X K 0 0 (PR Qf (fun p => some (.int p)) (fun p => jw K σ μ o)) PN False = QQ
  change J X K 1 False QQ 0 0 2055 (jw K σ μ o) 0 [(0, .int l0)] []
  have hj_17 : (∀ (s0_17 : Int32), Ok (f12_isSpace_j17 l0 s0_17) Qf → J X K 1 False QQ 0 0 2055 (jw K σ μ o) 17 [] [.int s0_17]) := by
    intro s0_17 h
    unfold f12_isSpace_j17 at h
    obtain ⟨g_1, h⟩ := Ok.ofgd h
    rw [← hQQ]
    exact J_zret C hret (narB g_1).1 (Nat.le_of_ble_eq_true rfl) (Nat.le_of_ble_eq_true rfl) ⟨_, h.osome, rfl, rfl, rfl⟩ dX12_isSpace_17
  have hj_12 : (Ok (f12_isSpace_j12 l0) Qf → J X K 1 False QQ 0 0 2055 (jw K σ μ o) 12 [] []) := by
    intro h
    unfold f12_isSpace_j12 at h
    refine J_iconst (v := 1) C (by decide) dX12_isSpace_12 rfl ?_
    refine J_goto (t := 17) C dX12_isSpace_13 (by decide) ?_
    exact hj_17 (1 : Int32) h
  unfold f12_isSpace at h
  refine J_iload_n (i := 0) (p := 0) C dX12_isSpace_0 rfl rfl rfl ?_
  refine J_bipush (v := 32) C (by decide) dX12_isSpace_1 rfl ?_
  refine J_icmp_eq (t := 12) C dX12_isSpace_3 (by decide) rfl (fun c_2 => ?_) (fun c_2 => ?_)
  · have h := h.pos c_2
    refine J.sub [] rfl ?_
    exact hj_12  h
  · have h := h.neg c_2
    refine J_iload_n (i := 0) (p := 0) C dX12_isSpace_6 rfl rfl rfl ?_
    refine J_bipush (v := 9) C (by decide) dX12_isSpace_7 rfl ?_
    refine J_icmp_ne (t := 16) C dX12_isSpace_9 (by decide) rfl (fun c_3 => ?_) (fun c_3 => ?_)
    · have h := h.neg c_3
      refine J_iconst (v := 0) C (by decide) dX12_isSpace_16 rfl ?_
      refine J.sub [] rfl ?_
      exact hj_17 (0 : Int32) h
    · have h := h.pos (Decidable.not_not.mp c_3)
      refine J.sub [] rfl ?_
      exact hj_12  h
def f12_isOfWord_j44 (l0 : Int32) (s0_44 : Int32) : Option (Int32) :=
  gd (isB s0_44) <|
  some s0_44
def f12_isOfWord_j39 (l0 : Int32) : Option (Int32) :=
  f12_isOfWord_j44 l0 (1 : Int32)
def f12_isOfWord (l0 : Int32) : Option (Int32) :=
  bnd (f12_in l0 (65 : Int32) (90 : Int32)) fun p_2 =>
  if p_2 = 0 then
    bnd (f12_in l0 (97 : Int32) (122 : Int32)) fun p_4 =>
    if p_4 = 0 then
      bnd (f12_in l0 (48 : Int32) (57 : Int32)) fun p_6 =>
      if p_6 = 0 then
        if l0 = (95 : Int32) then
          f12_isOfWord_j39 l0
        else
          f12_isOfWord_j44 l0 (0 : Int32)
      else
        f12_isOfWord_j39 l0
    else
      f12_isOfWord_j39 l0
  else
    f12_isOfWord_j39 l0
set_option maxHeartbeats 4000000 in
set_option maxRecDepth 100000 in
theorem k12_isOfWord {l : Launch} {K : JK} (hl : l.stackTraces = false) {σ μ : Sto} {o : Int64} {l0 : Int32}  {Qf : Int32 → Prop} (h : Ok (f12_isOfWord l0) Qf) : Con l K yX12_isOfWord (.code yX12_isOfWord cX12_isOfWord 1 (some .boolean) :: TB) 1 0 0 False [.int l0] 2055 (jw K σ μ o) (PR Qf (fun p => some (.int p)) (fun p => jw K σ μ o)) PN := by
  refine Con.enter (own := RX12) hl (by decide) rfl (Nat.le_of_ble_eq_true rfl) ?_
  intro X hX hR C hret hnt
  generalize hQQ : jQ X K 0 0 (PR Qf (fun p => some (.int p)) (fun p => jw K σ μ o)) PN False = QQ
  change J X K 1 False QQ 0 0 2055 (jw K σ μ o) 0 [(0, .int l0)] []
  have hj_44 : (∀ (s0_44 : Int32), Ok (f12_isOfWord_j44 l0 s0_44) Qf → J X K 1 False QQ 0 0 2055 (jw K σ μ o) 44 [] [.int s0_44]) := by
    intro s0_44 h
    unfold f12_isOfWord_j44 at h
    obtain ⟨g_1, h⟩ := Ok.ofgd h
    rw [← hQQ]
    exact J_zret C hret (narB g_1).1 (Nat.le_of_ble_eq_true rfl) (Nat.le_of_ble_eq_true rfl) ⟨_, h.osome, rfl, rfl, rfl⟩ dX12_isOfWord_44
  have hj_39 : (Ok (f12_isOfWord_j39 l0) Qf → J X K 1 False QQ 0 0 2055 (jw K σ μ o) 39 [] []) := by
    intro h
    unfold f12_isOfWord_j39 at h
    refine J_iconst (v := 1) C (by decide) dX12_isOfWord_39 rfl ?_
    refine J_goto (t := 44) C dX12_isOfWord_40 (by decide) ?_
    exact hj_44 (1 : Int32) h
  unfold f12_isOfWord at h
  refine J_iload_n (i := 0) (p := 0) C dX12_isOfWord_0 rfl rfl rfl ?_
  refine J_bipush (v := 65) C (by decide) dX12_isOfWord_1 rfl ?_
  refine J_bipush (v := 90) C (by decide) dX12_isOfWord_3 rfl ?_
  refine J_cS (rest := []) (st9 := fun p_2 => [.int p_2]) C hR hX cs_RX12_134 (k12_in hl  (Ok.ofbnd h)) rfl rfl (Nat.le_of_ble_eq_true rfl) (Nat.le_of_ble_eq_true rfl) (Nat.le_of_ble_eq_true rfl) ⟨(Nat.le_of_ble_eq_true rfl), (Nat.le_of_ble_eq_true rfl)⟩ dX12_isOfWord_5 rfl (fun E n9 w9 hx => JT_n hx) (fun _ => rfl) (fun p_2 h => ?_)
  have h : Ok _ _ := h
  change J X K 1 False QQ 0 0 2055 (jw K σ μ o) 8 [(0, .int l0)] [.int p_2]
  refine J_if_ne (t := 39) C dX12_isOfWord_8 (by decide) rfl (fun c_3 => ?_) (fun c_3 => ?_)
  · have h := h.neg c_3
    refine J.sub [] rfl ?_
    exact hj_39  h
  · have h := h.pos (Decidable.not_not.mp c_3)
    refine J_iload_n (i := 0) (p := 0) C dX12_isOfWord_11 rfl rfl rfl ?_
    refine J_bipush (v := 97) C (by decide) dX12_isOfWord_12 rfl ?_
    refine J_bipush (v := 122) C (by decide) dX12_isOfWord_14 rfl ?_
    refine J_cS (rest := []) (st9 := fun p_4 => [.int p_4]) C hR hX cs_RX12_134 (k12_in hl  (Ok.ofbnd h)) rfl rfl (Nat.le_of_ble_eq_true rfl) (Nat.le_of_ble_eq_true rfl) (Nat.le_of_ble_eq_true rfl) ⟨(Nat.le_of_ble_eq_true rfl), (Nat.le_of_ble_eq_true rfl)⟩ dX12_isOfWord_16 rfl (fun E n9 w9 hx => JT_n hx) (fun _ => rfl) (fun p_4 h => ?_)
    have h : Ok _ _ := h
    change J X K 1 False QQ 0 0 2055 (jw K σ μ o) 19 [(0, .int l0)] [.int p_4]
    refine J_if_ne (t := 39) C dX12_isOfWord_19 (by decide) rfl (fun c_5 => ?_) (fun c_5 => ?_)
    · have h := h.neg c_5
      refine J.sub [] rfl ?_
      exact hj_39  h
    · have h := h.pos (Decidable.not_not.mp c_5)
      refine J_iload_n (i := 0) (p := 0) C dX12_isOfWord_22 rfl rfl rfl ?_
      refine J_bipush (v := 48) C (by decide) dX12_isOfWord_23 rfl ?_
      refine J_bipush (v := 57) C (by decide) dX12_isOfWord_25 rfl ?_
      refine J_cS (rest := []) (st9 := fun p_6 => [.int p_6]) C hR hX cs_RX12_134 (k12_in hl  (Ok.ofbnd h)) rfl rfl (Nat.le_of_ble_eq_true rfl) (Nat.le_of_ble_eq_true rfl) (Nat.le_of_ble_eq_true rfl) ⟨(Nat.le_of_ble_eq_true rfl), (Nat.le_of_ble_eq_true rfl)⟩ dX12_isOfWord_27 rfl (fun E n9 w9 hx => JT_n hx) (fun _ => rfl) (fun p_6 h => ?_)
      have h : Ok _ _ := h
      change J X K 1 False QQ 0 0 2055 (jw K σ μ o) 30 [(0, .int l0)] [.int p_6]
      refine J_if_ne (t := 39) C dX12_isOfWord_30 (by decide) rfl (fun c_7 => ?_) (fun c_7 => ?_)
      · have h := h.neg c_7
        refine J.sub [] rfl ?_
        exact hj_39  h
      · have h := h.pos (Decidable.not_not.mp c_7)
        refine J_iload_n (i := 0) (p := 0) C dX12_isOfWord_33 rfl rfl rfl ?_
        refine J_bipush (v := 95) C (by decide) dX12_isOfWord_34 rfl ?_
        refine J_icmp_ne (t := 43) C dX12_isOfWord_36 (by decide) rfl (fun c_8 => ?_) (fun c_8 => ?_)
        · have h := h.neg c_8
          refine J_iconst (v := 0) C (by decide) dX12_isOfWord_43 rfl ?_
          refine J.sub [] rfl ?_
          exact hj_44 (0 : Int32) h
        · have h := h.pos (Decidable.not_not.mp c_8)
          refine J.sub [] rfl ?_
          exact hj_39  h
def f12_isPlace (μ : Sto) (l1 : Int32) : Option (Int32) :=
  bnd (f12_in l1 (0 : Int32) (fI μ 2017 5)) fun p_1 =>
  gd (isB p_1) <|
  some p_1
set_option maxHeartbeats 4000000 in
set_option maxRecDepth 100000 in
theorem k12_isPlace {l : Launch} {K : JK} (hl : l.stackTraces = false) {σ μ : Sto} {o : Int64} {l1 : Int32}  {Qf : Int32 → Prop} (h : Ok (f12_isPlace μ l1) Qf) : Con l K yX12_isPlace (.code yX12_isPlace cX12_isPlace 2 (some .boolean) :: TB) 1 0 0 False [.ref (K.2.2 + 2017), .int l1] 2055 (jw K σ μ o) (PR Qf (fun p => some (.int p)) (fun p => jw K σ μ o)) PN := by
  refine Con.enter (own := RX12) hl (by decide) rfl (Nat.le_of_ble_eq_true rfl) ?_
  intro X hX hR C hret hnt
  generalize hQQ : jQ X K 0 0 (PR Qf (fun p => some (.int p)) (fun p => jw K σ μ o)) PN False = QQ
  change J X K 2 False QQ 0 0 2055 (jw K σ μ o) 0 [(0, .ref (K.2.2 + 2017)), (1, .int l1)] []
  unfold f12_isPlace at h
  refine J_iload_n (i := 1) (p := 1) C dX12_isPlace_0 rfl rfl rfl ?_
  refine J_iconst (v := 0) C (by decide) dX12_isPlace_1 rfl ?_
  refine J_aload_n (i := 0) (p := 0) C dX12_isPlace_2 rfl rfl rfl ?_
  refine Jm_getI C fp_RX12_138 rfl rfl dX12_isPlace_3 rfl ?_
  refine J_cS (rest := []) (st9 := fun p_1 => [.int p_1]) C hR hX cs_RX12_134 (k12_in hl  (Ok.ofbnd h)) rfl rfl (Nat.le_of_ble_eq_true rfl) (Nat.le_of_ble_eq_true rfl) (Nat.le_of_ble_eq_true rfl) ⟨(Nat.le_of_ble_eq_true rfl), (Nat.le_of_ble_eq_true rfl)⟩ dX12_isPlace_6 rfl (fun E n9 w9 hx => JT_n hx) (fun _ => rfl) (fun p_1 h => ?_)
  have h : Ok _ _ := h
  change J X K 2 False QQ 0 0 2055 (jw K σ μ o) 9 [(0, .ref (K.2.2 + 2017)), (1, .int l1)] [.int p_1]
  obtain ⟨g_2, h⟩ := Ok.ofgd h
  rw [← hQQ]
  exact J_zret C hret (narB g_2).1 (Nat.le_of_ble_eq_true rfl) (Nat.le_of_ble_eq_true rfl) ⟨_, h.osome, rfl, rfl, rfl⟩ dX12_isPlace_9
def f12_lines_j29 (μ : Sto) (l2_29 : Int32) (s0_29 : Int32) (s1_29 : Int32) : Option ((Int32 × Int32) ⊕ Int32) :=
  stp (s0_29 + s1_29) fun x1_1 =>
  stp (l2_29 + (1 : Int32)) fun x2_2 =>
  some (.inl (x1_1, x2_2))
def f12_lines_b4 (μ : Sto) (l1_4 : Int32) (l2_4 : Int32) : Option ((Int32 × Int32) ⊕ Int32) :=
  if (fI μ 2017 5) ≤ l2_4 then
    some (.inr l1_4)
  else
    gd (inb l2_4 3000) <|
    if (aI μ 2018 (Int32.toNatClampNeg l2_4)) = (10 : Int32) then
      f12_lines_j29 μ l2_4 l1_4 (1 : Int32)
    else
      f12_lines_j29 μ l2_4 l1_4 (0 : Int32)
def f12_lines_j4 (μ : Sto) (l1_4 : Int32) (l2_4 : Int32) : Option (Int32) :=
  bnd (loopF (fun s_4 => f12_lines_b4 μ s_4.1 s_4.2) FU (l1_4, l2_4)) fun r_4 =>
    some r_4
def f12_lines (μ : Sto) : Option (Int32) :=
  stp (1 : Int32) fun x1_3 =>
  stp (0 : Int32) fun x2_4 =>
  f12_lines_j4 μ x1_3 x2_4
set_option maxHeartbeats 4000000 in
set_option maxRecDepth 100000 in
theorem k12_lines {l : Launch} {K : JK} (hl : l.stackTraces = false) {σ μ : Sto} {o : Int64}   {Qf : Int32 → Prop} (h : Ok (f12_lines μ) Qf) : Con l K yX12_lines (.code yX12_lines cX12_lines 3 (some .int) :: TB) 0 0 0 False [.ref (K.2.2 + 2017)] 2055 (jw K σ μ o) (PR Qf (fun p => some (.int p)) (fun p => jw K σ μ o)) PN := by
  refine Con.enter (own := RX12) hl (by decide) rfl (Nat.le_of_ble_eq_true rfl) ?_
  intro X hX hR C hret hnt
  generalize hQQ : jQ X K 0 0 (PR Qf (fun p => some (.int p)) (fun p => jw K σ μ o)) PN False = QQ
  change J X K 3 False QQ 0 0 2055 (jw K σ μ o) 0 [(0, .ref (K.2.2 + 2017))] []
  have hj_4 : (∀ (l1_4 : Int32) (l2_4 : Int32), Ok (f12_lines_j4 μ l1_4 l2_4) Qf → J X K 3 False QQ 0 0 2055 (jw K σ μ o) 4 [(0, .ref (K.2.2 + 2017)), (1, .int l1_4), (2, .int l2_4)] []) := by
    intro l1_4 l2_4 h
    unfold f12_lines_j4 at h
    refine loop_gen (S := Int32 × Int32) (P := fun s_4 => J X K 3 False QQ 0 0 2055 (jw K σ μ o) 4 [(0, .ref (K.2.2 + 2017)), (1, .int s_4.1), (2, .int s_4.2)] []) ?_ FU (l1_4, l2_4) (Ok.ofbnd h)
    intro B_4 hB_4 hE_4 s_4 h
    obtain ⟨l1_4, l2_4⟩ := s_4
    have h : Ok (f12_lines_b4 μ l1_4 l2_4) B_4 := h
    change J X K 3 False QQ 0 0 2055 (jw K σ μ o) 4 [(0, .ref (K.2.2 + 2017)), (1, .int l1_4), (2, .int l2_4)] []
    have hj_29 : (∀ (l2_29 : Int32) (s0_29 : Int32) (s1_29 : Int32), Ok (f12_lines_j29 μ l2_29 s0_29 s1_29) B_4 → J X K 3 False QQ 0 0 2055 (jw K σ μ o) 29 [(0, .ref (K.2.2 + 2017)), (2, .int l2_29)] [.int s1_29, .int s0_29]) := by
      intro l2_29 s0_29 s1_29 h
      unfold f12_lines_j29 at h
      refine J_iadd C dX12_lines_29 rfl ?_
      obtain ⟨x1_1, e_x1_1, h⟩ := Ok.nm h
      refine J_istoreE_n (i := 1) (lv' := [(1, .int x1_1), (0, .ref (K.2.2 + 2017)), (2, .int l2_29)]) C e_x1_1 dX12_lines_30 rfl (Nat.le_of_ble_eq_true rfl) rfl rfl ?_
      obtain ⟨x2_2, e_x2_2, h⟩ := Ok.nm h
      refine J_iincE (i := 2) (p := 2) (lv' := [(2, .int x2_2), (1, .int x1_1), (0, .ref (K.2.2 + 2017))]) C e_x2_2 dX12_lines_31 rfl (by decide) (Nat.le_of_ble_eq_true rfl) rfl rfl ?_
      refine J_goto (t := 4) C dX12_lines_34 (by decide) ?_
      refine J.sub [2, 1, 0] rfl ?_
      exact hB_4 (x1_1, x2_2) h.osome
    unfold f12_lines_b4 at h
    refine J_iload_n (i := 2) (p := 2) C dX12_lines_4 rfl rfl rfl ?_
    refine J_aload_n (i := 0) (p := 0) C dX12_lines_5 rfl rfl rfl ?_
    refine Jm_getI C fp_RX12_138 rfl rfl dX12_lines_6 rfl ?_
    refine J_icmp_ge (t := 37) C dX12_lines_9 (by decide) rfl (fun c_1 => ?_) (fun c_1 => ?_)
    · have h := h.pos c_1
      have h := hE_4 l1_4 h.osome
      try dsimp only at h
      refine J_iload_n (i := 1) (p := 1) C dX12_lines_37 rfl rfl rfl ?_
      rw [← hQQ]
      exact J_iret C hret (Nat.le_of_ble_eq_true rfl) (Nat.le_of_ble_eq_true rfl) ⟨_, h.osome, rfl, rfl, rfl⟩ dX12_lines_38
    · have h := h.neg c_1
      refine J_iload_n (i := 1) (p := 1) C dX12_lines_12 rfl rfl rfl ?_
      refine J_aload_n (i := 0) (p := 0) C dX12_lines_13 rfl rfl rfl ?_
      refine Jm_getS (o2 := 1) (r2 := 2018) C fp_RX12_7 rfl rfl rfl dX12_lines_14 rfl ?_
      refine J_iload_n (i := 2) (p := 2) C dX12_lines_17 rfl rfl rfl ?_
      obtain ⟨g_2, h⟩ := Ok.ofgd h
      refine Jm_iald C rfl rfl g_2 dX12_lines_18 rfl ?_
      refine J_bipush (v := 10) C (by decide) dX12_lines_19 rfl ?_
      refine J_icmp_ne (t := 28) C dX12_lines_21 (by decide) rfl (fun c_3 => ?_) (fun c_3 => ?_)
      · have h := h.neg c_3
        refine J_iconst (v := 0) C (by decide) dX12_lines_28 rfl ?_
        refine J.sub [0, 2] rfl ?_
        exact hj_29 l2_4 l1_4 (0 : Int32) h
      · have h := h.pos (Decidable.not_not.mp c_3)
        refine J_iconst (v := 1) C (by decide) dX12_lines_24 rfl ?_
        refine J_goto (t := 29) C dX12_lines_25 (by decide) ?_
        refine J.sub [0, 2] rfl ?_
        exact hj_29 l2_4 l1_4 (1 : Int32) h
  unfold f12_lines at h
  refine J_iconst (v := 1) C (by decide) dX12_lines_0 rfl ?_
  obtain ⟨x1_3, e_x1_3, h⟩ := Ok.nm h
  refine J_istoreE_n (i := 1) (lv' := [(1, .int x1_3), (0, .ref (K.2.2 + 2017))]) C e_x1_3 dX12_lines_1 rfl (Nat.le_of_ble_eq_true rfl) rfl rfl ?_
  refine J_iconst (v := 0) C (by decide) dX12_lines_2 rfl ?_
  obtain ⟨x2_4, e_x2_4, h⟩ := Ok.nm h
  refine J_istoreE_n (i := 2) (lv' := [(2, .int x2_4), (1, .int x1_3), (0, .ref (K.2.2 + 2017))]) C e_x2_4 dX12_lines_3 rfl (Nat.le_of_ble_eq_true rfl) rfl rfl ?_
  refine J.sub [2, 1, 0] rfl ?_
  exact hj_4 x1_3 x2_4 h
def f12_isLine (μ : Sto) (l1 : Int32) : Option (Int32) :=
  bnd (f12_lines μ) fun p_1 =>
  bnd (f12_in l1 (0 : Int32) (p_1 - (1 : Int32))) fun p_2 =>
  gd (isB p_2) <|
  some p_2
set_option maxHeartbeats 4000000 in
set_option maxRecDepth 100000 in
theorem k12_isLine {l : Launch} {K : JK} (hl : l.stackTraces = false) {σ μ : Sto} {o : Int64} {l1 : Int32}  {Qf : Int32 → Prop} (h : Ok (f12_isLine μ l1) Qf) : Con l K yX12_isLine (.code yX12_isLine cX12_isLine 2 (some .boolean) :: TB) 1 0 0 False [.ref (K.2.2 + 2017), .int l1] 2055 (jw K σ μ o) (PR Qf (fun p => some (.int p)) (fun p => jw K σ μ o)) PN := by
  refine Con.enter (own := RX12) hl (by decide) rfl (Nat.le_of_ble_eq_true rfl) ?_
  intro X hX hR C hret hnt
  generalize hQQ : jQ X K 0 0 (PR Qf (fun p => some (.int p)) (fun p => jw K σ μ o)) PN False = QQ
  change J X K 2 False QQ 0 0 2055 (jw K σ μ o) 0 [(0, .ref (K.2.2 + 2017)), (1, .int l1)] []
  unfold f12_isLine at h
  refine J_iload_n (i := 1) (p := 1) C dX12_isLine_0 rfl rfl rfl ?_
  refine J_iconst (v := 0) C (by decide) dX12_isLine_1 rfl ?_
  refine J_aload_n (i := 0) (p := 0) C dX12_isLine_2 rfl rfl rfl ?_
  refine Jm_cV (rest := [.int (0 : Int32), .int l1]) (st9 := fun p_1 => [.int p_1, .int (0 : Int32), .int l1]) C hR hX cv_RX12_141 rfl (Nat.le_of_ble_eq_true rfl) (k12_lines hl  (Ok.ofbnd h)) rfl rfl (Nat.le_of_ble_eq_true rfl) (Nat.le_of_ble_eq_true rfl) (Nat.le_of_ble_eq_true rfl) ⟨(Nat.le_of_ble_eq_true rfl), (Nat.le_of_ble_eq_true rfl)⟩ dX12_isLine_3 rfl (fun E n9 w9 hx => JT_n hx) (fun _ => rfl) (fun p_1 h => ?_)
  have h : Ok _ _ := h
  change J X K 2 False QQ 0 0 2055 (jw K σ μ o) 6 [(0, .ref (K.2.2 + 2017)), (1, .int l1)] [.int p_1, .int (0 : Int32), .int l1]
  refine J_iconst (v := 1) C (by decide) dX12_isLine_6 rfl ?_
  refine J_isub C dX12_isLine_7 rfl ?_
  refine J_cS (rest := []) (st9 := fun p_2 => [.int p_2]) C hR hX cs_RX12_134 (k12_in hl  (Ok.ofbnd h)) rfl rfl (Nat.le_of_ble_eq_true rfl) (Nat.le_of_ble_eq_true rfl) (Nat.le_of_ble_eq_true rfl) ⟨(Nat.le_of_ble_eq_true rfl), (Nat.le_of_ble_eq_true rfl)⟩ dX12_isLine_8 rfl (fun E n9 w9 hx => JT_n hx) (fun _ => rfl) (fun p_2 h => ?_)
  have h : Ok _ _ := h
  change J X K 2 False QQ 0 0 2055 (jw K σ μ o) 11 [(0, .ref (K.2.2 + 2017)), (1, .int l1)] [.int p_2]
  obtain ⟨g_3, h⟩ := Ok.ofgd h
  rw [← hQQ]
  exact J_zret C hret (narB g_3).1 (Nat.le_of_ble_eq_true rfl) (Nat.le_of_ble_eq_true rfl) ⟨_, h.osome, rfl, rfl, rfl⟩ dX12_isLine_11
def f12_lineAt_j26 (l1 : Int32) (μ : Sto) (l3_26 : Int32) (s0_26 : Int32) (s1_26 : Int32) : Option ((Int32 × Int32) ⊕ Int32) :=
  stp (s0_26 + s1_26) fun x2_1 =>
  stp (l3_26 + (1 : Int32)) fun x3_2 =>
  some (.inl (x2_1, x3_2))
def f12_lineAt_b4 (l1 : Int32) (μ : Sto) (l2_4 : Int32) (l3_4 : Int32) : Option ((Int32 × Int32) ⊕ Int32) :=
  if l1 ≤ l3_4 then
    some (.inr l2_4)
  else
    gd (inb l3_4 3000) <|
    if (aI μ 2018 (Int32.toNatClampNeg l3_4)) = (10 : Int32) then
      f12_lineAt_j26 l1 μ l3_4 l2_4 (1 : Int32)
    else
      f12_lineAt_j26 l1 μ l3_4 l2_4 (0 : Int32)
def f12_lineAt_j4 (l1 : Int32) (μ : Sto) (l2_4 : Int32) (l3_4 : Int32) : Option (Int32) :=
  bnd (loopF (fun s_4 => f12_lineAt_b4 l1 μ s_4.1 s_4.2) FU (l2_4, l3_4)) fun r_4 =>
    some r_4
def f12_lineAt (μ : Sto) (l1 : Int32) : Option (Int32) :=
  stp (0 : Int32) fun x2_3 =>
  stp (0 : Int32) fun x3_4 =>
  f12_lineAt_j4 l1 μ x2_3 x3_4
set_option maxHeartbeats 4000000 in
set_option maxRecDepth 100000 in
theorem k12_lineAt {l : Launch} {K : JK} (hl : l.stackTraces = false) {σ μ : Sto} {o : Int64} {l1 : Int32}  {Qf : Int32 → Prop} (h : Ok (f12_lineAt μ l1) Qf) : Con l K yX12_lineAt (.code yX12_lineAt cX12_lineAt 4 (some .int) :: TB) 0 0 0 False [.ref (K.2.2 + 2017), .int l1] 2055 (jw K σ μ o) (PR Qf (fun p => some (.int p)) (fun p => jw K σ μ o)) PN := by
  refine Con.enter (own := RX12) hl (by decide) rfl (Nat.le_of_ble_eq_true rfl) ?_
  intro X hX hR C hret hnt
  generalize hQQ : jQ X K 0 0 (PR Qf (fun p => some (.int p)) (fun p => jw K σ μ o)) PN False = QQ
  change J X K 4 False QQ 0 0 2055 (jw K σ μ o) 0 [(0, .ref (K.2.2 + 2017)), (1, .int l1)] []
  have hj_4 : (∀ (l2_4 : Int32) (l3_4 : Int32), Ok (f12_lineAt_j4 l1 μ l2_4 l3_4) Qf → J X K 4 False QQ 0 0 2055 (jw K σ μ o) 4 [(0, .ref (K.2.2 + 2017)), (1, .int l1), (2, .int l2_4), (3, .int l3_4)] []) := by
    intro l2_4 l3_4 h
    unfold f12_lineAt_j4 at h
    refine loop_gen (S := Int32 × Int32) (P := fun s_4 => J X K 4 False QQ 0 0 2055 (jw K σ μ o) 4 [(0, .ref (K.2.2 + 2017)), (1, .int l1), (2, .int s_4.1), (3, .int s_4.2)] []) ?_ FU (l2_4, l3_4) (Ok.ofbnd h)
    intro B_4 hB_4 hE_4 s_4 h
    obtain ⟨l2_4, l3_4⟩ := s_4
    have h : Ok (f12_lineAt_b4 l1 μ l2_4 l3_4) B_4 := h
    change J X K 4 False QQ 0 0 2055 (jw K σ μ o) 4 [(0, .ref (K.2.2 + 2017)), (1, .int l1), (2, .int l2_4), (3, .int l3_4)] []
    have hj_26 : (∀ (l3_26 : Int32) (s0_26 : Int32) (s1_26 : Int32), Ok (f12_lineAt_j26 l1 μ l3_26 s0_26 s1_26) B_4 → J X K 4 False QQ 0 0 2055 (jw K σ μ o) 26 [(0, .ref (K.2.2 + 2017)), (1, .int l1), (3, .int l3_26)] [.int s1_26, .int s0_26]) := by
      intro l3_26 s0_26 s1_26 h
      unfold f12_lineAt_j26 at h
      refine J_iadd C dX12_lineAt_26 rfl ?_
      obtain ⟨x2_1, e_x2_1, h⟩ := Ok.nm h
      refine J_istoreE_n (i := 2) (lv' := [(2, .int x2_1), (0, .ref (K.2.2 + 2017)), (1, .int l1), (3, .int l3_26)]) C e_x2_1 dX12_lineAt_27 rfl (Nat.le_of_ble_eq_true rfl) rfl rfl ?_
      obtain ⟨x3_2, e_x3_2, h⟩ := Ok.nm h
      refine J_iincE (i := 3) (p := 3) (lv' := [(3, .int x3_2), (2, .int x2_1), (0, .ref (K.2.2 + 2017)), (1, .int l1)]) C e_x3_2 dX12_lineAt_28 rfl (by decide) (Nat.le_of_ble_eq_true rfl) rfl rfl ?_
      refine J_goto (t := 4) C dX12_lineAt_31 (by decide) ?_
      refine J.sub [2, 3, 1, 0] rfl ?_
      exact hB_4 (x2_1, x3_2) h.osome
    unfold f12_lineAt_b4 at h
    refine J_iload_n (i := 3) (p := 3) C dX12_lineAt_4 rfl rfl rfl ?_
    refine J_iload_n (i := 1) (p := 1) C dX12_lineAt_5 rfl rfl rfl ?_
    refine J_icmp_ge (t := 34) C dX12_lineAt_6 (by decide) rfl (fun c_1 => ?_) (fun c_1 => ?_)
    · have h := h.pos c_1
      have h := hE_4 l2_4 h.osome
      try dsimp only at h
      refine J_iload_n (i := 2) (p := 2) C dX12_lineAt_34 rfl rfl rfl ?_
      rw [← hQQ]
      exact J_iret C hret (Nat.le_of_ble_eq_true rfl) (Nat.le_of_ble_eq_true rfl) ⟨_, h.osome, rfl, rfl, rfl⟩ dX12_lineAt_35
    · have h := h.neg c_1
      refine J_iload_n (i := 2) (p := 2) C dX12_lineAt_9 rfl rfl rfl ?_
      refine J_aload_n (i := 0) (p := 0) C dX12_lineAt_10 rfl rfl rfl ?_
      refine Jm_getS (o2 := 1) (r2 := 2018) C fp_RX12_7 rfl rfl rfl dX12_lineAt_11 rfl ?_
      refine J_iload_n (i := 3) (p := 3) C dX12_lineAt_14 rfl rfl rfl ?_
      obtain ⟨g_2, h⟩ := Ok.ofgd h
      refine Jm_iald C rfl rfl g_2 dX12_lineAt_15 rfl ?_
      refine J_bipush (v := 10) C (by decide) dX12_lineAt_16 rfl ?_
      refine J_icmp_ne (t := 25) C dX12_lineAt_18 (by decide) rfl (fun c_3 => ?_) (fun c_3 => ?_)
      · have h := h.neg c_3
        refine J_iconst (v := 0) C (by decide) dX12_lineAt_25 rfl ?_
        refine J.sub [0, 1, 3] rfl ?_
        exact hj_26 l3_4 l2_4 (0 : Int32) h
      · have h := h.pos (Decidable.not_not.mp c_3)
        refine J_iconst (v := 1) C (by decide) dX12_lineAt_21 rfl ?_
        refine J_goto (t := 26) C dX12_lineAt_22 (by decide) ?_
        refine J.sub [0, 1, 3] rfl ?_
        exact hj_26 l3_4 l2_4 (1 : Int32) h
  unfold f12_lineAt at h
  refine J_iconst (v := 0) C (by decide) dX12_lineAt_0 rfl ?_
  obtain ⟨x2_3, e_x2_3, h⟩ := Ok.nm h
  refine J_istoreE_n (i := 2) (lv' := [(2, .int x2_3), (0, .ref (K.2.2 + 2017)), (1, .int l1)]) C e_x2_3 dX12_lineAt_1 rfl (Nat.le_of_ble_eq_true rfl) rfl rfl ?_
  refine J_iconst (v := 0) C (by decide) dX12_lineAt_2 rfl ?_
  obtain ⟨x3_4, e_x3_4, h⟩ := Ok.nm h
  refine J_istoreE_n (i := 3) (lv' := [(3, .int x3_4), (2, .int x2_3), (0, .ref (K.2.2 + 2017)), (1, .int l1)]) C e_x3_4 dX12_lineAt_3 rfl (Nat.le_of_ble_eq_true rfl) rfl rfl ?_
  refine J.sub [2, 3, 1, 0] rfl ?_
  exact hj_4 x2_3 x3_4 h
def f12_beginOf_j25 (l1 : Int32) (μ : Sto) (l3_25 : Int32) (s0_25 : Int32) (s1_25 : Int32) : Option ((Int32 × Int32) ⊕ Int32) :=
  stp (s0_25 - s1_25) fun x2_1 =>
  stp (l3_25 + (1 : Int32)) fun x3_2 =>
  some (.inl (x2_1, x3_2))
def f12_beginOf_b4 (l1 : Int32) (μ : Sto) (l2_4 : Int32) (l3_4 : Int32) : Option ((Int32 × Int32) ⊕ Int32) :=
  if l2_4 ≤ 0 then
    some (.inr l3_4)
  else
    gd (inb l3_4 3000) <|
    if (aI μ 2018 (Int32.toNatClampNeg l3_4)) = (10 : Int32) then
      f12_beginOf_j25 l1 μ l3_4 l2_4 (1 : Int32)
    else
      f12_beginOf_j25 l1 μ l3_4 l2_4 (0 : Int32)
def f12_beginOf_j4 (l1 : Int32) (μ : Sto) (l2_4 : Int32) (l3_4 : Int32) : Option (Int32) :=
  bnd (loopF (fun s_4 => f12_beginOf_b4 l1 μ s_4.1 s_4.2) FU (l2_4, l3_4)) fun r_4 =>
    some r_4
def f12_beginOf (μ : Sto) (l1 : Int32) : Option (Int32) :=
  stp l1 fun x2_3 =>
  stp (0 : Int32) fun x3_4 =>
  f12_beginOf_j4 l1 μ x2_3 x3_4
set_option maxHeartbeats 4000000 in
set_option maxRecDepth 100000 in
theorem k12_beginOf {l : Launch} {K : JK} (hl : l.stackTraces = false) {σ μ : Sto} {o : Int64} {l1 : Int32}  {Qf : Int32 → Prop} (h : Ok (f12_beginOf μ l1) Qf) : Con l K yX12_beginOf (.code yX12_beginOf cX12_beginOf 4 (some .int) :: TB) 0 0 0 False [.ref (K.2.2 + 2017), .int l1] 2055 (jw K σ μ o) (PR Qf (fun p => some (.int p)) (fun p => jw K σ μ o)) PN := by
  refine Con.enter (own := RX12) hl (by decide) rfl (Nat.le_of_ble_eq_true rfl) ?_
  intro X hX hR C hret hnt
  generalize hQQ : jQ X K 0 0 (PR Qf (fun p => some (.int p)) (fun p => jw K σ μ o)) PN False = QQ
  change J X K 4 False QQ 0 0 2055 (jw K σ μ o) 0 [(0, .ref (K.2.2 + 2017)), (1, .int l1)] []
  have hj_4 : (∀ (l2_4 : Int32) (l3_4 : Int32), Ok (f12_beginOf_j4 l1 μ l2_4 l3_4) Qf → J X K 4 False QQ 0 0 2055 (jw K σ μ o) 4 [(0, .ref (K.2.2 + 2017)), (2, .int l2_4), (3, .int l3_4)] []) := by
    intro l2_4 l3_4 h
    unfold f12_beginOf_j4 at h
    refine loop_gen (S := Int32 × Int32) (P := fun s_4 => J X K 4 False QQ 0 0 2055 (jw K σ μ o) 4 [(0, .ref (K.2.2 + 2017)), (2, .int s_4.1), (3, .int s_4.2)] []) ?_ FU (l2_4, l3_4) (Ok.ofbnd h)
    intro B_4 hB_4 hE_4 s_4 h
    obtain ⟨l2_4, l3_4⟩ := s_4
    have h : Ok (f12_beginOf_b4 l1 μ l2_4 l3_4) B_4 := h
    change J X K 4 False QQ 0 0 2055 (jw K σ μ o) 4 [(0, .ref (K.2.2 + 2017)), (2, .int l2_4), (3, .int l3_4)] []
    have hj_25 : (∀ (l3_25 : Int32) (s0_25 : Int32) (s1_25 : Int32), Ok (f12_beginOf_j25 l1 μ l3_25 s0_25 s1_25) B_4 → J X K 4 False QQ 0 0 2055 (jw K σ μ o) 25 [(0, .ref (K.2.2 + 2017)), (3, .int l3_25)] [.int s1_25, .int s0_25]) := by
      intro l3_25 s0_25 s1_25 h
      unfold f12_beginOf_j25 at h
      refine J_isub C dX12_beginOf_25 rfl ?_
      obtain ⟨x2_1, e_x2_1, h⟩ := Ok.nm h
      refine J_istoreE_n (i := 2) (lv' := [(2, .int x2_1), (0, .ref (K.2.2 + 2017)), (3, .int l3_25)]) C e_x2_1 dX12_beginOf_26 rfl (Nat.le_of_ble_eq_true rfl) rfl rfl ?_
      obtain ⟨x3_2, e_x3_2, h⟩ := Ok.nm h
      refine J_iincE (i := 3) (p := 2) (lv' := [(3, .int x3_2), (2, .int x2_1), (0, .ref (K.2.2 + 2017))]) C e_x3_2 dX12_beginOf_27 rfl (by decide) (Nat.le_of_ble_eq_true rfl) rfl rfl ?_
      refine J_goto (t := 4) C dX12_beginOf_30 (by decide) ?_
      refine J.sub [2, 1, 0] rfl ?_
      exact hB_4 (x2_1, x3_2) h.osome
    unfold f12_beginOf_b4 at h
    refine J_iload_n (i := 2) (p := 1) C dX12_beginOf_4 rfl rfl rfl ?_
    refine J_if_le (t := 33) C dX12_beginOf_5 (by decide) rfl (fun c_1 => ?_) (fun c_1 => ?_)
    · have h := h.pos c_1
      have h := hE_4 l3_4 h.osome
      try dsimp only at h
      refine J_iload_n (i := 3) (p := 2) C dX12_beginOf_33 rfl rfl rfl ?_
      rw [← hQQ]
      exact J_iret C hret (Nat.le_of_ble_eq_true rfl) (Nat.le_of_ble_eq_true rfl) ⟨_, h.osome, rfl, rfl, rfl⟩ dX12_beginOf_34
    · have h := h.neg c_1
      refine J_iload_n (i := 2) (p := 1) C dX12_beginOf_8 rfl rfl rfl ?_
      refine J_aload_n (i := 0) (p := 0) C dX12_beginOf_9 rfl rfl rfl ?_
      refine Jm_getS (o2 := 1) (r2 := 2018) C fp_RX12_7 rfl rfl rfl dX12_beginOf_10 rfl ?_
      refine J_iload_n (i := 3) (p := 2) C dX12_beginOf_13 rfl rfl rfl ?_
      obtain ⟨g_2, h⟩ := Ok.ofgd h
      refine Jm_iald C rfl rfl g_2 dX12_beginOf_14 rfl ?_
      refine J_bipush (v := 10) C (by decide) dX12_beginOf_15 rfl ?_
      refine J_icmp_ne (t := 24) C dX12_beginOf_17 (by decide) rfl (fun c_3 => ?_) (fun c_3 => ?_)
      · have h := h.neg c_3
        refine J_iconst (v := 0) C (by decide) dX12_beginOf_24 rfl ?_
        refine J.sub [0, 2] rfl ?_
        exact hj_25 l3_4 l2_4 (0 : Int32) h
      · have h := h.pos (Decidable.not_not.mp c_3)
        refine J_iconst (v := 1) C (by decide) dX12_beginOf_20 rfl ?_
        refine J_goto (t := 25) C dX12_beginOf_21 (by decide) ?_
        refine J.sub [0, 2] rfl ?_
        exact hj_25 l3_4 l2_4 (1 : Int32) h
  unfold f12_beginOf at h
  refine J_iload_n (i := 1) (p := 1) C dX12_beginOf_0 rfl rfl rfl ?_
  obtain ⟨x2_3, e_x2_3, h⟩ := Ok.nm h
  refine J_istoreE_n (i := 2) (lv' := [(2, .int x2_3), (0, .ref (K.2.2 + 2017)), (1, .int l1)]) C e_x2_3 dX12_beginOf_1 rfl (Nat.le_of_ble_eq_true rfl) rfl rfl ?_
  refine J_iconst (v := 0) C (by decide) dX12_beginOf_2 rfl ?_
  obtain ⟨x3_4, e_x3_4, h⟩ := Ok.nm h
  refine J_istoreE_n (i := 3) (lv' := [(3, .int x3_4), (2, .int x2_3), (0, .ref (K.2.2 + 2017)), (1, .int l1)]) C e_x3_4 dX12_beginOf_3 rfl (Nat.le_of_ble_eq_true rfl) rfl rfl ?_
  refine J.sub [2, 1, 0] rfl ?_
  exact hj_4 x2_3 x3_4 h
def f12_endOf_j31 (l1 : Int32) (μ : Sto) (l2_31 : Int32) : Option (Int32) :=
  some l2_31
def f12_endOf_b6 (l1 : Int32) (μ : Sto) (l2_6 : Int32) : Option (Int32 ⊕ Int32) :=
  if (fI μ 2017 5) ≤ l2_6 then
    some (.inr l2_6)
  else
    gd (inb l2_6 3000) <|
    if (aI μ 2018 (Int32.toNatClampNeg l2_6)) = (10 : Int32) then
      some (.inr l2_6)
    else
      stp (l2_6 + (1 : Int32)) fun x2_1 =>
      some (.inl x2_1)
def f12_endOf_j6 (l1 : Int32) (μ : Sto) (l2_6 : Int32) : Option (Int32) :=
  bnd (loopF (fun s_6 => f12_endOf_b6 l1 μ s_6) FU l2_6) fun r_6 =>
    f12_endOf_j31 l1 μ r_6
def f12_endOf (μ : Sto) (l1 : Int32) : Option (Int32) :=
  bnd (f12_beginOf μ l1) fun p_4 =>
  stp p_4 fun x2_2 =>
  f12_endOf_j6 l1 μ x2_2
set_option maxHeartbeats 4000000 in
set_option maxRecDepth 100000 in
theorem k12_endOf {l : Launch} {K : JK} (hl : l.stackTraces = false) {σ μ : Sto} {o : Int64} {l1 : Int32}  {Qf : Int32 → Prop} (h : Ok (f12_endOf μ l1) Qf) : Con l K yX12_endOf (.code yX12_endOf cX12_endOf 3 (some .int) :: TB) 1 0 0 False [.ref (K.2.2 + 2017), .int l1] 2055 (jw K σ μ o) (PR Qf (fun p => some (.int p)) (fun p => jw K σ μ o)) PN := by
  refine Con.enter (own := RX12) hl (by decide) rfl (Nat.le_of_ble_eq_true rfl) ?_
  intro X hX hR C hret hnt
  generalize hQQ : jQ X K 0 0 (PR Qf (fun p => some (.int p)) (fun p => jw K σ μ o)) PN False = QQ
  change J X K 3 False QQ 0 0 2055 (jw K σ μ o) 0 [(0, .ref (K.2.2 + 2017)), (1, .int l1)] []
  have hj_31 : (∀ (l2_31 : Int32), Ok (f12_endOf_j31 l1 μ l2_31) Qf → J X K 3 False QQ 0 0 2055 (jw K σ μ o) 31 [(2, .int l2_31)] []) := by
    intro l2_31 h
    unfold f12_endOf_j31 at h
    refine J_iload_n (i := 2) (p := 0) C dX12_endOf_31 rfl rfl rfl ?_
    rw [← hQQ]
    exact J_iret C hret (Nat.le_of_ble_eq_true rfl) (Nat.le_of_ble_eq_true rfl) ⟨_, h.osome, rfl, rfl, rfl⟩ dX12_endOf_32
  have hj_6 : (∀ (l2_6 : Int32), Ok (f12_endOf_j6 l1 μ l2_6) Qf → J X K 3 False QQ 0 0 2055 (jw K σ μ o) 6 [(0, .ref (K.2.2 + 2017)), (2, .int l2_6)] []) := by
    intro l2_6 h
    unfold f12_endOf_j6 at h
    refine loop_gen (S := Int32) (P := fun s_6 => J X K 3 False QQ 0 0 2055 (jw K σ μ o) 6 [(0, .ref (K.2.2 + 2017)), (2, .int s_6)] []) ?_ FU l2_6 (Ok.ofbnd h)
    intro B_6 hB_6 hE_6 s_6 h
    generalize s_6 = l2_6 at h ⊢
    have h : Ok (f12_endOf_b6 l1 μ l2_6) B_6 := h
    change J X K 3 False QQ 0 0 2055 (jw K σ μ o) 6 [(0, .ref (K.2.2 + 2017)), (2, .int l2_6)] []
    unfold f12_endOf_b6 at h
    refine J_iload_n (i := 2) (p := 1) C dX12_endOf_6 rfl rfl rfl ?_
    refine J_aload_n (i := 0) (p := 0) C dX12_endOf_7 rfl rfl rfl ?_
    refine Jm_getI C fp_RX12_138 rfl rfl dX12_endOf_8 rfl ?_
    refine J_icmp_ge (t := 31) C dX12_endOf_11 (by decide) rfl (fun c_1 => ?_) (fun c_1 => ?_)
    · have h := h.pos c_1
      have h := hE_6 l2_6 h.osome
      try dsimp only at h
      refine J.sub [1] rfl ?_
      exact hj_31 l2_6 h
    · have h := h.neg c_1
      refine J_aload_n (i := 0) (p := 0) C dX12_endOf_14 rfl rfl rfl ?_
      refine Jm_getS (o2 := 1) (r2 := 2018) C fp_RX12_7 rfl rfl rfl dX12_endOf_15 rfl ?_
      refine J_iload_n (i := 2) (p := 1) C dX12_endOf_18 rfl rfl rfl ?_
      obtain ⟨g_2, h⟩ := Ok.ofgd h
      refine Jm_iald C rfl rfl g_2 dX12_endOf_19 rfl ?_
      refine J_bipush (v := 10) C (by decide) dX12_endOf_20 rfl ?_
      refine J_icmp_eq (t := 31) C dX12_endOf_22 (by decide) rfl (fun c_3 => ?_) (fun c_3 => ?_)
      · have h := h.pos c_3
        have h := hE_6 l2_6 h.osome
        try dsimp only at h
        refine J.sub [1] rfl ?_
        exact hj_31 l2_6 h
      · have h := h.neg c_3
        obtain ⟨x2_1, e_x2_1, h⟩ := Ok.nm h
        refine J_iincE (i := 2) (p := 1) (lv' := [(2, .int x2_1), (0, .ref (K.2.2 + 2017))]) C e_x2_1 dX12_endOf_25 rfl (by decide) (Nat.le_of_ble_eq_true rfl) rfl rfl ?_
        refine J_goto (t := 6) C dX12_endOf_28 (by decide) ?_
        refine J.sub [1, 0] rfl ?_
        exact hB_6 x2_1 h.osome
  unfold f12_endOf at h
  refine J_aload_n (i := 0) (p := 0) C dX12_endOf_0 rfl rfl rfl ?_
  refine J_iload_n (i := 1) (p := 1) C dX12_endOf_1 rfl rfl rfl ?_
  refine Jm_cV (rest := []) (st9 := fun p_4 => [.int p_4]) C hR hX cv_RX12_145 rfl (Nat.le_of_ble_eq_true rfl) (k12_beginOf hl  (Ok.ofbnd h)) rfl rfl (Nat.le_of_ble_eq_true rfl) (Nat.le_of_ble_eq_true rfl) (Nat.le_of_ble_eq_true rfl) ⟨(Nat.le_of_ble_eq_true rfl), (Nat.le_of_ble_eq_true rfl)⟩ dX12_endOf_2 rfl (fun E n9 w9 hx => JT_n hx) (fun _ => rfl) (fun p_4 h => ?_)
  have h : Ok _ _ := h
  change J X K 3 False QQ 0 0 2055 (jw K σ μ o) 5 [(0, .ref (K.2.2 + 2017)), (1, .int l1)] [.int p_4]
  obtain ⟨x2_2, e_x2_2, h⟩ := Ok.nm h
  refine J_istoreE_n (i := 2) (lv' := [(2, .int x2_2), (0, .ref (K.2.2 + 2017)), (1, .int l1)]) C e_x2_2 dX12_endOf_5 rfl (Nat.le_of_ble_eq_true rfl) rfl rfl ?_
  refine J.sub [1, 0] rfl ?_
  exact hj_6 x2_2 h
def f12_column_j47 (l1 : Int32) (μ : Sto) (l3_47 : Int32) (s0_47 : Int32) : Option ((Int32 × Int32) ⊕ Int32) :=
  stp s0_47 fun x2_1 =>
  stp (l3_47 + (1 : Int32)) fun x3_2 =>
  some (.inl (x2_1, x3_2))
def f12_column_b12 (l1 : Int32) (μ : Sto) (l2_12 : Int32) (l3_12 : Int32) : Option ((Int32 × Int32) ⊕ Int32) :=
  if l1 ≤ l3_12 then
    some (.inr l2_12)
  else
    gd (inb l3_12 3000) <|
    if (aI μ 2018 (Int32.toNatClampNeg l3_12)) = (9 : Int32) then
      gd (nz (fI μ 2017 17)) <|
      f12_column_j47 l1 μ l3_12 (((l2_12 / (fI μ 2017 17)) + (1 : Int32)) * (fI μ 2017 17))
    else
      f12_column_j47 l1 μ l3_12 (l2_12 + (1 : Int32))
def f12_column_j12 (l1 : Int32) (μ : Sto) (l2_12 : Int32) (l3_12 : Int32) : Option (Int32) :=
  bnd (loopF (fun s_12 => f12_column_b12 l1 μ s_12.1 s_12.2) FU (l2_12, l3_12)) fun r_12 =>
    some r_12
def f12_column (μ : Sto) (l1 : Int32) : Option (Int32) :=
  stp (0 : Int32) fun x2_3 =>
  bnd (f12_lineAt μ l1) fun p_5 =>
  bnd (f12_beginOf μ p_5) fun p_6 =>
  stp p_6 fun x3_4 =>
  f12_column_j12 l1 μ x2_3 x3_4
set_option maxHeartbeats 4000000 in
set_option maxRecDepth 100000 in
theorem k12_column {l : Launch} {K : JK} (hl : l.stackTraces = false) {σ μ : Sto} {o : Int64} {l1 : Int32}  {Qf : Int32 → Prop} (h : Ok (f12_column μ l1) Qf) : Con l K yX12_column (.code yX12_column cX12_column 4 (some .int) :: TB) 1 0 0 False [.ref (K.2.2 + 2017), .int l1] 2055 (jw K σ μ o) (PR Qf (fun p => some (.int p)) (fun p => jw K σ μ o)) PN := by
  refine Con.enter (own := RX12) hl (by decide) rfl (Nat.le_of_ble_eq_true rfl) ?_
  intro X hX hR C hret hnt
  generalize hQQ : jQ X K 0 0 (PR Qf (fun p => some (.int p)) (fun p => jw K σ μ o)) PN False = QQ
  change J X K 4 False QQ 0 0 2055 (jw K σ μ o) 0 [(0, .ref (K.2.2 + 2017)), (1, .int l1)] []
  have hj_12 : (∀ (l2_12 : Int32) (l3_12 : Int32), Ok (f12_column_j12 l1 μ l2_12 l3_12) Qf → J X K 4 False QQ 0 0 2055 (jw K σ μ o) 12 [(0, .ref (K.2.2 + 2017)), (1, .int l1), (2, .int l2_12), (3, .int l3_12)] []) := by
    intro l2_12 l3_12 h
    unfold f12_column_j12 at h
    refine loop_gen (S := Int32 × Int32) (P := fun s_12 => J X K 4 False QQ 0 0 2055 (jw K σ μ o) 12 [(0, .ref (K.2.2 + 2017)), (1, .int l1), (2, .int s_12.1), (3, .int s_12.2)] []) ?_ FU (l2_12, l3_12) (Ok.ofbnd h)
    intro B_12 hB_12 hE_12 s_12 h
    obtain ⟨l2_12, l3_12⟩ := s_12
    have h : Ok (f12_column_b12 l1 μ l2_12 l3_12) B_12 := h
    change J X K 4 False QQ 0 0 2055 (jw K σ μ o) 12 [(0, .ref (K.2.2 + 2017)), (1, .int l1), (2, .int l2_12), (3, .int l3_12)] []
    have hj_47 : (∀ (l3_47 : Int32) (s0_47 : Int32), Ok (f12_column_j47 l1 μ l3_47 s0_47) B_12 → J X K 4 False QQ 0 0 2055 (jw K σ μ o) 47 [(0, .ref (K.2.2 + 2017)), (1, .int l1), (3, .int l3_47)] [.int s0_47]) := by
      intro l3_47 s0_47 h
      unfold f12_column_j47 at h
      obtain ⟨x2_1, e_x2_1, h⟩ := Ok.nm h
      refine J_istoreE_n (i := 2) (lv' := [(2, .int x2_1), (0, .ref (K.2.2 + 2017)), (1, .int l1), (3, .int l3_47)]) C e_x2_1 dX12_column_47 rfl (Nat.le_of_ble_eq_true rfl) rfl rfl ?_
      obtain ⟨x3_2, e_x3_2, h⟩ := Ok.nm h
      refine J_iincE (i := 3) (p := 3) (lv' := [(3, .int x3_2), (2, .int x2_1), (0, .ref (K.2.2 + 2017)), (1, .int l1)]) C e_x3_2 dX12_column_48 rfl (by decide) (Nat.le_of_ble_eq_true rfl) rfl rfl ?_
      refine J_goto (t := 12) C dX12_column_51 (by decide) ?_
      refine J.sub [2, 3, 1, 0] rfl ?_
      exact hB_12 (x2_1, x3_2) h.osome
    unfold f12_column_b12 at h
    refine J_iload_n (i := 3) (p := 3) C dX12_column_12 rfl rfl rfl ?_
    refine J_iload_n (i := 1) (p := 1) C dX12_column_13 rfl rfl rfl ?_
    refine J_icmp_ge (t := 54) C dX12_column_14 (by decide) rfl (fun c_1 => ?_) (fun c_1 => ?_)
    · have h := h.pos c_1
      have h := hE_12 l2_12 h.osome
      try dsimp only at h
      refine J_iload_n (i := 2) (p := 2) C dX12_column_54 rfl rfl rfl ?_
      rw [← hQQ]
      exact J_iret C hret (Nat.le_of_ble_eq_true rfl) (Nat.le_of_ble_eq_true rfl) ⟨_, h.osome, rfl, rfl, rfl⟩ dX12_column_55
    · have h := h.neg c_1
      refine J_aload_n (i := 0) (p := 0) C dX12_column_17 rfl rfl rfl ?_
      refine Jm_getS (o2 := 1) (r2 := 2018) C fp_RX12_7 rfl rfl rfl dX12_column_18 rfl ?_
      refine J_iload_n (i := 3) (p := 3) C dX12_column_21 rfl rfl rfl ?_
      obtain ⟨g_2, h⟩ := Ok.ofgd h
      refine Jm_iald C rfl rfl g_2 dX12_column_22 rfl ?_
      refine J_bipush (v := 9) C (by decide) dX12_column_23 rfl ?_
      refine J_icmp_ne (t := 44) C dX12_column_25 (by decide) rfl (fun c_3 => ?_) (fun c_3 => ?_)
      · have h := h.neg c_3
        refine J_iload_n (i := 2) (p := 2) C dX12_column_44 rfl rfl rfl ?_
        refine J_iconst (v := 1) C (by decide) dX12_column_45 rfl ?_
        refine J_iadd C dX12_column_46 rfl ?_
        refine J.sub [0, 1, 3] rfl ?_
        exact hj_47 l3_12 (l2_12 + (1 : Int32)) h
      · have h := h.pos (Decidable.not_not.mp c_3)
        refine J_iload_n (i := 2) (p := 2) C dX12_column_28 rfl rfl rfl ?_
        refine J_aload_n (i := 0) (p := 0) C dX12_column_29 rfl rfl rfl ?_
        refine Jm_getI C fp_RX12_42 rfl rfl dX12_column_30 rfl ?_
        obtain ⟨g_4, h⟩ := Ok.ofgd h
        refine J_idiv C (nz_spec g_4) dX12_column_33 rfl ?_
        refine J_iconst (v := 1) C (by decide) dX12_column_34 rfl ?_
        refine J_iadd C dX12_column_35 rfl ?_
        refine J_aload_n (i := 0) (p := 0) C dX12_column_36 rfl rfl rfl ?_
        refine Jm_getI C fp_RX12_42 rfl rfl dX12_column_37 rfl ?_
        refine J_imul C dX12_column_40 rfl ?_
        refine J_goto (t := 47) C dX12_column_41 (by decide) ?_
        refine J.sub [0, 1, 3] rfl ?_
        exact hj_47 l3_12 (((l2_12 / (fI μ 2017 17)) + (1 : Int32)) * (fI μ 2017 17)) h
  unfold f12_column at h
  refine J_iconst (v := 0) C (by decide) dX12_column_0 rfl ?_
  obtain ⟨x2_3, e_x2_3, h⟩ := Ok.nm h
  refine J_istoreE_n (i := 2) (lv' := [(2, .int x2_3), (0, .ref (K.2.2 + 2017)), (1, .int l1)]) C e_x2_3 dX12_column_1 rfl (Nat.le_of_ble_eq_true rfl) rfl rfl ?_
  refine J_aload_n (i := 0) (p := 1) C dX12_column_2 rfl rfl rfl ?_
  refine J_aload_n (i := 0) (p := 1) C dX12_column_3 rfl rfl rfl ?_
  refine J_iload_n (i := 1) (p := 2) C dX12_column_4 rfl rfl rfl ?_
  refine Jm_cV (rest := [.ref (K.2.2 + 2017)]) (st9 := fun p_5 => [.int p_5, .ref (K.2.2 + 2017)]) C hR hX cv_RX12_149 rfl (Nat.le_of_ble_eq_true rfl) (k12_lineAt hl  (Ok.ofbnd h)) rfl rfl (Nat.le_of_ble_eq_true rfl) (Nat.le_of_ble_eq_true rfl) (Nat.le_of_ble_eq_true rfl) ⟨(Nat.le_of_ble_eq_true rfl), (Nat.le_of_ble_eq_true rfl)⟩ dX12_column_5 rfl (fun E n9 w9 hx => JT_n hx) (fun _ => rfl) (fun p_5 h => ?_)
  have h : Ok _ _ := h
  change J X K 4 False QQ 0 0 2055 (jw K σ μ o) 8 [(2, .int x2_3), (0, .ref (K.2.2 + 2017)), (1, .int l1)] [.int p_5, .ref (K.2.2 + 2017)]
  refine Jm_cV (rest := []) (st9 := fun p_6 => [.int p_6]) C hR hX cv_RX12_145 rfl (Nat.le_of_ble_eq_true rfl) (k12_beginOf hl  (Ok.ofbnd h)) rfl rfl (Nat.le_of_ble_eq_true rfl) (Nat.le_of_ble_eq_true rfl) (Nat.le_of_ble_eq_true rfl) ⟨(Nat.le_of_ble_eq_true rfl), (Nat.le_of_ble_eq_true rfl)⟩ dX12_column_8 rfl (fun E n9 w9 hx => JT_n hx) (fun _ => rfl) (fun p_6 h => ?_)
  have h : Ok _ _ := h
  change J X K 4 False QQ 0 0 2055 (jw K σ μ o) 11 [(2, .int x2_3), (0, .ref (K.2.2 + 2017)), (1, .int l1)] [.int p_6]
  obtain ⟨x3_4, e_x3_4, h⟩ := Ok.nm h
  refine J_istoreE_n (i := 3) (lv' := [(3, .int x3_4), (2, .int x2_3), (0, .ref (K.2.2 + 2017)), (1, .int l1)]) C e_x3_4 dX12_column_11 rfl (Nat.le_of_ble_eq_true rfl) rfl rfl ?_
  refine J.sub [2, 3, 1, 0] rfl ?_
  exact hj_12 x2_3 x3_4 h
def f12_placeIn_j73 (l1 : Int32) (l2 : Int32) (μ : Sto) (l4_73 : Int32) : Option (Int32) :=
  some l4_73
def f12_placeIn_j66 (l1 : Int32) (l2 : Int32) (μ : Sto) (l4_66 : Int32) (s0_66 : Int32) : Option ((Int32 × Int32) ⊕ Int32) :=
  stp s0_66 fun x3_1 =>
  stp (l4_66 + (1 : Int32)) fun x4_2 =>
  some (.inl (x3_1, x4_2))
def f12_placeIn_b9 (l1 : Int32) (l2 : Int32) (μ : Sto) (l3_9 : Int32) (l4_9 : Int32) : Option ((Int32 × Int32) ⊕ Int32) :=
  if (fI μ 2017 5) ≤ l4_9 then
    some (.inr l4_9)
  else
    gd (inb l4_9 3000) <|
    if (aI μ 2018 (Int32.toNatClampNeg l4_9)) = (10 : Int32) then
      some (.inr l4_9)
    else
      if l2 ≤ l3_9 then
        some (.inr l4_9)
      else
        gd (inb l4_9 3000) <|
        if (aI μ 2018 (Int32.toNatClampNeg l4_9)) = (9 : Int32) then
          gd (nz (fI μ 2017 17)) <|
          f12_placeIn_j66 l1 l2 μ l4_9 (((l3_9 / (fI μ 2017 17)) + (1 : Int32)) * (fI μ 2017 17))
        else
          f12_placeIn_j66 l1 l2 μ l4_9 (l3_9 + (1 : Int32))
def f12_placeIn_j9 (l1 : Int32) (l2 : Int32) (μ : Sto) (l3_9 : Int32) (l4_9 : Int32) : Option (Int32) :=
  bnd (loopF (fun s_9 => f12_placeIn_b9 l1 l2 μ s_9.1 s_9.2) FU (l3_9, l4_9)) fun r_9 =>
    f12_placeIn_j73 l1 l2 μ r_9
def f12_placeIn (μ : Sto) (l1 : Int32) (l2 : Int32) : Option (Int32) :=
  stp (0 : Int32) fun x3_3 =>
  bnd (f12_beginOf μ l1) fun p_8 =>
  stp p_8 fun x4_4 =>
  f12_placeIn_j9 l1 l2 μ x3_3 x4_4
set_option maxHeartbeats 4000000 in
set_option maxRecDepth 100000 in
theorem k12_placeIn {l : Launch} {K : JK} (hl : l.stackTraces = false) {σ μ : Sto} {o : Int64} {l1 : Int32} {l2 : Int32}  {Qf : Int32 → Prop} (h : Ok (f12_placeIn μ l1 l2) Qf) : Con l K yX12_placeIn (.code yX12_placeIn cX12_placeIn 5 (some .int) :: TB) 1 0 0 False [.ref (K.2.2 + 2017), .int l1, .int l2] 2055 (jw K σ μ o) (PR Qf (fun p => some (.int p)) (fun p => jw K σ μ o)) PN := by
  refine Con.enter (own := RX12) hl (by decide) rfl (Nat.le_of_ble_eq_true rfl) ?_
  intro X hX hR C hret hnt
  generalize hQQ : jQ X K 0 0 (PR Qf (fun p => some (.int p)) (fun p => jw K σ μ o)) PN False = QQ
  change J X K 5 False QQ 0 0 2055 (jw K σ μ o) 0 [(0, .ref (K.2.2 + 2017)), (1, .int l1), (2, .int l2)] []
  have hj_73 : (∀ (l4_73 : Int32), Ok (f12_placeIn_j73 l1 l2 μ l4_73) Qf → J X K 5 False QQ 0 0 2055 (jw K σ μ o) 73 [(4, .int l4_73)] []) := by
    intro l4_73 h
    unfold f12_placeIn_j73 at h
    refine J_iload (i := 4) (p := 0) C dX12_placeIn_73 rfl rfl ?_
    rw [← hQQ]
    exact J_iret C hret (Nat.le_of_ble_eq_true rfl) (Nat.le_of_ble_eq_true rfl) ⟨_, h.osome, rfl, rfl, rfl⟩ dX12_placeIn_75
  have hj_9 : (∀ (l3_9 : Int32) (l4_9 : Int32), Ok (f12_placeIn_j9 l1 l2 μ l3_9 l4_9) Qf → J X K 5 False QQ 0 0 2055 (jw K σ μ o) 9 [(0, .ref (K.2.2 + 2017)), (2, .int l2), (3, .int l3_9), (4, .int l4_9)] []) := by
    intro l3_9 l4_9 h
    unfold f12_placeIn_j9 at h
    refine loop_gen (S := Int32 × Int32) (P := fun s_9 => J X K 5 False QQ 0 0 2055 (jw K σ μ o) 9 [(0, .ref (K.2.2 + 2017)), (2, .int l2), (3, .int s_9.1), (4, .int s_9.2)] []) ?_ FU (l3_9, l4_9) (Ok.ofbnd h)
    intro B_9 hB_9 hE_9 s_9 h
    obtain ⟨l3_9, l4_9⟩ := s_9
    have h : Ok (f12_placeIn_b9 l1 l2 μ l3_9 l4_9) B_9 := h
    change J X K 5 False QQ 0 0 2055 (jw K σ μ o) 9 [(0, .ref (K.2.2 + 2017)), (2, .int l2), (3, .int l3_9), (4, .int l4_9)] []
    have hj_66 : (∀ (l4_66 : Int32) (s0_66 : Int32), Ok (f12_placeIn_j66 l1 l2 μ l4_66 s0_66) B_9 → J X K 5 False QQ 0 0 2055 (jw K σ μ o) 66 [(0, .ref (K.2.2 + 2017)), (2, .int l2), (4, .int l4_66)] [.int s0_66]) := by
      intro l4_66 s0_66 h
      unfold f12_placeIn_j66 at h
      obtain ⟨x3_1, e_x3_1, h⟩ := Ok.nm h
      refine J_istoreE_n (i := 3) (lv' := [(3, .int x3_1), (0, .ref (K.2.2 + 2017)), (2, .int l2), (4, .int l4_66)]) C e_x3_1 dX12_placeIn_66 rfl (Nat.le_of_ble_eq_true rfl) rfl rfl ?_
      obtain ⟨x4_2, e_x4_2, h⟩ := Ok.nm h
      refine J_iincE (i := 4) (p := 3) (lv' := [(4, .int x4_2), (3, .int x3_1), (0, .ref (K.2.2 + 2017)), (2, .int l2)]) C e_x4_2 dX12_placeIn_67 rfl (by decide) (Nat.le_of_ble_eq_true rfl) rfl rfl ?_
      refine J_goto (t := 9) C dX12_placeIn_70 (by decide) ?_
      refine J.sub [2, 3, 1, 0] rfl ?_
      exact hB_9 (x3_1, x4_2) h.osome
    unfold f12_placeIn_b9 at h
    refine J_iload (i := 4) (p := 3) C dX12_placeIn_9 rfl rfl ?_
    refine J_aload_n (i := 0) (p := 0) C dX12_placeIn_11 rfl rfl rfl ?_
    refine Jm_getI C fp_RX12_138 rfl rfl dX12_placeIn_12 rfl ?_
    refine J_icmp_ge (t := 73) C dX12_placeIn_15 (by decide) rfl (fun c_1 => ?_) (fun c_1 => ?_)
    · have h := h.pos c_1
      have h := hE_9 l4_9 h.osome
      try dsimp only at h
      refine J.sub [3] rfl ?_
      exact hj_73 l4_9 h
    · have h := h.neg c_1
      refine J_aload_n (i := 0) (p := 0) C dX12_placeIn_18 rfl rfl rfl ?_
      refine Jm_getS (o2 := 1) (r2 := 2018) C fp_RX12_7 rfl rfl rfl dX12_placeIn_19 rfl ?_
      refine J_iload (i := 4) (p := 3) C dX12_placeIn_22 rfl rfl ?_
      obtain ⟨g_2, h⟩ := Ok.ofgd h
      refine Jm_iald C rfl rfl g_2 dX12_placeIn_24 rfl ?_
      refine J_bipush (v := 10) C (by decide) dX12_placeIn_25 rfl ?_
      refine J_icmp_eq (t := 73) C dX12_placeIn_27 (by decide) rfl (fun c_3 => ?_) (fun c_3 => ?_)
      · have h := h.pos c_3
        have h := hE_9 l4_9 h.osome
        try dsimp only at h
        refine J.sub [3] rfl ?_
        exact hj_73 l4_9 h
      · have h := h.neg c_3
        refine J_iload_n (i := 3) (p := 2) C dX12_placeIn_30 rfl rfl rfl ?_
        refine J_iload_n (i := 2) (p := 1) C dX12_placeIn_31 rfl rfl rfl ?_
        refine J_icmp_ge (t := 73) C dX12_placeIn_32 (by decide) rfl (fun c_4 => ?_) (fun c_4 => ?_)
        · have h := h.pos c_4
          have h := hE_9 l4_9 h.osome
          try dsimp only at h
          refine J.sub [3] rfl ?_
          exact hj_73 l4_9 h
        · have h := h.neg c_4
          refine J_aload_n (i := 0) (p := 0) C dX12_placeIn_35 rfl rfl rfl ?_
          refine Jm_getS (o2 := 1) (r2 := 2018) C fp_RX12_7 rfl rfl rfl dX12_placeIn_36 rfl ?_
          refine J_iload (i := 4) (p := 3) C dX12_placeIn_39 rfl rfl ?_
          obtain ⟨g_5, h⟩ := Ok.ofgd h
          refine Jm_iald C rfl rfl g_5 dX12_placeIn_41 rfl ?_
          refine J_bipush (v := 9) C (by decide) dX12_placeIn_42 rfl ?_
          refine J_icmp_ne (t := 63) C dX12_placeIn_44 (by decide) rfl (fun c_6 => ?_) (fun c_6 => ?_)
          · have h := h.neg c_6
            refine J_iload_n (i := 3) (p := 2) C dX12_placeIn_63 rfl rfl rfl ?_
            refine J_iconst (v := 1) C (by decide) dX12_placeIn_64 rfl ?_
            refine J_iadd C dX12_placeIn_65 rfl ?_
            refine J.sub [0, 1, 3] rfl ?_
            exact hj_66 l4_9 (l3_9 + (1 : Int32)) h
          · have h := h.pos (Decidable.not_not.mp c_6)
            refine J_iload_n (i := 3) (p := 2) C dX12_placeIn_47 rfl rfl rfl ?_
            refine J_aload_n (i := 0) (p := 0) C dX12_placeIn_48 rfl rfl rfl ?_
            refine Jm_getI C fp_RX12_42 rfl rfl dX12_placeIn_49 rfl ?_
            obtain ⟨g_7, h⟩ := Ok.ofgd h
            refine J_idiv C (nz_spec g_7) dX12_placeIn_52 rfl ?_
            refine J_iconst (v := 1) C (by decide) dX12_placeIn_53 rfl ?_
            refine J_iadd C dX12_placeIn_54 rfl ?_
            refine J_aload_n (i := 0) (p := 0) C dX12_placeIn_55 rfl rfl rfl ?_
            refine Jm_getI C fp_RX12_42 rfl rfl dX12_placeIn_56 rfl ?_
            refine J_imul C dX12_placeIn_59 rfl ?_
            refine J_goto (t := 66) C dX12_placeIn_60 (by decide) ?_
            refine J.sub [0, 1, 3] rfl ?_
            exact hj_66 l4_9 (((l3_9 / (fI μ 2017 17)) + (1 : Int32)) * (fI μ 2017 17)) h
  unfold f12_placeIn at h
  refine J_iconst (v := 0) C (by decide) dX12_placeIn_0 rfl ?_
  obtain ⟨x3_3, e_x3_3, h⟩ := Ok.nm h
  refine J_istoreE_n (i := 3) (lv' := [(3, .int x3_3), (0, .ref (K.2.2 + 2017)), (1, .int l1), (2, .int l2)]) C e_x3_3 dX12_placeIn_1 rfl (Nat.le_of_ble_eq_true rfl) rfl rfl ?_
  refine J_aload_n (i := 0) (p := 1) C dX12_placeIn_2 rfl rfl rfl ?_
  refine J_iload_n (i := 1) (p := 2) C dX12_placeIn_3 rfl rfl rfl ?_
  refine Jm_cV (rest := []) (st9 := fun p_8 => [.int p_8]) C hR hX cv_RX12_145 rfl (Nat.le_of_ble_eq_true rfl) (k12_beginOf hl  (Ok.ofbnd h)) rfl rfl (Nat.le_of_ble_eq_true rfl) (Nat.le_of_ble_eq_true rfl) (Nat.le_of_ble_eq_true rfl) ⟨(Nat.le_of_ble_eq_true rfl), (Nat.le_of_ble_eq_true rfl)⟩ dX12_placeIn_4 rfl (fun E n9 w9 hx => JT_n hx) (fun _ => rfl) (fun p_8 h => ?_)
  have h : Ok _ _ := h
  change J X K 5 False QQ 0 0 2055 (jw K σ μ o) 7 [(3, .int x3_3), (0, .ref (K.2.2 + 2017)), (1, .int l1), (2, .int l2)] [.int p_8]
  obtain ⟨x4_4, e_x4_4, h⟩ := Ok.nm h
  refine J_istoreE (i := 4) (lv' := [(4, .int x4_4), (3, .int x3_3), (0, .ref (K.2.2 + 2017)), (1, .int l1), (2, .int l2)]) C e_x4_4 dX12_placeIn_7 (Nat.le_of_ble_eq_true rfl) rfl rfl ?_
  refine J.sub [2, 4, 1, 0] rfl ?_
  exact hj_9 x3_3 x4_4 h
def f12_opens_j67 (l1 : Int32) (μ_67 : Sto) (l3_67 : Int32) : Option (Int32 × Sto) :=
  some (l3_67, μ_67)
def f12_opens_b32 (l1 : Int32) (μ_32 : Sto) (l2_32 : Int32) (l3_32 : Int32) : Option ((Sto × Int32) ⊕ (Sto × Int32)) :=
  if (300 : Int32) ≤ (l2_32 + l3_32) then
    some (.inr (μ_32, l3_32))
  else
    gd (inb (l2_32 + l3_32) 301) <|
    if (aI μ_32 2022 (Int32.toNatClampNeg (l2_32 + l3_32))) = 0 then
      some (.inr (μ_32, l3_32))
    else
      gd (inb (l2_32 + l3_32) 301) <|
      stp (uA μ_32 2022 (Int32.toNatClampNeg (l2_32 + l3_32)) (vp_nar .boolean (0 : Int32))) fun μx_1 =>
      stp (l3_32 + (1 : Int32)) fun x3_2 =>
      some (.inl (μx_1, x3_2))
def f12_opens_j32 (l1 : Int32) (μ_32 : Sto) (l2_32 : Int32) (l3_32 : Int32) : Option (Int32 × Sto) :=
  bnd (loopF (fun s_32 => f12_opens_b32 l1 s_32.1 l2_32 s_32.2) FU (μ_32, l3_32)) fun r_32 =>
    f12_opens_j67 l1 r_32.1 r_32.2
def f12_opens_b13 (l1 : Int32) (μ_13 : Sto) (l2_13 : Int32) : Option (Int32 ⊕ Int32) :=
  gd (inb (l2_13 - (1 : Int32)) 301) <|
  if (aI μ_13 2022 (Int32.toNatClampNeg (l2_13 - (1 : Int32)))) = 0 then
    some (.inr l2_13)
  else
    stp (l2_13 + (-1 : Int32)) fun x2_4 =>
    some (.inl x2_4)
def f12_opens_j13 (l1 : Int32) (μ_13 : Sto) (l2_13 : Int32) : Option (Int32 × Sto) :=
  bnd (loopF (fun s_13 => f12_opens_b13 l1 μ_13 s_13) FU l2_13) fun r_13 =>
    stp (0 : Int32) fun x3_5 =>
    f12_opens_j32 l1 μ_13 r_13 x3_5
def f12_opens (μ : Sto) (l1 : Int32) : Option (Int32 × Sto) :=
  gd (inb l1 301) <|
  if (aI μ 2022 (Int32.toNatClampNeg l1)) = 0 then
    some ((0 : Int32), μ)
  else
    stp l1 fun x2_6 =>
    f12_opens_j13 l1 μ x2_6
set_option maxHeartbeats 4000000 in
set_option maxRecDepth 100000 in
theorem k12_opens {l : Launch} {K : JK} (hl : l.stackTraces = false) {σ μ : Sto} {o : Int64} {l1 : Int32}  {Qf : Int32 × Sto → Prop} (h : Ok (f12_opens μ l1) Qf) : Con l K yX12_opens (.code yX12_opens cX12_opens 4 (some .int) :: TB) 0 0 0 False [.ref (K.2.2 + 2017), .int l1] 2055 (jw K σ μ o) (PR Qf (fun p => some (.int p.1)) (fun p => jw K σ p.2 o)) PN := by
  refine Con.enter (own := RX12) hl (by decide) rfl (Nat.le_of_ble_eq_true rfl) ?_
  intro X hX hR C hret hnt
  generalize hQQ : jQ X K 0 0 (PR Qf (fun p => some (.int p.1)) (fun p => jw K σ p.2 o)) PN False = QQ
  change J X K 4 False QQ 0 0 2055 (jw K σ μ o) 0 [(0, .ref (K.2.2 + 2017)), (1, .int l1)] []
  have hj_67 : (∀ (μ_67 : Sto) (l3_67 : Int32), Ok (f12_opens_j67 l1 μ_67 l3_67) Qf → J X K 4 False QQ 0 0 2055 (jw K σ μ_67 o) 67 [(3, .int l3_67)] []) := by
    intro μ_67 l3_67 h
    unfold f12_opens_j67 at h
    refine J_iload_n (i := 3) (p := 0) C dX12_opens_67 rfl rfl rfl ?_
    rw [← hQQ]
    exact J_iret C hret (Nat.le_of_ble_eq_true rfl) (Nat.le_of_ble_eq_true rfl) ⟨_, h.osome, rfl, rfl, rfl⟩ dX12_opens_68
  have hj_32 : (∀ (μ_32 : Sto) (l2_32 : Int32) (l3_32 : Int32), Ok (f12_opens_j32 l1 μ_32 l2_32 l3_32) Qf → J X K 4 False QQ 0 0 2055 (jw K σ μ_32 o) 32 [(0, .ref (K.2.2 + 2017)), (2, .int l2_32), (3, .int l3_32)] []) := by
    intro μ_32 l2_32 l3_32 h
    unfold f12_opens_j32 at h
    refine loop_gen (S := Sto × Int32) (P := fun s_32 => J X K 4 False QQ 0 0 2055 (jw K σ s_32.1 o) 32 [(0, .ref (K.2.2 + 2017)), (2, .int l2_32), (3, .int s_32.2)] []) ?_ FU (μ_32, l3_32) (Ok.ofbnd h)
    intro B_32 hB_32 hE_32 s_32 h
    obtain ⟨μ_32, l3_32⟩ := s_32
    have h : Ok (f12_opens_b32 l1 μ_32 l2_32 l3_32) B_32 := h
    change J X K 4 False QQ 0 0 2055 (jw K σ μ_32 o) 32 [(0, .ref (K.2.2 + 2017)), (2, .int l2_32), (3, .int l3_32)] []
    unfold f12_opens_b32 at h
    refine J_iload_n (i := 2) (p := 1) C dX12_opens_32 rfl rfl rfl ?_
    refine J_iload_n (i := 3) (p := 2) C dX12_opens_33 rfl rfl rfl ?_
    refine J_iadd C dX12_opens_34 rfl ?_
    refine J_sipush (v := 300) C (by decide) dX12_opens_35 rfl ?_
    refine J_icmp_ge (t := 67) C dX12_opens_38 (by decide) rfl (fun c_1 => ?_) (fun c_1 => ?_)
    · have h := h.pos c_1
      have h := hE_32 (μ_32, l3_32) h.osome
      try dsimp only at h
      refine J.sub [2] rfl ?_
      exact hj_67 μ_32 l3_32 h
    · have h := h.neg c_1
      refine J_aload_n (i := 0) (p := 0) C dX12_opens_41 rfl rfl rfl ?_
      refine Jm_getS (o2 := 5) (r2 := 2022) C fp_RX12_23 rfl rfl rfl dX12_opens_42 rfl ?_
      refine J_iload_n (i := 2) (p := 1) C dX12_opens_45 rfl rfl rfl ?_
      refine J_iload_n (i := 3) (p := 2) C dX12_opens_46 rfl rfl rfl ?_
      refine J_iadd C dX12_opens_47 rfl ?_
      obtain ⟨g_2, h⟩ := Ok.ofgd h
      refine Jm_zald C rfl rfl g_2 dX12_opens_48 rfl ?_
      refine J_if_eq (t := 67) C dX12_opens_49 (by decide) rfl (fun c_3 => ?_) (fun c_3 => ?_)
      · have h := h.pos c_3
        have h := hE_32 (μ_32, l3_32) h.osome
        try dsimp only at h
        refine J.sub [2] rfl ?_
        exact hj_67 μ_32 l3_32 h
      · have h := h.neg c_3
        refine J_aload_n (i := 0) (p := 0) C dX12_opens_52 rfl rfl rfl ?_
        refine Jm_getS (o2 := 5) (r2 := 2022) C fp_RX12_23 rfl rfl rfl dX12_opens_53 rfl ?_
        refine J_iload_n (i := 2) (p := 1) C dX12_opens_56 rfl rfl rfl ?_
        refine J_iload_n (i := 3) (p := 2) C dX12_opens_57 rfl rfl rfl ?_
        refine J_iadd C dX12_opens_58 rfl ?_
        refine J_iconst (v := 0) C (by decide) dX12_opens_59 rfl ?_
        obtain ⟨g_4, h⟩ := Ok.ofgd h
        obtain ⟨μx_1, e_μx_1, h⟩ := Ok.nm h
        refine Jm_zast C id rfl rfl g_4 e_μx_1 dX12_opens_60 rfl ?_
        obtain ⟨x3_2, e_x3_2, h⟩ := Ok.nm h
        refine J_iincE (i := 3) (p := 2) (lv' := [(3, .int x3_2), (0, .ref (K.2.2 + 2017)), (2, .int l2_32)]) C e_x3_2 dX12_opens_61 rfl (by decide) (Nat.le_of_ble_eq_true rfl) rfl rfl ?_
        refine J_goto (t := 32) C dX12_opens_64 (by decide) ?_
        refine J.sub [1, 2, 0] rfl ?_
        exact hB_32 (μx_1, x3_2) h.osome
  have hj_13 : (∀ (μ_13 : Sto) (l2_13 : Int32), Ok (f12_opens_j13 l1 μ_13 l2_13) Qf → J X K 4 False QQ 0 0 2055 (jw K σ μ_13 o) 13 [(0, .ref (K.2.2 + 2017)), (2, .int l2_13)] []) := by
    intro μ_13 l2_13 h
    unfold f12_opens_j13 at h
    refine loop_gen (S := Int32) (P := fun s_13 => J X K 4 False QQ 0 0 2055 (jw K σ μ_13 o) 13 [(0, .ref (K.2.2 + 2017)), (2, .int s_13)] []) ?_ FU l2_13 (Ok.ofbnd h)
    intro B_13 hB_13 hE_13 s_13 h
    generalize s_13 = l2_13 at h ⊢
    have h : Ok (f12_opens_b13 l1 μ_13 l2_13) B_13 := h
    change J X K 4 False QQ 0 0 2055 (jw K σ μ_13 o) 13 [(0, .ref (K.2.2 + 2017)), (2, .int l2_13)] []
    unfold f12_opens_b13 at h
    refine J_aload_n (i := 0) (p := 0) C dX12_opens_13 rfl rfl rfl ?_
    refine Jm_getS (o2 := 5) (r2 := 2022) C fp_RX12_23 rfl rfl rfl dX12_opens_14 rfl ?_
    refine J_iload_n (i := 2) (p := 1) C dX12_opens_17 rfl rfl rfl ?_
    refine J_iconst (v := 1) C (by decide) dX12_opens_18 rfl ?_
    refine J_isub C dX12_opens_19 rfl ?_
    obtain ⟨g_5, h⟩ := Ok.ofgd h
    refine Jm_zald C rfl rfl g_5 dX12_opens_20 rfl ?_
    refine J_if_eq (t := 30) C dX12_opens_21 (by decide) rfl (fun c_6 => ?_) (fun c_6 => ?_)
    · have h := h.pos c_6
      have h := hE_13 l2_13 h.osome
      try dsimp only at h
      refine J_iconst (v := 0) C (by decide) dX12_opens_30 rfl ?_
      obtain ⟨x3_3, e_x3_3, h⟩ := Ok.nm h
      refine J_istoreE_n (i := 3) (lv' := [(3, .int x3_3), (0, .ref (K.2.2 + 2017)), (2, .int l2_13)]) C e_x3_3 dX12_opens_31 rfl (Nat.le_of_ble_eq_true rfl) rfl rfl ?_
      refine J.sub [1, 2, 0] rfl ?_
      exact hj_32 μ_13 l2_13 x3_3 h
    · have h := h.neg c_6
      obtain ⟨x2_4, e_x2_4, h⟩ := Ok.nm h
      refine J_iincE (i := 2) (p := 1) (lv' := [(2, .int x2_4), (0, .ref (K.2.2 + 2017))]) C e_x2_4 dX12_opens_24 rfl (by decide) (Nat.le_of_ble_eq_true rfl) rfl rfl ?_
      refine J_goto (t := 13) C dX12_opens_27 (by decide) ?_
      refine J.sub [1, 0] rfl ?_
      exact hB_13 x2_4 h.osome
  unfold f12_opens at h
  refine J_aload_n (i := 0) (p := 0) C dX12_opens_0 rfl rfl rfl ?_
  refine Jm_getS (o2 := 5) (r2 := 2022) C fp_RX12_23 rfl rfl rfl dX12_opens_1 rfl ?_
  refine J_iload_n (i := 1) (p := 1) C dX12_opens_4 rfl rfl rfl ?_
  obtain ⟨g_7, h⟩ := Ok.ofgd h
  refine Jm_zald C rfl rfl g_7 dX12_opens_5 rfl ?_
  refine J_if_ne (t := 11) C dX12_opens_6 (by decide) rfl (fun c_8 => ?_) (fun c_8 => ?_)
  · have h := h.neg c_8
    refine J_iload_n (i := 1) (p := 1) C dX12_opens_11 rfl rfl rfl ?_
    obtain ⟨x2_6, e_x2_6, h⟩ := Ok.nm h
    refine J_istoreE_n (i := 2) (lv' := [(2, .int x2_6), (0, .ref (K.2.2 + 2017)), (1, .int l1)]) C e_x2_6 dX12_opens_12 rfl (Nat.le_of_ble_eq_true rfl) rfl rfl ?_
    refine J.sub [1, 0] rfl ?_
    exact hj_13 μ x2_6 h
  · have h := h.pos (Decidable.not_not.mp c_8)
    refine J_iconst (v := 0) C (by decide) dX12_opens_9 rfl ?_
    rw [← hQQ]
    exact J_iret C hret (Nat.le_of_ble_eq_true rfl) (Nat.le_of_ble_eq_true rfl) ⟨_, h.osome, rfl, rfl, rfl⟩ dX12_opens_10
def f12_opensAt (μ : Sto) (l1 : Int32) : Option (Sto) :=
  bnd (f12_lineAt μ l1) fun p_1 =>
  bnd (f12_opens μ p_1) fun p_2 =>
  stp p_2.1 fun x2_1 =>
  some p_2.2
set_option maxHeartbeats 4000000 in
set_option maxRecDepth 100000 in
theorem k12_opensAt {l : Launch} {K : JK} (hl : l.stackTraces = false) {σ μ : Sto} {o : Int64} {l1 : Int32}  {Qf : Sto → Prop} (h : Ok (f12_opensAt μ l1) Qf) : Con l K yX12_opensAt (.code yX12_opensAt cX12_opensAt 3 none :: TB) 1 0 0 False [.ref (K.2.2 + 2017), .int l1] 2055 (jw K σ μ o) (PR Qf (fun p => none) (fun p => jw K σ p o)) PN := by
  refine Con.enter (own := RX12) hl (by decide) rfl (Nat.le_of_ble_eq_true rfl) ?_
  intro X hX hR C hret hnt
  generalize hQQ : jQ X K 0 0 (PR Qf (fun p => none) (fun p => jw K σ p o)) PN False = QQ
  change J X K 3 False QQ 0 0 2055 (jw K σ μ o) 0 [(0, .ref (K.2.2 + 2017)), (1, .int l1)] []
  unfold f12_opensAt at h
  refine J_aload_n (i := 0) (p := 0) C dX12_opensAt_0 rfl rfl rfl ?_
  refine J_aload_n (i := 0) (p := 0) C dX12_opensAt_1 rfl rfl rfl ?_
  refine J_iload_n (i := 1) (p := 1) C dX12_opensAt_2 rfl rfl rfl ?_
  refine Jm_cV (rest := [.ref (K.2.2 + 2017)]) (st9 := fun p_1 => [.int p_1, .ref (K.2.2 + 2017)]) C hR hX cv_RX12_149 rfl (Nat.le_of_ble_eq_true rfl) (k12_lineAt hl  (Ok.ofbnd h)) rfl rfl (Nat.le_of_ble_eq_true rfl) (Nat.le_of_ble_eq_true rfl) (Nat.le_of_ble_eq_true rfl) ⟨(Nat.le_of_ble_eq_true rfl), (Nat.le_of_ble_eq_true rfl)⟩ dX12_opensAt_3 rfl (fun E n9 w9 hx => JT_n hx) (fun _ => rfl) (fun p_1 h => ?_)
  have h : Ok _ _ := h
  change J X K 3 False QQ 0 0 2055 (jw K σ μ o) 6 [(0, .ref (K.2.2 + 2017)), (1, .int l1)] [.int p_1, .ref (K.2.2 + 2017)]
  refine Jm_cV (rest := []) (st9 := fun p_2 => [.int p_2.1]) C hR hX cv_RX12_152 rfl (Nat.le_of_ble_eq_true rfl) (k12_opens hl  (Ok.ofbnd h)) rfl rfl (Nat.le_of_ble_eq_true rfl) (Nat.le_of_ble_eq_true rfl) (Nat.le_of_ble_eq_true rfl) ⟨(Nat.le_of_ble_eq_true rfl), (Nat.le_of_ble_eq_true rfl)⟩ dX12_opensAt_6 rfl (fun E n9 w9 hx => JT_n hx) (fun _ => rfl) (fun p_2 h => ?_)
  have h : Ok _ _ := h
  change J X K 3 False QQ 0 0 2055 (jw K σ p_2.2 o) 9 [(0, .ref (K.2.2 + 2017)), (1, .int l1)] [.int p_2.1]
  obtain ⟨x2_1, e_x2_1, h⟩ := Ok.nm h
  refine J_istoreE_n (i := 2) (lv' := [(2, .int x2_1), (0, .ref (K.2.2 + 2017)), (1, .int l1)]) C e_x2_1 dX12_opensAt_9 rfl (Nat.le_of_ble_eq_true rfl) rfl rfl ?_
  rw [← hQQ]
  exact J_vret C hret (Nat.le_of_ble_eq_true rfl) (Nat.le_of_ble_eq_true rfl) ⟨_, h.osome, rfl, rfl, rfl⟩ dX12_opensAt_10
def f12_hiddenMany_j26 (μ : Sto) (l2_26 : Int32) (s0_26 : Int32) (s1_26 : Int32) : Option ((Int32 × Int32) ⊕ Int32) :=
  stp (s0_26 + s1_26) fun x1_1 =>
  stp (l2_26 + (1 : Int32)) fun x2_2 =>
  some (.inl (x1_1, x2_2))
def f12_hiddenMany_b4 (μ : Sto) (l1_4 : Int32) (l2_4 : Int32) : Option ((Int32 × Int32) ⊕ Int32) :=
  if (300 : Int32) ≤ l2_4 then
    some (.inr l1_4)
  else
    gd (inb l2_4 301) <|
    if (aI μ 2022 (Int32.toNatClampNeg l2_4)) = 0 then
      f12_hiddenMany_j26 μ l2_4 l1_4 (0 : Int32)
    else
      f12_hiddenMany_j26 μ l2_4 l1_4 (1 : Int32)
def f12_hiddenMany_j4 (μ : Sto) (l1_4 : Int32) (l2_4 : Int32) : Option (Int32) :=
  bnd (loopF (fun s_4 => f12_hiddenMany_b4 μ s_4.1 s_4.2) FU (l1_4, l2_4)) fun r_4 =>
    some r_4
def f12_hiddenMany (μ : Sto) : Option (Int32) :=
  stp (0 : Int32) fun x1_3 =>
  stp (0 : Int32) fun x2_4 =>
  f12_hiddenMany_j4 μ x1_3 x2_4
set_option maxHeartbeats 4000000 in
set_option maxRecDepth 100000 in
theorem k12_hiddenMany {l : Launch} {K : JK} (hl : l.stackTraces = false) {σ μ : Sto} {o : Int64}   {Qf : Int32 → Prop} (h : Ok (f12_hiddenMany μ) Qf) : Con l K yX12_hiddenMany (.code yX12_hiddenMany cX12_hiddenMany 3 (some .int) :: TB) 0 0 0 False [.ref (K.2.2 + 2017)] 2055 (jw K σ μ o) (PR Qf (fun p => some (.int p)) (fun p => jw K σ μ o)) PN := by
  refine Con.enter (own := RX12) hl (by decide) rfl (Nat.le_of_ble_eq_true rfl) ?_
  intro X hX hR C hret hnt
  generalize hQQ : jQ X K 0 0 (PR Qf (fun p => some (.int p)) (fun p => jw K σ μ o)) PN False = QQ
  change J X K 3 False QQ 0 0 2055 (jw K σ μ o) 0 [(0, .ref (K.2.2 + 2017))] []
  have hj_4 : (∀ (l1_4 : Int32) (l2_4 : Int32), Ok (f12_hiddenMany_j4 μ l1_4 l2_4) Qf → J X K 3 False QQ 0 0 2055 (jw K σ μ o) 4 [(0, .ref (K.2.2 + 2017)), (1, .int l1_4), (2, .int l2_4)] []) := by
    intro l1_4 l2_4 h
    unfold f12_hiddenMany_j4 at h
    refine loop_gen (S := Int32 × Int32) (P := fun s_4 => J X K 3 False QQ 0 0 2055 (jw K σ μ o) 4 [(0, .ref (K.2.2 + 2017)), (1, .int s_4.1), (2, .int s_4.2)] []) ?_ FU (l1_4, l2_4) (Ok.ofbnd h)
    intro B_4 hB_4 hE_4 s_4 h
    obtain ⟨l1_4, l2_4⟩ := s_4
    have h : Ok (f12_hiddenMany_b4 μ l1_4 l2_4) B_4 := h
    change J X K 3 False QQ 0 0 2055 (jw K σ μ o) 4 [(0, .ref (K.2.2 + 2017)), (1, .int l1_4), (2, .int l2_4)] []
    have hj_26 : (∀ (l2_26 : Int32) (s0_26 : Int32) (s1_26 : Int32), Ok (f12_hiddenMany_j26 μ l2_26 s0_26 s1_26) B_4 → J X K 3 False QQ 0 0 2055 (jw K σ μ o) 26 [(0, .ref (K.2.2 + 2017)), (2, .int l2_26)] [.int s1_26, .int s0_26]) := by
      intro l2_26 s0_26 s1_26 h
      unfold f12_hiddenMany_j26 at h
      refine J_iadd C dX12_hiddenMany_26 rfl ?_
      obtain ⟨x1_1, e_x1_1, h⟩ := Ok.nm h
      refine J_istoreE_n (i := 1) (lv' := [(1, .int x1_1), (0, .ref (K.2.2 + 2017)), (2, .int l2_26)]) C e_x1_1 dX12_hiddenMany_27 rfl (Nat.le_of_ble_eq_true rfl) rfl rfl ?_
      obtain ⟨x2_2, e_x2_2, h⟩ := Ok.nm h
      refine J_iincE (i := 2) (p := 2) (lv' := [(2, .int x2_2), (1, .int x1_1), (0, .ref (K.2.2 + 2017))]) C e_x2_2 dX12_hiddenMany_28 rfl (by decide) (Nat.le_of_ble_eq_true rfl) rfl rfl ?_
      refine J_goto (t := 4) C dX12_hiddenMany_31 (by decide) ?_
      refine J.sub [2, 1, 0] rfl ?_
      exact hB_4 (x1_1, x2_2) h.osome
    unfold f12_hiddenMany_b4 at h
    refine J_iload_n (i := 2) (p := 2) C dX12_hiddenMany_4 rfl rfl rfl ?_
    refine J_sipush (v := 300) C (by decide) dX12_hiddenMany_5 rfl ?_
    refine J_icmp_ge (t := 34) C dX12_hiddenMany_8 (by decide) rfl (fun c_1 => ?_) (fun c_1 => ?_)
    · have h := h.pos c_1
      have h := hE_4 l1_4 h.osome
      try dsimp only at h
      refine J_iload_n (i := 1) (p := 1) C dX12_hiddenMany_34 rfl rfl rfl ?_
      rw [← hQQ]
      exact J_iret C hret (Nat.le_of_ble_eq_true rfl) (Nat.le_of_ble_eq_true rfl) ⟨_, h.osome, rfl, rfl, rfl⟩ dX12_hiddenMany_35
    · have h := h.neg c_1
      refine J_iload_n (i := 1) (p := 1) C dX12_hiddenMany_11 rfl rfl rfl ?_
      refine J_aload_n (i := 0) (p := 0) C dX12_hiddenMany_12 rfl rfl rfl ?_
      refine Jm_getS (o2 := 5) (r2 := 2022) C fp_RX12_23 rfl rfl rfl dX12_hiddenMany_13 rfl ?_
      refine J_iload_n (i := 2) (p := 2) C dX12_hiddenMany_16 rfl rfl rfl ?_
      obtain ⟨g_2, h⟩ := Ok.ofgd h
      refine Jm_zald C rfl rfl g_2 dX12_hiddenMany_17 rfl ?_
      refine J_if_eq (t := 25) C dX12_hiddenMany_18 (by decide) rfl (fun c_3 => ?_) (fun c_3 => ?_)
      · have h := h.pos c_3
        refine J_iconst (v := 0) C (by decide) dX12_hiddenMany_25 rfl ?_
        refine J.sub [0, 2] rfl ?_
        exact hj_26 l2_4 l1_4 (0 : Int32) h
      · have h := h.neg c_3
        refine J_iconst (v := 1) C (by decide) dX12_hiddenMany_21 rfl ?_
        refine J_goto (t := 26) C dX12_hiddenMany_22 (by decide) ?_
        refine J.sub [0, 2] rfl ?_
        exact hj_26 l2_4 l1_4 (1 : Int32) h
  unfold f12_hiddenMany at h
  refine J_iconst (v := 0) C (by decide) dX12_hiddenMany_0 rfl ?_
  obtain ⟨x1_3, e_x1_3, h⟩ := Ok.nm h
  refine J_istoreE_n (i := 1) (lv' := [(1, .int x1_3), (0, .ref (K.2.2 + 2017))]) C e_x1_3 dX12_hiddenMany_1 rfl (Nat.le_of_ble_eq_true rfl) rfl rfl ?_
  refine J_iconst (v := 0) C (by decide) dX12_hiddenMany_2 rfl ?_
  obtain ⟨x2_4, e_x2_4, h⟩ := Ok.nm h
  refine J_istoreE_n (i := 2) (lv' := [(2, .int x2_4), (1, .int x1_3), (0, .ref (K.2.2 + 2017))]) C e_x2_4 dX12_hiddenMany_3 rfl (Nat.le_of_ble_eq_true rfl) rfl rfl ?_
  refine J.sub [2, 1, 0] rfl ?_
  exact hj_4 x1_3 x2_4 h
def f12_keeps_b135 (l1 : Int32) (μ_135 : Sto) (l2_135 : Int32) : Option ((Sto × Int32) ⊕ Sto) :=
  if (300 : Int32) ≤ l2_135 then
    some (.inr μ_135)
  else
    gd (inb l2_135 301) <|
    gd (inb (((300 : Int32) * l1) + l2_135) 90601) <|
    stp (uA μ_135 2042 (Int32.toNatClampNeg (((300 : Int32) * l1) + l2_135)) (vp_nar .boolean (aI μ_135 2022 (Int32.toNatClampNeg l2_135)))) fun μx_1 =>
    stp (l2_135 + (1 : Int32)) fun x2_2 =>
    some (.inl (μx_1, x2_2))
def f12_keeps_j135 (l1 : Int32) (μ_135 : Sto) (l2_135 : Int32) : Option (Sto) :=
  bnd (loopF (fun s_135 => f12_keeps_b135 l1 s_135.1 s_135.2) FU (μ_135, l2_135)) fun r_135 =>
    some r_135
def f12_keeps_b87 (l1 : Int32) (μ_87 : Sto) (l2_87 : Int32) : Option ((Sto × Int32) ⊕ Sto) :=
  if (16 : Int32) ≤ l2_87 then
    some (.inr μ_87)
  else
    gd (inb l2_87 16) <|
    gd (inb (((16 : Int32) * l1) + l2_87) 4816) <|
    stp (uA μ_87 2040 (Int32.toNatClampNeg (((16 : Int32) * l1) + l2_87)) (aI μ_87 2020 (Int32.toNatClampNeg l2_87))) fun μx_4 =>
    gd (inb l2_87 16) <|
    gd (inb (((16 : Int32) * l1) + l2_87) 4816) <|
    stp (uA μx_4 2041 (Int32.toNatClampNeg (((16 : Int32) * l1) + l2_87)) (vp_nar .boolean (aI μx_4 2021 (Int32.toNatClampNeg l2_87)))) fun μx_5 =>
    stp (l2_87 + (1 : Int32)) fun x2_6 =>
    some (.inl (μx_5, x2_6))
def f12_keeps_j87 (l1 : Int32) (μ_87 : Sto) (l2_87 : Int32) : Option (Sto) :=
  bnd (loopF (fun s_87 => f12_keeps_b87 l1 s_87.1 s_87.2) FU (μ_87, l2_87)) fun r_87 =>
    stp (0 : Int32) fun x2_7 =>
    f12_keeps_j135 l1 r_87 x2_7
def f12_keeps_b56 (l1 : Int32) (μ_56 : Sto) (l2_56 : Int32) : Option ((Sto × Int32) ⊕ Sto) :=
  if (8 : Int32) ≤ l2_56 then
    some (.inr μ_56)
  else
    gd (inb l2_56 8) <|
    gd (inb (((8 : Int32) * l1) + l2_56) 2408) <|
    stp (uA μ_56 2038 (Int32.toNatClampNeg (((8 : Int32) * l1) + l2_56)) (aI μ_56 2019 (Int32.toNatClampNeg l2_56))) fun μx_9 =>
    stp (l2_56 + (1 : Int32)) fun x2_10 =>
    some (.inl (μx_9, x2_10))
def f12_keeps_j56 (l1 : Int32) (μ_56 : Sto) (l2_56 : Int32) : Option (Sto) :=
  bnd (loopF (fun s_56 => f12_keeps_b56 l1 s_56.1 s_56.2) FU (μ_56, l2_56)) fun r_56 =>
    stp (0 : Int32) fun x2_11 =>
    f12_keeps_j87 l1 r_56 x2_11
def f12_keeps_b22 (l1 : Int32) (μ_22 : Sto) (l2_22 : Int32) : Option ((Sto × Int32) ⊕ Sto) :=
  if (fI μ_22 2017 5) ≤ l2_22 then
    some (.inr μ_22)
  else
    gd (inb l2_22 3000) <|
    gd (inb (((3000 : Int32) * l1) + l2_22) 903000) <|
    stp (uA μ_22 2036 (Int32.toNatClampNeg (((3000 : Int32) * l1) + l2_22)) (aI μ_22 2018 (Int32.toNatClampNeg l2_22))) fun μx_13 =>
    stp (l2_22 + (1 : Int32)) fun x2_14 =>
    some (.inl (μx_13, x2_14))
def f12_keeps_j22 (l1 : Int32) (μ_22 : Sto) (l2_22 : Int32) : Option (Sto) :=
  bnd (loopF (fun s_22 => f12_keeps_b22 l1 s_22.1 s_22.2) FU (μ_22, l2_22)) fun r_22 =>
    stp (0 : Int32) fun x2_15 =>
    f12_keeps_j56 l1 r_22 x2_15
def f12_keeps (μ : Sto) (l1 : Int32) : Option (Sto) :=
  gd (inb l1 301) <|
  stp (uA μ 2037 (Int32.toNatClampNeg l1) (fI μ 2017 5)) fun μx_16 =>
  gd (inb l1 301) <|
  stp (uA μx_16 2039 (Int32.toNatClampNeg l1) (fI μx_16 2017 6)) fun μx_17 =>
  stp (0 : Int32) fun x2_18 =>
  f12_keeps_j22 l1 μx_17 x2_18
set_option maxHeartbeats 4000000 in
set_option maxRecDepth 100000 in
theorem k12_keeps {l : Launch} {K : JK} (hl : l.stackTraces = false) {σ μ : Sto} {o : Int64} {l1 : Int32}  {Qf : Sto → Prop} (h : Ok (f12_keeps μ l1) Qf) : Con l K yX12_keeps (.code yX12_keeps cX12_keeps 3 none :: TB) 0 0 0 False [.ref (K.2.2 + 2017), .int l1] 2055 (jw K σ μ o) (PR Qf (fun p => none) (fun p => jw K σ p o)) PN := by
  refine Con.enter (own := RX12) hl (by decide) rfl (Nat.le_of_ble_eq_true rfl) ?_
  intro X hX hR C hret hnt
  generalize hQQ : jQ X K 0 0 (PR Qf (fun p => none) (fun p => jw K σ p o)) PN False = QQ
  change J X K 3 False QQ 0 0 2055 (jw K σ μ o) 0 [(0, .ref (K.2.2 + 2017)), (1, .int l1)] []
  have hj_135 : (∀ (μ_135 : Sto) (l2_135 : Int32), Ok (f12_keeps_j135 l1 μ_135 l2_135) Qf → J X K 3 False QQ 0 0 2055 (jw K σ μ_135 o) 135 [(0, .ref (K.2.2 + 2017)), (1, .int l1), (2, .int l2_135)] []) := by
    intro μ_135 l2_135 h
    unfold f12_keeps_j135 at h
    refine loop_gen (S := Sto × Int32) (P := fun s_135 => J X K 3 False QQ 0 0 2055 (jw K σ s_135.1 o) 135 [(0, .ref (K.2.2 + 2017)), (1, .int l1), (2, .int s_135.2)] []) ?_ FU (μ_135, l2_135) (Ok.ofbnd h)
    intro B_135 hB_135 hE_135 s_135 h
    obtain ⟨μ_135, l2_135⟩ := s_135
    have h : Ok (f12_keeps_b135 l1 μ_135 l2_135) B_135 := h
    change J X K 3 False QQ 0 0 2055 (jw K σ μ_135 o) 135 [(0, .ref (K.2.2 + 2017)), (1, .int l1), (2, .int l2_135)] []
    unfold f12_keeps_b135 at h
    refine J_iload_n (i := 2) (p := 2) C dX12_keeps_135 rfl rfl rfl ?_
    refine J_sipush (v := 300) C (by decide) dX12_keeps_136 rfl ?_
    refine J_icmp_ge (t := 166) C dX12_keeps_139 (by decide) rfl (fun c_1 => ?_) (fun c_1 => ?_)
    · have h := h.pos c_1
      have h := hE_135 μ_135 h.osome
      try dsimp only at h
      rw [← hQQ]
      exact J_vret C hret (Nat.le_of_ble_eq_true rfl) (Nat.le_of_ble_eq_true rfl) ⟨_, h.osome, rfl, rfl, rfl⟩ dX12_keeps_166
    · have h := h.neg c_1
      refine J_aload_n (i := 0) (p := 0) C dX12_keeps_142 rfl rfl rfl ?_
      refine Jm_getS (o2 := 25) (r2 := 2042) C fp_RX12_95 rfl rfl rfl dX12_keeps_143 rfl ?_
      refine J_sipush (v := 300) C (by decide) dX12_keeps_146 rfl ?_
      refine J_iload_n (i := 1) (p := 1) C dX12_keeps_149 rfl rfl rfl ?_
      refine J_imul C dX12_keeps_150 rfl ?_
      refine J_iload_n (i := 2) (p := 2) C dX12_keeps_151 rfl rfl rfl ?_
      refine J_iadd C dX12_keeps_152 rfl ?_
      refine J_aload_n (i := 0) (p := 0) C dX12_keeps_153 rfl rfl rfl ?_
      refine Jm_getS (o2 := 5) (r2 := 2022) C fp_RX12_23 rfl rfl rfl dX12_keeps_154 rfl ?_
      refine J_iload_n (i := 2) (p := 2) C dX12_keeps_157 rfl rfl rfl ?_
      obtain ⟨g_2, h⟩ := Ok.ofgd h
      refine Jm_zald C rfl rfl g_2 dX12_keeps_158 rfl ?_
      obtain ⟨g_3, h⟩ := Ok.ofgd h
      obtain ⟨μx_1, e_μx_1, h⟩ := Ok.nm h
      refine Jm_zast C id rfl rfl g_3 e_μx_1 dX12_keeps_159 rfl ?_
      obtain ⟨x2_2, e_x2_2, h⟩ := Ok.nm h
      refine J_iincE (i := 2) (p := 2) (lv' := [(2, .int x2_2), (0, .ref (K.2.2 + 2017)), (1, .int l1)]) C e_x2_2 dX12_keeps_160 rfl (by decide) (Nat.le_of_ble_eq_true rfl) rfl rfl ?_
      refine J_goto (t := 135) C dX12_keeps_163 (by decide) ?_
      refine J.sub [1, 2, 0] rfl ?_
      exact hB_135 (μx_1, x2_2) h.osome
  have hj_87 : (∀ (μ_87 : Sto) (l2_87 : Int32), Ok (f12_keeps_j87 l1 μ_87 l2_87) Qf → J X K 3 False QQ 0 0 2055 (jw K σ μ_87 o) 87 [(0, .ref (K.2.2 + 2017)), (1, .int l1), (2, .int l2_87)] []) := by
    intro μ_87 l2_87 h
    unfold f12_keeps_j87 at h
    refine loop_gen (S := Sto × Int32) (P := fun s_87 => J X K 3 False QQ 0 0 2055 (jw K σ s_87.1 o) 87 [(0, .ref (K.2.2 + 2017)), (1, .int l1), (2, .int s_87.2)] []) ?_ FU (μ_87, l2_87) (Ok.ofbnd h)
    intro B_87 hB_87 hE_87 s_87 h
    obtain ⟨μ_87, l2_87⟩ := s_87
    have h : Ok (f12_keeps_b87 l1 μ_87 l2_87) B_87 := h
    change J X K 3 False QQ 0 0 2055 (jw K σ μ_87 o) 87 [(0, .ref (K.2.2 + 2017)), (1, .int l1), (2, .int l2_87)] []
    unfold f12_keeps_b87 at h
    refine J_iload_n (i := 2) (p := 2) C dX12_keeps_87 rfl rfl rfl ?_
    refine J_bipush (v := 16) C (by decide) dX12_keeps_88 rfl ?_
    refine J_icmp_ge (t := 133) C dX12_keeps_90 (by decide) rfl (fun c_4 => ?_) (fun c_4 => ?_)
    · have h := h.pos c_4
      have h := hE_87 μ_87 h.osome
      try dsimp only at h
      refine J_iconst (v := 0) C (by decide) dX12_keeps_133 rfl ?_
      obtain ⟨x2_3, e_x2_3, h⟩ := Ok.nm h
      refine J_istoreE_n (i := 2) (lv' := [(2, .int x2_3), (0, .ref (K.2.2 + 2017)), (1, .int l1)]) C e_x2_3 dX12_keeps_134 rfl (Nat.le_of_ble_eq_true rfl) rfl rfl ?_
      refine J.sub [1, 2, 0] rfl ?_
      exact hj_135 μ_87 x2_3 h
    · have h := h.neg c_4
      refine J_aload_n (i := 0) (p := 0) C dX12_keeps_93 rfl rfl rfl ?_
      refine Jm_getS (o2 := 23) (r2 := 2040) C fp_RX12_88 rfl rfl rfl dX12_keeps_94 rfl ?_
      refine J_bipush (v := 16) C (by decide) dX12_keeps_97 rfl ?_
      refine J_iload_n (i := 1) (p := 1) C dX12_keeps_99 rfl rfl rfl ?_
      refine J_imul C dX12_keeps_100 rfl ?_
      refine J_iload_n (i := 2) (p := 2) C dX12_keeps_101 rfl rfl rfl ?_
      refine J_iadd C dX12_keeps_102 rfl ?_
      refine J_aload_n (i := 0) (p := 0) C dX12_keeps_103 rfl rfl rfl ?_
      refine Jm_getS (o2 := 3) (r2 := 2020) C fp_RX12_16 rfl rfl rfl dX12_keeps_104 rfl ?_
      refine J_iload_n (i := 2) (p := 2) C dX12_keeps_107 rfl rfl rfl ?_
      obtain ⟨g_5, h⟩ := Ok.ofgd h
      refine Jm_iald C rfl rfl g_5 dX12_keeps_108 rfl ?_
      obtain ⟨g_6, h⟩ := Ok.ofgd h
      obtain ⟨μx_4, e_μx_4, h⟩ := Ok.nm h
      refine Jm_iast C id rfl rfl g_6 e_μx_4 dX12_keeps_109 rfl ?_
      refine J_aload_n (i := 0) (p := 0) C dX12_keeps_110 rfl rfl rfl ?_
      refine Jm_getS (o2 := 24) (r2 := 2041) C fp_RX12_91 rfl rfl rfl dX12_keeps_111 rfl ?_
      refine J_bipush (v := 16) C (by decide) dX12_keeps_114 rfl ?_
      refine J_iload_n (i := 1) (p := 1) C dX12_keeps_116 rfl rfl rfl ?_
      refine J_imul C dX12_keeps_117 rfl ?_
      refine J_iload_n (i := 2) (p := 2) C dX12_keeps_118 rfl rfl rfl ?_
      refine J_iadd C dX12_keeps_119 rfl ?_
      refine J_aload_n (i := 0) (p := 0) C dX12_keeps_120 rfl rfl rfl ?_
      refine Jm_getS (o2 := 4) (r2 := 2021) C fp_RX12_19 rfl rfl rfl dX12_keeps_121 rfl ?_
      refine J_iload_n (i := 2) (p := 2) C dX12_keeps_124 rfl rfl rfl ?_
      obtain ⟨g_7, h⟩ := Ok.ofgd h
      refine Jm_zald C rfl rfl g_7 dX12_keeps_125 rfl ?_
      obtain ⟨g_8, h⟩ := Ok.ofgd h
      obtain ⟨μx_5, e_μx_5, h⟩ := Ok.nm h
      refine Jm_zast C id rfl rfl g_8 e_μx_5 dX12_keeps_126 rfl ?_
      obtain ⟨x2_6, e_x2_6, h⟩ := Ok.nm h
      refine J_iincE (i := 2) (p := 2) (lv' := [(2, .int x2_6), (0, .ref (K.2.2 + 2017)), (1, .int l1)]) C e_x2_6 dX12_keeps_127 rfl (by decide) (Nat.le_of_ble_eq_true rfl) rfl rfl ?_
      refine J_goto (t := 87) C dX12_keeps_130 (by decide) ?_
      refine J.sub [1, 2, 0] rfl ?_
      exact hB_87 (μx_5, x2_6) h.osome
  have hj_56 : (∀ (μ_56 : Sto) (l2_56 : Int32), Ok (f12_keeps_j56 l1 μ_56 l2_56) Qf → J X K 3 False QQ 0 0 2055 (jw K σ μ_56 o) 56 [(0, .ref (K.2.2 + 2017)), (1, .int l1), (2, .int l2_56)] []) := by
    intro μ_56 l2_56 h
    unfold f12_keeps_j56 at h
    refine loop_gen (S := Sto × Int32) (P := fun s_56 => J X K 3 False QQ 0 0 2055 (jw K σ s_56.1 o) 56 [(0, .ref (K.2.2 + 2017)), (1, .int l1), (2, .int s_56.2)] []) ?_ FU (μ_56, l2_56) (Ok.ofbnd h)
    intro B_56 hB_56 hE_56 s_56 h
    obtain ⟨μ_56, l2_56⟩ := s_56
    have h : Ok (f12_keeps_b56 l1 μ_56 l2_56) B_56 := h
    change J X K 3 False QQ 0 0 2055 (jw K σ μ_56 o) 56 [(0, .ref (K.2.2 + 2017)), (1, .int l1), (2, .int l2_56)] []
    unfold f12_keeps_b56 at h
    refine J_iload_n (i := 2) (p := 2) C dX12_keeps_56 rfl rfl rfl ?_
    refine J_bipush (v := 8) C (by decide) dX12_keeps_57 rfl ?_
    refine J_icmp_ge (t := 85) C dX12_keeps_59 (by decide) rfl (fun c_9 => ?_) (fun c_9 => ?_)
    · have h := h.pos c_9
      have h := hE_56 μ_56 h.osome
      try dsimp only at h
      refine J_iconst (v := 0) C (by decide) dX12_keeps_85 rfl ?_
      obtain ⟨x2_8, e_x2_8, h⟩ := Ok.nm h
      refine J_istoreE_n (i := 2) (lv' := [(2, .int x2_8), (0, .ref (K.2.2 + 2017)), (1, .int l1)]) C e_x2_8 dX12_keeps_86 rfl (Nat.le_of_ble_eq_true rfl) rfl rfl ?_
      refine J.sub [1, 2, 0] rfl ?_
      exact hj_87 μ_56 x2_8 h
    · have h := h.neg c_9
      refine J_aload_n (i := 0) (p := 0) C dX12_keeps_62 rfl rfl rfl ?_
      refine Jm_getS (o2 := 21) (r2 := 2038) C fp_RX12_82 rfl rfl rfl dX12_keeps_63 rfl ?_
      refine J_bipush (v := 8) C (by decide) dX12_keeps_66 rfl ?_
      refine J_iload_n (i := 1) (p := 1) C dX12_keeps_68 rfl rfl rfl ?_
      refine J_imul C dX12_keeps_69 rfl ?_
      refine J_iload_n (i := 2) (p := 2) C dX12_keeps_70 rfl rfl rfl ?_
      refine J_iadd C dX12_keeps_71 rfl ?_
      refine J_aload_n (i := 0) (p := 0) C dX12_keeps_72 rfl rfl rfl ?_
      refine Jm_getS (o2 := 2) (r2 := 2019) C fp_RX12_13 rfl rfl rfl dX12_keeps_73 rfl ?_
      refine J_iload_n (i := 2) (p := 2) C dX12_keeps_76 rfl rfl rfl ?_
      obtain ⟨g_10, h⟩ := Ok.ofgd h
      refine Jm_iald C rfl rfl g_10 dX12_keeps_77 rfl ?_
      obtain ⟨g_11, h⟩ := Ok.ofgd h
      obtain ⟨μx_9, e_μx_9, h⟩ := Ok.nm h
      refine Jm_iast C id rfl rfl g_11 e_μx_9 dX12_keeps_78 rfl ?_
      obtain ⟨x2_10, e_x2_10, h⟩ := Ok.nm h
      refine J_iincE (i := 2) (p := 2) (lv' := [(2, .int x2_10), (0, .ref (K.2.2 + 2017)), (1, .int l1)]) C e_x2_10 dX12_keeps_79 rfl (by decide) (Nat.le_of_ble_eq_true rfl) rfl rfl ?_
      refine J_goto (t := 56) C dX12_keeps_82 (by decide) ?_
      refine J.sub [1, 2, 0] rfl ?_
      exact hB_56 (μx_9, x2_10) h.osome
  have hj_22 : (∀ (μ_22 : Sto) (l2_22 : Int32), Ok (f12_keeps_j22 l1 μ_22 l2_22) Qf → J X K 3 False QQ 0 0 2055 (jw K σ μ_22 o) 22 [(0, .ref (K.2.2 + 2017)), (1, .int l1), (2, .int l2_22)] []) := by
    intro μ_22 l2_22 h
    unfold f12_keeps_j22 at h
    refine loop_gen (S := Sto × Int32) (P := fun s_22 => J X K 3 False QQ 0 0 2055 (jw K σ s_22.1 o) 22 [(0, .ref (K.2.2 + 2017)), (1, .int l1), (2, .int s_22.2)] []) ?_ FU (μ_22, l2_22) (Ok.ofbnd h)
    intro B_22 hB_22 hE_22 s_22 h
    obtain ⟨μ_22, l2_22⟩ := s_22
    have h : Ok (f12_keeps_b22 l1 μ_22 l2_22) B_22 := h
    change J X K 3 False QQ 0 0 2055 (jw K σ μ_22 o) 22 [(0, .ref (K.2.2 + 2017)), (1, .int l1), (2, .int l2_22)] []
    unfold f12_keeps_b22 at h
    refine J_iload_n (i := 2) (p := 2) C dX12_keeps_22 rfl rfl rfl ?_
    refine J_aload_n (i := 0) (p := 0) C dX12_keeps_23 rfl rfl rfl ?_
    refine Jm_getI C fp_RX12_138 rfl rfl dX12_keeps_24 rfl ?_
    refine J_icmp_ge (t := 54) C dX12_keeps_27 (by decide) rfl (fun c_12 => ?_) (fun c_12 => ?_)
    · have h := h.pos c_12
      have h := hE_22 μ_22 h.osome
      try dsimp only at h
      refine J_iconst (v := 0) C (by decide) dX12_keeps_54 rfl ?_
      obtain ⟨x2_12, e_x2_12, h⟩ := Ok.nm h
      refine J_istoreE_n (i := 2) (lv' := [(2, .int x2_12), (0, .ref (K.2.2 + 2017)), (1, .int l1)]) C e_x2_12 dX12_keeps_55 rfl (Nat.le_of_ble_eq_true rfl) rfl rfl ?_
      refine J.sub [1, 2, 0] rfl ?_
      exact hj_56 μ_22 x2_12 h
    · have h := h.neg c_12
      refine J_aload_n (i := 0) (p := 0) C dX12_keeps_30 rfl rfl rfl ?_
      refine Jm_getS (o2 := 19) (r2 := 2036) C fp_RX12_76 rfl rfl rfl dX12_keeps_31 rfl ?_
      refine J_sipush (v := 3000) C (by decide) dX12_keeps_34 rfl ?_
      refine J_iload_n (i := 1) (p := 1) C dX12_keeps_37 rfl rfl rfl ?_
      refine J_imul C dX12_keeps_38 rfl ?_
      refine J_iload_n (i := 2) (p := 2) C dX12_keeps_39 rfl rfl rfl ?_
      refine J_iadd C dX12_keeps_40 rfl ?_
      refine J_aload_n (i := 0) (p := 0) C dX12_keeps_41 rfl rfl rfl ?_
      refine Jm_getS (o2 := 1) (r2 := 2018) C fp_RX12_7 rfl rfl rfl dX12_keeps_42 rfl ?_
      refine J_iload_n (i := 2) (p := 2) C dX12_keeps_45 rfl rfl rfl ?_
      obtain ⟨g_13, h⟩ := Ok.ofgd h
      refine Jm_iald C rfl rfl g_13 dX12_keeps_46 rfl ?_
      obtain ⟨g_14, h⟩ := Ok.ofgd h
      obtain ⟨μx_13, e_μx_13, h⟩ := Ok.nm h
      refine Jm_iast C id rfl rfl g_14 e_μx_13 dX12_keeps_47 rfl ?_
      obtain ⟨x2_14, e_x2_14, h⟩ := Ok.nm h
      refine J_iincE (i := 2) (p := 2) (lv' := [(2, .int x2_14), (0, .ref (K.2.2 + 2017)), (1, .int l1)]) C e_x2_14 dX12_keeps_48 rfl (by decide) (Nat.le_of_ble_eq_true rfl) rfl rfl ?_
      refine J_goto (t := 22) C dX12_keeps_51 (by decide) ?_
      refine J.sub [1, 2, 0] rfl ?_
      exact hB_22 (μx_13, x2_14) h.osome
  unfold f12_keeps at h
  refine J_aload_n (i := 0) (p := 0) C dX12_keeps_0 rfl rfl rfl ?_
  refine Jm_getS (o2 := 20) (r2 := 2037) C fp_RX12_79 rfl rfl rfl dX12_keeps_1 rfl ?_
  refine J_iload_n (i := 1) (p := 1) C dX12_keeps_4 rfl rfl rfl ?_
  refine J_aload_n (i := 0) (p := 0) C dX12_keeps_5 rfl rfl rfl ?_
  refine Jm_getI C fp_RX12_138 rfl rfl dX12_keeps_6 rfl ?_
  obtain ⟨g_15, h⟩ := Ok.ofgd h
  obtain ⟨μx_16, e_μx_16, h⟩ := Ok.nm h
  refine Jm_iast C id rfl rfl g_15 e_μx_16 dX12_keeps_9 rfl ?_
  refine J_aload_n (i := 0) (p := 0) C dX12_keeps_10 rfl rfl rfl ?_
  refine Jm_getS (o2 := 22) (r2 := 2039) C fp_RX12_85 rfl rfl rfl dX12_keeps_11 rfl ?_
  refine J_iload_n (i := 1) (p := 1) C dX12_keeps_14 rfl rfl rfl ?_
  refine J_aload_n (i := 0) (p := 0) C dX12_keeps_15 rfl rfl rfl ?_
  refine Jm_getI C fp_RX12_26 rfl rfl dX12_keeps_16 rfl ?_
  obtain ⟨g_16, h⟩ := Ok.ofgd h
  obtain ⟨μx_17, e_μx_17, h⟩ := Ok.nm h
  refine Jm_iast C id rfl rfl g_16 e_μx_17 dX12_keeps_19 rfl ?_
  refine J_iconst (v := 0) C (by decide) dX12_keeps_20 rfl ?_
  obtain ⟨x2_18, e_x2_18, h⟩ := Ok.nm h
  refine J_istoreE_n (i := 2) (lv' := [(2, .int x2_18), (0, .ref (K.2.2 + 2017)), (1, .int l1)]) C e_x2_18 dX12_keeps_21 rfl (Nat.le_of_ble_eq_true rfl) rfl rfl ?_
  refine J.sub [1, 2, 0] rfl ?_
  exact hj_22 μx_17 x2_18 h
def f12_brings_b135 (l1 : Int32) (μ_135 : Sto) (l2_135 : Int32) : Option ((Sto × Int32) ⊕ Sto) :=
  if (300 : Int32) ≤ l2_135 then
    some (.inr μ_135)
  else
    gd (inb (((300 : Int32) * l1) + l2_135) 90601) <|
    gd (inb l2_135 301) <|
    stp (uA μ_135 2022 (Int32.toNatClampNeg l2_135) (vp_nar .boolean (aI μ_135 2042 (Int32.toNatClampNeg (((300 : Int32) * l1) + l2_135))))) fun μx_1 =>
    stp (l2_135 + (1 : Int32)) fun x2_2 =>
    some (.inl (μx_1, x2_2))
def f12_brings_j135 (l1 : Int32) (μ_135 : Sto) (l2_135 : Int32) : Option (Sto) :=
  bnd (loopF (fun s_135 => f12_brings_b135 l1 s_135.1 s_135.2) FU (μ_135, l2_135)) fun r_135 =>
    some r_135
def f12_brings_b87 (l1 : Int32) (μ_87 : Sto) (l2_87 : Int32) : Option ((Sto × Int32) ⊕ Sto) :=
  if (16 : Int32) ≤ l2_87 then
    some (.inr μ_87)
  else
    gd (inb (((16 : Int32) * l1) + l2_87) 4816) <|
    gd (inb l2_87 16) <|
    stp (uA μ_87 2020 (Int32.toNatClampNeg l2_87) (aI μ_87 2040 (Int32.toNatClampNeg (((16 : Int32) * l1) + l2_87)))) fun μx_4 =>
    gd (inb (((16 : Int32) * l1) + l2_87) 4816) <|
    gd (inb l2_87 16) <|
    stp (uA μx_4 2021 (Int32.toNatClampNeg l2_87) (vp_nar .boolean (aI μx_4 2041 (Int32.toNatClampNeg (((16 : Int32) * l1) + l2_87))))) fun μx_5 =>
    stp (l2_87 + (1 : Int32)) fun x2_6 =>
    some (.inl (μx_5, x2_6))
def f12_brings_j87 (l1 : Int32) (μ_87 : Sto) (l2_87 : Int32) : Option (Sto) :=
  bnd (loopF (fun s_87 => f12_brings_b87 l1 s_87.1 s_87.2) FU (μ_87, l2_87)) fun r_87 =>
    stp (0 : Int32) fun x2_7 =>
    f12_brings_j135 l1 r_87 x2_7
def f12_brings_b56 (l1 : Int32) (μ_56 : Sto) (l2_56 : Int32) : Option ((Sto × Int32) ⊕ Sto) :=
  if (8 : Int32) ≤ l2_56 then
    some (.inr μ_56)
  else
    gd (inb (((8 : Int32) * l1) + l2_56) 2408) <|
    gd (inb l2_56 8) <|
    stp (uA μ_56 2019 (Int32.toNatClampNeg l2_56) (aI μ_56 2038 (Int32.toNatClampNeg (((8 : Int32) * l1) + l2_56)))) fun μx_9 =>
    stp (l2_56 + (1 : Int32)) fun x2_10 =>
    some (.inl (μx_9, x2_10))
def f12_brings_j56 (l1 : Int32) (μ_56 : Sto) (l2_56 : Int32) : Option (Sto) :=
  bnd (loopF (fun s_56 => f12_brings_b56 l1 s_56.1 s_56.2) FU (μ_56, l2_56)) fun r_56 =>
    stp (0 : Int32) fun x2_11 =>
    f12_brings_j87 l1 r_56 x2_11
def f12_brings_b22 (l1 : Int32) (μ_22 : Sto) (l2_22 : Int32) : Option ((Sto × Int32) ⊕ Sto) :=
  if (fI μ_22 2017 5) ≤ l2_22 then
    some (.inr μ_22)
  else
    gd (inb (((3000 : Int32) * l1) + l2_22) 903000) <|
    gd (inb l2_22 3000) <|
    stp (uA μ_22 2018 (Int32.toNatClampNeg l2_22) (aI μ_22 2036 (Int32.toNatClampNeg (((3000 : Int32) * l1) + l2_22)))) fun μx_13 =>
    stp (l2_22 + (1 : Int32)) fun x2_14 =>
    some (.inl (μx_13, x2_14))
def f12_brings_j22 (l1 : Int32) (μ_22 : Sto) (l2_22 : Int32) : Option (Sto) :=
  bnd (loopF (fun s_22 => f12_brings_b22 l1 s_22.1 s_22.2) FU (μ_22, l2_22)) fun r_22 =>
    stp (0 : Int32) fun x2_15 =>
    f12_brings_j56 l1 r_22 x2_15
def f12_brings (μ : Sto) (l1 : Int32) : Option (Sto) :=
  gd (inb l1 301) <|
  stp (uI μ 2017 5 (aI μ 2037 (Int32.toNatClampNeg l1))) fun μx_16 =>
  gd (inb l1 301) <|
  stp (uI μx_16 2017 6 (aI μx_16 2039 (Int32.toNatClampNeg l1))) fun μx_17 =>
  stp (0 : Int32) fun x2_18 =>
  f12_brings_j22 l1 μx_17 x2_18
set_option maxHeartbeats 4000000 in
set_option maxRecDepth 100000 in
theorem k12_brings {l : Launch} {K : JK} (hl : l.stackTraces = false) {σ μ : Sto} {o : Int64} {l1 : Int32}  {Qf : Sto → Prop} (h : Ok (f12_brings μ l1) Qf) : Con l K yX12_brings (.code yX12_brings cX12_brings 3 none :: TB) 0 0 0 False [.ref (K.2.2 + 2017), .int l1] 2055 (jw K σ μ o) (PR Qf (fun p => none) (fun p => jw K σ p o)) PN := by
  refine Con.enter (own := RX12) hl (by decide) rfl (Nat.le_of_ble_eq_true rfl) ?_
  intro X hX hR C hret hnt
  generalize hQQ : jQ X K 0 0 (PR Qf (fun p => none) (fun p => jw K σ p o)) PN False = QQ
  change J X K 3 False QQ 0 0 2055 (jw K σ μ o) 0 [(0, .ref (K.2.2 + 2017)), (1, .int l1)] []
  have hj_135 : (∀ (μ_135 : Sto) (l2_135 : Int32), Ok (f12_brings_j135 l1 μ_135 l2_135) Qf → J X K 3 False QQ 0 0 2055 (jw K σ μ_135 o) 135 [(0, .ref (K.2.2 + 2017)), (1, .int l1), (2, .int l2_135)] []) := by
    intro μ_135 l2_135 h
    unfold f12_brings_j135 at h
    refine loop_gen (S := Sto × Int32) (P := fun s_135 => J X K 3 False QQ 0 0 2055 (jw K σ s_135.1 o) 135 [(0, .ref (K.2.2 + 2017)), (1, .int l1), (2, .int s_135.2)] []) ?_ FU (μ_135, l2_135) (Ok.ofbnd h)
    intro B_135 hB_135 hE_135 s_135 h
    obtain ⟨μ_135, l2_135⟩ := s_135
    have h : Ok (f12_brings_b135 l1 μ_135 l2_135) B_135 := h
    change J X K 3 False QQ 0 0 2055 (jw K σ μ_135 o) 135 [(0, .ref (K.2.2 + 2017)), (1, .int l1), (2, .int l2_135)] []
    unfold f12_brings_b135 at h
    refine J_iload_n (i := 2) (p := 2) C dX12_brings_135 rfl rfl rfl ?_
    refine J_sipush (v := 300) C (by decide) dX12_brings_136 rfl ?_
    refine J_icmp_ge (t := 166) C dX12_brings_139 (by decide) rfl (fun c_1 => ?_) (fun c_1 => ?_)
    · have h := h.pos c_1
      have h := hE_135 μ_135 h.osome
      try dsimp only at h
      rw [← hQQ]
      exact J_vret C hret (Nat.le_of_ble_eq_true rfl) (Nat.le_of_ble_eq_true rfl) ⟨_, h.osome, rfl, rfl, rfl⟩ dX12_brings_166
    · have h := h.neg c_1
      refine J_aload_n (i := 0) (p := 0) C dX12_brings_142 rfl rfl rfl ?_
      refine Jm_getS (o2 := 5) (r2 := 2022) C fp_RX12_23 rfl rfl rfl dX12_brings_143 rfl ?_
      refine J_iload_n (i := 2) (p := 2) C dX12_brings_146 rfl rfl rfl ?_
      refine J_aload_n (i := 0) (p := 0) C dX12_brings_147 rfl rfl rfl ?_
      refine Jm_getS (o2 := 25) (r2 := 2042) C fp_RX12_95 rfl rfl rfl dX12_brings_148 rfl ?_
      refine J_sipush (v := 300) C (by decide) dX12_brings_151 rfl ?_
      refine J_iload_n (i := 1) (p := 1) C dX12_brings_154 rfl rfl rfl ?_
      refine J_imul C dX12_brings_155 rfl ?_
      refine J_iload_n (i := 2) (p := 2) C dX12_brings_156 rfl rfl rfl ?_
      refine J_iadd C dX12_brings_157 rfl ?_
      obtain ⟨g_2, h⟩ := Ok.ofgd h
      refine Jm_zald C rfl rfl g_2 dX12_brings_158 rfl ?_
      obtain ⟨g_3, h⟩ := Ok.ofgd h
      obtain ⟨μx_1, e_μx_1, h⟩ := Ok.nm h
      refine Jm_zast C id rfl rfl g_3 e_μx_1 dX12_brings_159 rfl ?_
      obtain ⟨x2_2, e_x2_2, h⟩ := Ok.nm h
      refine J_iincE (i := 2) (p := 2) (lv' := [(2, .int x2_2), (0, .ref (K.2.2 + 2017)), (1, .int l1)]) C e_x2_2 dX12_brings_160 rfl (by decide) (Nat.le_of_ble_eq_true rfl) rfl rfl ?_
      refine J_goto (t := 135) C dX12_brings_163 (by decide) ?_
      refine J.sub [1, 2, 0] rfl ?_
      exact hB_135 (μx_1, x2_2) h.osome
  have hj_87 : (∀ (μ_87 : Sto) (l2_87 : Int32), Ok (f12_brings_j87 l1 μ_87 l2_87) Qf → J X K 3 False QQ 0 0 2055 (jw K σ μ_87 o) 87 [(0, .ref (K.2.2 + 2017)), (1, .int l1), (2, .int l2_87)] []) := by
    intro μ_87 l2_87 h
    unfold f12_brings_j87 at h
    refine loop_gen (S := Sto × Int32) (P := fun s_87 => J X K 3 False QQ 0 0 2055 (jw K σ s_87.1 o) 87 [(0, .ref (K.2.2 + 2017)), (1, .int l1), (2, .int s_87.2)] []) ?_ FU (μ_87, l2_87) (Ok.ofbnd h)
    intro B_87 hB_87 hE_87 s_87 h
    obtain ⟨μ_87, l2_87⟩ := s_87
    have h : Ok (f12_brings_b87 l1 μ_87 l2_87) B_87 := h
    change J X K 3 False QQ 0 0 2055 (jw K σ μ_87 o) 87 [(0, .ref (K.2.2 + 2017)), (1, .int l1), (2, .int l2_87)] []
    unfold f12_brings_b87 at h
    refine J_iload_n (i := 2) (p := 2) C dX12_brings_87 rfl rfl rfl ?_
    refine J_bipush (v := 16) C (by decide) dX12_brings_88 rfl ?_
    refine J_icmp_ge (t := 133) C dX12_brings_90 (by decide) rfl (fun c_4 => ?_) (fun c_4 => ?_)
    · have h := h.pos c_4
      have h := hE_87 μ_87 h.osome
      try dsimp only at h
      refine J_iconst (v := 0) C (by decide) dX12_brings_133 rfl ?_
      obtain ⟨x2_3, e_x2_3, h⟩ := Ok.nm h
      refine J_istoreE_n (i := 2) (lv' := [(2, .int x2_3), (0, .ref (K.2.2 + 2017)), (1, .int l1)]) C e_x2_3 dX12_brings_134 rfl (Nat.le_of_ble_eq_true rfl) rfl rfl ?_
      refine J.sub [1, 2, 0] rfl ?_
      exact hj_135 μ_87 x2_3 h
    · have h := h.neg c_4
      refine J_aload_n (i := 0) (p := 0) C dX12_brings_93 rfl rfl rfl ?_
      refine Jm_getS (o2 := 3) (r2 := 2020) C fp_RX12_16 rfl rfl rfl dX12_brings_94 rfl ?_
      refine J_iload_n (i := 2) (p := 2) C dX12_brings_97 rfl rfl rfl ?_
      refine J_aload_n (i := 0) (p := 0) C dX12_brings_98 rfl rfl rfl ?_
      refine Jm_getS (o2 := 23) (r2 := 2040) C fp_RX12_88 rfl rfl rfl dX12_brings_99 rfl ?_
      refine J_bipush (v := 16) C (by decide) dX12_brings_102 rfl ?_
      refine J_iload_n (i := 1) (p := 1) C dX12_brings_104 rfl rfl rfl ?_
      refine J_imul C dX12_brings_105 rfl ?_
      refine J_iload_n (i := 2) (p := 2) C dX12_brings_106 rfl rfl rfl ?_
      refine J_iadd C dX12_brings_107 rfl ?_
      obtain ⟨g_5, h⟩ := Ok.ofgd h
      refine Jm_iald C rfl rfl g_5 dX12_brings_108 rfl ?_
      obtain ⟨g_6, h⟩ := Ok.ofgd h
      obtain ⟨μx_4, e_μx_4, h⟩ := Ok.nm h
      refine Jm_iast C id rfl rfl g_6 e_μx_4 dX12_brings_109 rfl ?_
      refine J_aload_n (i := 0) (p := 0) C dX12_brings_110 rfl rfl rfl ?_
      refine Jm_getS (o2 := 4) (r2 := 2021) C fp_RX12_19 rfl rfl rfl dX12_brings_111 rfl ?_
      refine J_iload_n (i := 2) (p := 2) C dX12_brings_114 rfl rfl rfl ?_
      refine J_aload_n (i := 0) (p := 0) C dX12_brings_115 rfl rfl rfl ?_
      refine Jm_getS (o2 := 24) (r2 := 2041) C fp_RX12_91 rfl rfl rfl dX12_brings_116 rfl ?_
      refine J_bipush (v := 16) C (by decide) dX12_brings_119 rfl ?_
      refine J_iload_n (i := 1) (p := 1) C dX12_brings_121 rfl rfl rfl ?_
      refine J_imul C dX12_brings_122 rfl ?_
      refine J_iload_n (i := 2) (p := 2) C dX12_brings_123 rfl rfl rfl ?_
      refine J_iadd C dX12_brings_124 rfl ?_
      obtain ⟨g_7, h⟩ := Ok.ofgd h
      refine Jm_zald C rfl rfl g_7 dX12_brings_125 rfl ?_
      obtain ⟨g_8, h⟩ := Ok.ofgd h
      obtain ⟨μx_5, e_μx_5, h⟩ := Ok.nm h
      refine Jm_zast C id rfl rfl g_8 e_μx_5 dX12_brings_126 rfl ?_
      obtain ⟨x2_6, e_x2_6, h⟩ := Ok.nm h
      refine J_iincE (i := 2) (p := 2) (lv' := [(2, .int x2_6), (0, .ref (K.2.2 + 2017)), (1, .int l1)]) C e_x2_6 dX12_brings_127 rfl (by decide) (Nat.le_of_ble_eq_true rfl) rfl rfl ?_
      refine J_goto (t := 87) C dX12_brings_130 (by decide) ?_
      refine J.sub [1, 2, 0] rfl ?_
      exact hB_87 (μx_5, x2_6) h.osome
  have hj_56 : (∀ (μ_56 : Sto) (l2_56 : Int32), Ok (f12_brings_j56 l1 μ_56 l2_56) Qf → J X K 3 False QQ 0 0 2055 (jw K σ μ_56 o) 56 [(0, .ref (K.2.2 + 2017)), (1, .int l1), (2, .int l2_56)] []) := by
    intro μ_56 l2_56 h
    unfold f12_brings_j56 at h
    refine loop_gen (S := Sto × Int32) (P := fun s_56 => J X K 3 False QQ 0 0 2055 (jw K σ s_56.1 o) 56 [(0, .ref (K.2.2 + 2017)), (1, .int l1), (2, .int s_56.2)] []) ?_ FU (μ_56, l2_56) (Ok.ofbnd h)
    intro B_56 hB_56 hE_56 s_56 h
    obtain ⟨μ_56, l2_56⟩ := s_56
    have h : Ok (f12_brings_b56 l1 μ_56 l2_56) B_56 := h
    change J X K 3 False QQ 0 0 2055 (jw K σ μ_56 o) 56 [(0, .ref (K.2.2 + 2017)), (1, .int l1), (2, .int l2_56)] []
    unfold f12_brings_b56 at h
    refine J_iload_n (i := 2) (p := 2) C dX12_brings_56 rfl rfl rfl ?_
    refine J_bipush (v := 8) C (by decide) dX12_brings_57 rfl ?_
    refine J_icmp_ge (t := 85) C dX12_brings_59 (by decide) rfl (fun c_9 => ?_) (fun c_9 => ?_)
    · have h := h.pos c_9
      have h := hE_56 μ_56 h.osome
      try dsimp only at h
      refine J_iconst (v := 0) C (by decide) dX12_brings_85 rfl ?_
      obtain ⟨x2_8, e_x2_8, h⟩ := Ok.nm h
      refine J_istoreE_n (i := 2) (lv' := [(2, .int x2_8), (0, .ref (K.2.2 + 2017)), (1, .int l1)]) C e_x2_8 dX12_brings_86 rfl (Nat.le_of_ble_eq_true rfl) rfl rfl ?_
      refine J.sub [1, 2, 0] rfl ?_
      exact hj_87 μ_56 x2_8 h
    · have h := h.neg c_9
      refine J_aload_n (i := 0) (p := 0) C dX12_brings_62 rfl rfl rfl ?_
      refine Jm_getS (o2 := 2) (r2 := 2019) C fp_RX12_13 rfl rfl rfl dX12_brings_63 rfl ?_
      refine J_iload_n (i := 2) (p := 2) C dX12_brings_66 rfl rfl rfl ?_
      refine J_aload_n (i := 0) (p := 0) C dX12_brings_67 rfl rfl rfl ?_
      refine Jm_getS (o2 := 21) (r2 := 2038) C fp_RX12_82 rfl rfl rfl dX12_brings_68 rfl ?_
      refine J_bipush (v := 8) C (by decide) dX12_brings_71 rfl ?_
      refine J_iload_n (i := 1) (p := 1) C dX12_brings_73 rfl rfl rfl ?_
      refine J_imul C dX12_brings_74 rfl ?_
      refine J_iload_n (i := 2) (p := 2) C dX12_brings_75 rfl rfl rfl ?_
      refine J_iadd C dX12_brings_76 rfl ?_
      obtain ⟨g_10, h⟩ := Ok.ofgd h
      refine Jm_iald C rfl rfl g_10 dX12_brings_77 rfl ?_
      obtain ⟨g_11, h⟩ := Ok.ofgd h
      obtain ⟨μx_9, e_μx_9, h⟩ := Ok.nm h
      refine Jm_iast C id rfl rfl g_11 e_μx_9 dX12_brings_78 rfl ?_
      obtain ⟨x2_10, e_x2_10, h⟩ := Ok.nm h
      refine J_iincE (i := 2) (p := 2) (lv' := [(2, .int x2_10), (0, .ref (K.2.2 + 2017)), (1, .int l1)]) C e_x2_10 dX12_brings_79 rfl (by decide) (Nat.le_of_ble_eq_true rfl) rfl rfl ?_
      refine J_goto (t := 56) C dX12_brings_82 (by decide) ?_
      refine J.sub [1, 2, 0] rfl ?_
      exact hB_56 (μx_9, x2_10) h.osome
  have hj_22 : (∀ (μ_22 : Sto) (l2_22 : Int32), Ok (f12_brings_j22 l1 μ_22 l2_22) Qf → J X K 3 False QQ 0 0 2055 (jw K σ μ_22 o) 22 [(0, .ref (K.2.2 + 2017)), (1, .int l1), (2, .int l2_22)] []) := by
    intro μ_22 l2_22 h
    unfold f12_brings_j22 at h
    refine loop_gen (S := Sto × Int32) (P := fun s_22 => J X K 3 False QQ 0 0 2055 (jw K σ s_22.1 o) 22 [(0, .ref (K.2.2 + 2017)), (1, .int l1), (2, .int s_22.2)] []) ?_ FU (μ_22, l2_22) (Ok.ofbnd h)
    intro B_22 hB_22 hE_22 s_22 h
    obtain ⟨μ_22, l2_22⟩ := s_22
    have h : Ok (f12_brings_b22 l1 μ_22 l2_22) B_22 := h
    change J X K 3 False QQ 0 0 2055 (jw K σ μ_22 o) 22 [(0, .ref (K.2.2 + 2017)), (1, .int l1), (2, .int l2_22)] []
    unfold f12_brings_b22 at h
    refine J_iload_n (i := 2) (p := 2) C dX12_brings_22 rfl rfl rfl ?_
    refine J_aload_n (i := 0) (p := 0) C dX12_brings_23 rfl rfl rfl ?_
    refine Jm_getI C fp_RX12_138 rfl rfl dX12_brings_24 rfl ?_
    refine J_icmp_ge (t := 54) C dX12_brings_27 (by decide) rfl (fun c_12 => ?_) (fun c_12 => ?_)
    · have h := h.pos c_12
      have h := hE_22 μ_22 h.osome
      try dsimp only at h
      refine J_iconst (v := 0) C (by decide) dX12_brings_54 rfl ?_
      obtain ⟨x2_12, e_x2_12, h⟩ := Ok.nm h
      refine J_istoreE_n (i := 2) (lv' := [(2, .int x2_12), (0, .ref (K.2.2 + 2017)), (1, .int l1)]) C e_x2_12 dX12_brings_55 rfl (Nat.le_of_ble_eq_true rfl) rfl rfl ?_
      refine J.sub [1, 2, 0] rfl ?_
      exact hj_56 μ_22 x2_12 h
    · have h := h.neg c_12
      refine J_aload_n (i := 0) (p := 0) C dX12_brings_30 rfl rfl rfl ?_
      refine Jm_getS (o2 := 1) (r2 := 2018) C fp_RX12_7 rfl rfl rfl dX12_brings_31 rfl ?_
      refine J_iload_n (i := 2) (p := 2) C dX12_brings_34 rfl rfl rfl ?_
      refine J_aload_n (i := 0) (p := 0) C dX12_brings_35 rfl rfl rfl ?_
      refine Jm_getS (o2 := 19) (r2 := 2036) C fp_RX12_76 rfl rfl rfl dX12_brings_36 rfl ?_
      refine J_sipush (v := 3000) C (by decide) dX12_brings_39 rfl ?_
      refine J_iload_n (i := 1) (p := 1) C dX12_brings_42 rfl rfl rfl ?_
      refine J_imul C dX12_brings_43 rfl ?_
      refine J_iload_n (i := 2) (p := 2) C dX12_brings_44 rfl rfl rfl ?_
      refine J_iadd C dX12_brings_45 rfl ?_
      obtain ⟨g_13, h⟩ := Ok.ofgd h
      refine Jm_iald C rfl rfl g_13 dX12_brings_46 rfl ?_
      obtain ⟨g_14, h⟩ := Ok.ofgd h
      obtain ⟨μx_13, e_μx_13, h⟩ := Ok.nm h
      refine Jm_iast C id rfl rfl g_14 e_μx_13 dX12_brings_47 rfl ?_
      obtain ⟨x2_14, e_x2_14, h⟩ := Ok.nm h
      refine J_iincE (i := 2) (p := 2) (lv' := [(2, .int x2_14), (0, .ref (K.2.2 + 2017)), (1, .int l1)]) C e_x2_14 dX12_brings_48 rfl (by decide) (Nat.le_of_ble_eq_true rfl) rfl rfl ?_
      refine J_goto (t := 22) C dX12_brings_51 (by decide) ?_
      refine J.sub [1, 2, 0] rfl ?_
      exact hB_22 (μx_13, x2_14) h.osome
  unfold f12_brings at h
  refine J_aload_n (i := 0) (p := 0) C dX12_brings_0 rfl rfl rfl ?_
  refine J_aload_n (i := 0) (p := 0) C dX12_brings_1 rfl rfl rfl ?_
  refine Jm_getS (o2 := 20) (r2 := 2037) C fp_RX12_79 rfl rfl rfl dX12_brings_2 rfl ?_
  refine J_iload_n (i := 1) (p := 1) C dX12_brings_5 rfl rfl rfl ?_
  obtain ⟨g_15, h⟩ := Ok.ofgd h
  refine Jm_iald C rfl rfl g_15 dX12_brings_6 rfl ?_
  obtain ⟨μx_16, e_μx_16, h⟩ := Ok.nm h
  refine Jm_putI C id fp_RX12_138 fw_11_5 rfl rfl rfl e_μx_16 dX12_brings_7 rfl ?_
  refine J_aload_n (i := 0) (p := 0) C dX12_brings_10 rfl rfl rfl ?_
  refine J_aload_n (i := 0) (p := 0) C dX12_brings_11 rfl rfl rfl ?_
  refine Jm_getS (o2 := 22) (r2 := 2039) C fp_RX12_85 rfl rfl rfl dX12_brings_12 rfl ?_
  refine J_iload_n (i := 1) (p := 1) C dX12_brings_15 rfl rfl rfl ?_
  obtain ⟨g_16, h⟩ := Ok.ofgd h
  refine Jm_iald C rfl rfl g_16 dX12_brings_16 rfl ?_
  obtain ⟨μx_17, e_μx_17, h⟩ := Ok.nm h
  refine Jm_putI C id fp_RX12_26 fw_11_6 rfl rfl rfl e_μx_17 dX12_brings_17 rfl ?_
  refine J_iconst (v := 0) C (by decide) dX12_brings_20 rfl ?_
  obtain ⟨x2_18, e_x2_18, h⟩ := Ok.nm h
  refine J_istoreE_n (i := 2) (lv' := [(2, .int x2_18), (0, .ref (K.2.2 + 2017)), (1, .int l1)]) C e_x2_18 dX12_brings_21 rfl (Nat.le_of_ble_eq_true rfl) rfl rfl ?_
  refine J.sub [1, 2, 0] rfl ?_
  exact hj_22 μx_17 x2_18 h
def f12_ahead (l0 : Int32) : Option (Int32) :=
  some (((2 : Int32) * l0) - (2 : Int32))
set_option maxHeartbeats 4000000 in
set_option maxRecDepth 100000 in
theorem k12_ahead {l : Launch} {K : JK} (hl : l.stackTraces = false) {σ μ : Sto} {o : Int64} {l0 : Int32}  {Qf : Int32 → Prop} (h : Ok (f12_ahead l0) Qf) : Con l K yX12_ahead (.code yX12_ahead cX12_ahead 1 (some .int) :: TB) 0 0 0 False [.int l0] 2055 (jw K σ μ o) (PR Qf (fun p => some (.int p)) (fun p => jw K σ μ o)) PN := by
  refine Con.enter (own := RX12) hl (by decide) rfl (Nat.le_of_ble_eq_true rfl) ?_
  intro X hX hR C hret hnt
  generalize hQQ : jQ X K 0 0 (PR Qf (fun p => some (.int p)) (fun p => jw K σ μ o)) PN False = QQ
  change J X K 1 False QQ 0 0 2055 (jw K σ μ o) 0 [(0, .int l0)] []
  unfold f12_ahead at h
  refine J_iconst (v := 2) C (by decide) dX12_ahead_0 rfl ?_
  refine J_iload_n (i := 0) (p := 0) C dX12_ahead_1 rfl rfl rfl ?_
  refine J_imul C dX12_ahead_2 rfl ?_
  refine J_iconst (v := 2) C (by decide) dX12_ahead_3 rfl ?_
  refine J_isub C dX12_ahead_4 rfl ?_
  rw [← hQQ]
  exact J_iret C hret (Nat.le_of_ble_eq_true rfl) (Nat.le_of_ble_eq_true rfl) ⟨_, h.osome, rfl, rfl, rfl⟩ dX12_ahead_5
def f12_undone (l0 : Int32) : Option (Int32) :=
  some (((2 : Int32) * l0) - (1 : Int32))
set_option maxHeartbeats 4000000 in
set_option maxRecDepth 100000 in
theorem k12_undone {l : Launch} {K : JK} (hl : l.stackTraces = false) {σ μ : Sto} {o : Int64} {l0 : Int32}  {Qf : Int32 → Prop} (h : Ok (f12_undone l0) Qf) : Con l K yX12_undone (.code yX12_undone cX12_undone 1 (some .int) :: TB) 0 0 0 False [.int l0] 2055 (jw K σ μ o) (PR Qf (fun p => some (.int p)) (fun p => jw K σ μ o)) PN := by
  refine Con.enter (own := RX12) hl (by decide) rfl (Nat.le_of_ble_eq_true rfl) ?_
  intro X hX hR C hret hnt
  generalize hQQ : jQ X K 0 0 (PR Qf (fun p => some (.int p)) (fun p => jw K σ μ o)) PN False = QQ
  change J X K 1 False QQ 0 0 2055 (jw K σ μ o) 0 [(0, .int l0)] []
  unfold f12_undone at h
  refine J_iconst (v := 2) C (by decide) dX12_undone_0 rfl ?_
  refine J_iload_n (i := 0) (p := 0) C dX12_undone_1 rfl rfl rfl ?_
  refine J_imul C dX12_undone_2 rfl ?_
  refine J_iconst (v := 1) C (by decide) dX12_undone_3 rfl ?_
  refine J_isub C dX12_undone_4 rfl ?_
  rw [← hQQ]
  exact J_iret C hret (Nat.le_of_ble_eq_true rfl) (Nat.le_of_ble_eq_true rfl) ⟨_, h.osome, rfl, rfl, rfl⟩ dX12_undone_5
def f12_begins (μ : Sto) : Option (Sto) :=
  stp (uI μ 2017 27 (0 : Int32)) fun μx_1 =>
  stp (uI μx_1 2017 28 (0 : Int32)) fun μx_2 =>
  some μx_2
set_option maxHeartbeats 4000000 in
set_option maxRecDepth 100000 in
theorem k12_begins {l : Launch} {K : JK} (hl : l.stackTraces = false) {σ μ : Sto} {o : Int64}   {Qf : Sto → Prop} (h : Ok (f12_begins μ) Qf) : Con l K yX12_begins (.code yX12_begins cX12_begins 1 none :: TB) 0 0 0 False [.ref (K.2.2 + 2017)] 2055 (jw K σ μ o) (PR Qf (fun p => none) (fun p => jw K σ p o)) PN := by
  refine Con.enter (own := RX12) hl (by decide) rfl (Nat.le_of_ble_eq_true rfl) ?_
  intro X hX hR C hret hnt
  generalize hQQ : jQ X K 0 0 (PR Qf (fun p => none) (fun p => jw K σ p o)) PN False = QQ
  change J X K 1 False QQ 0 0 2055 (jw K σ μ o) 0 [(0, .ref (K.2.2 + 2017))] []
  unfold f12_begins at h
  refine J_aload_n (i := 0) (p := 0) C dX12_begins_0 rfl rfl rfl ?_
  refine J_iconst (v := 0) C (by decide) dX12_begins_1 rfl ?_
  obtain ⟨μx_1, e_μx_1, h⟩ := Ok.nm h
  refine Jm_putI C id fp_RX12_155 fw_11_27 rfl rfl rfl e_μx_1 dX12_begins_2 rfl ?_
  refine J_aload_n (i := 0) (p := 0) C dX12_begins_5 rfl rfl rfl ?_
  refine J_iconst (v := 0) C (by decide) dX12_begins_6 rfl ?_
  obtain ⟨μx_2, e_μx_2, h⟩ := Ok.nm h
  refine Jm_putI C id fp_RX12_158 fw_11_28 rfl rfl rfl e_μx_2 dX12_begins_7 rfl ?_
  rw [← hQQ]
  exact J_vret C hret (Nat.le_of_ble_eq_true rfl) (Nat.le_of_ble_eq_true rfl) ⟨_, h.osome, rfl, rfl, rfl⟩ dX12_begins_10
def f12_puts (μ : Sto) (l1 : Int32) : Option (Sto) :=
  gd (inb (fI μ 2017 28) 3200) <|
  stp (uA μ 2033 (Int32.toNatClampNeg (fI μ 2017 28)) l1) fun μx_1 =>
  stp (uI μx_1 2017 28 ((fI μx_1 2017 28) + (1 : Int32))) fun μx_2 =>
  some μx_2
set_option maxHeartbeats 4000000 in
set_option maxRecDepth 100000 in
theorem k12_puts {l : Launch} {K : JK} (hl : l.stackTraces = false) {σ μ : Sto} {o : Int64} {l1 : Int32}  {Qf : Sto → Prop} (h : Ok (f12_puts μ l1) Qf) : Con l K yX12_puts (.code yX12_puts cX12_puts 2 none :: TB) 0 0 0 False [.ref (K.2.2 + 2017), .int l1] 2055 (jw K σ μ o) (PR Qf (fun p => none) (fun p => jw K σ p o)) PN := by
  refine Con.enter (own := RX12) hl (by decide) rfl (Nat.le_of_ble_eq_true rfl) ?_
  intro X hX hR C hret hnt
  generalize hQQ : jQ X K 0 0 (PR Qf (fun p => none) (fun p => jw K σ p o)) PN False = QQ
  change J X K 2 False QQ 0 0 2055 (jw K σ μ o) 0 [(0, .ref (K.2.2 + 2017)), (1, .int l1)] []
  unfold f12_puts at h
  refine J_aload_n (i := 0) (p := 0) C dX12_puts_0 rfl rfl rfl ?_
  refine Jm_getS (o2 := 16) (r2 := 2033) C fp_RX12_63 rfl rfl rfl dX12_puts_1 rfl ?_
  refine J_aload_n (i := 0) (p := 0) C dX12_puts_4 rfl rfl rfl ?_
  refine Jm_getI C fp_RX12_158 rfl rfl dX12_puts_5 rfl ?_
  refine J_iload_n (i := 1) (p := 1) C dX12_puts_8 rfl rfl rfl ?_
  obtain ⟨g_1, h⟩ := Ok.ofgd h
  obtain ⟨μx_1, e_μx_1, h⟩ := Ok.nm h
  refine Jm_iast C id rfl rfl g_1 e_μx_1 dX12_puts_9 rfl ?_
  refine J_aload_n (i := 0) (p := 0) C dX12_puts_10 rfl rfl rfl ?_
  refine J_dup C rfl dX12_puts_11 rfl ?_
  refine Jm_getI C fp_RX12_158 rfl rfl dX12_puts_12 rfl ?_
  refine J_iconst (v := 1) C (by decide) dX12_puts_15 rfl ?_
  refine J_iadd C dX12_puts_16 rfl ?_
  obtain ⟨μx_2, e_μx_2, h⟩ := Ok.nm h
  refine Jm_putI C id fp_RX12_158 fw_11_28 rfl rfl rfl e_μx_2 dX12_puts_17 rfl ?_
  rw [← hQQ]
  exact J_vret C hret (Nat.le_of_ble_eq_true rfl) (Nat.le_of_ble_eq_true rfl) ⟨_, h.osome, rfl, rfl, rfl⟩ dX12_puts_20
def f12_putsTape_b2 (μ_2 : Sto) (l1_2 : Int32) : Option ((Sto × Int32) ⊕ Sto) :=
  if (fI μ_2 2017 11) ≤ l1_2 then
    some (.inr μ_2)
  else
    gd (inb l1_2 200) <|
    bnd (f12_puts μ_2 (aI μ_2 2023 (Int32.toNatClampNeg l1_2))) fun p_3 =>
    stp (l1_2 + (1 : Int32)) fun x1_1 =>
    some (.inl (p_3, x1_1))
def f12_putsTape_j2 (μ_2 : Sto) (l1_2 : Int32) : Option (Sto) :=
  bnd (loopF (fun s_2 => f12_putsTape_b2 s_2.1 s_2.2) FU (μ_2, l1_2)) fun r_2 =>
    some r_2
def f12_putsTape (μ : Sto) : Option (Sto) :=
  stp (0 : Int32) fun x1_2 =>
  f12_putsTape_j2 μ x1_2
set_option maxHeartbeats 4000000 in
set_option maxRecDepth 100000 in
theorem k12_putsTape {l : Launch} {K : JK} (hl : l.stackTraces = false) {σ μ : Sto} {o : Int64}   {Qf : Sto → Prop} (h : Ok (f12_putsTape μ) Qf) : Con l K yX12_putsTape (.code yX12_putsTape cX12_putsTape 2 none :: TB) 1 0 0 False [.ref (K.2.2 + 2017)] 2055 (jw K σ μ o) (PR Qf (fun p => none) (fun p => jw K σ p o)) PN := by
  refine Con.enter (own := RX12) hl (by decide) rfl (Nat.le_of_ble_eq_true rfl) ?_
  intro X hX hR C hret hnt
  generalize hQQ : jQ X K 0 0 (PR Qf (fun p => none) (fun p => jw K σ p o)) PN False = QQ
  change J X K 2 False QQ 0 0 2055 (jw K σ μ o) 0 [(0, .ref (K.2.2 + 2017))] []
  have hj_2 : (∀ (μ_2 : Sto) (l1_2 : Int32), Ok (f12_putsTape_j2 μ_2 l1_2) Qf → J X K 2 False QQ 0 0 2055 (jw K σ μ_2 o) 2 [(0, .ref (K.2.2 + 2017)), (1, .int l1_2)] []) := by
    intro μ_2 l1_2 h
    unfold f12_putsTape_j2 at h
    refine loop_gen (S := Sto × Int32) (P := fun s_2 => J X K 2 False QQ 0 0 2055 (jw K σ s_2.1 o) 2 [(0, .ref (K.2.2 + 2017)), (1, .int s_2.2)] []) ?_ FU (μ_2, l1_2) (Ok.ofbnd h)
    intro B_2 hB_2 hE_2 s_2 h
    obtain ⟨μ_2, l1_2⟩ := s_2
    have h : Ok (f12_putsTape_b2 μ_2 l1_2) B_2 := h
    change J X K 2 False QQ 0 0 2055 (jw K σ μ_2 o) 2 [(0, .ref (K.2.2 + 2017)), (1, .int l1_2)] []
    unfold f12_putsTape_b2 at h
    refine J_iload_n (i := 1) (p := 1) C dX12_putsTape_2 rfl rfl rfl ?_
    refine J_aload_n (i := 0) (p := 0) C dX12_putsTape_3 rfl rfl rfl ?_
    refine Jm_getI C fp_RX12_161 rfl rfl dX12_putsTape_4 rfl ?_
    refine J_icmp_ge (t := 26) C dX12_putsTape_7 (by decide) rfl (fun c_1 => ?_) (fun c_1 => ?_)
    · have h := h.pos c_1
      have h := hE_2 μ_2 h.osome
      try dsimp only at h
      rw [← hQQ]
      exact J_vret C hret (Nat.le_of_ble_eq_true rfl) (Nat.le_of_ble_eq_true rfl) ⟨_, h.osome, rfl, rfl, rfl⟩ dX12_putsTape_26
    · have h := h.neg c_1
      refine J_aload_n (i := 0) (p := 0) C dX12_putsTape_10 rfl rfl rfl ?_
      refine J_aload_n (i := 0) (p := 0) C dX12_putsTape_11 rfl rfl rfl ?_
      refine Jm_getS (o2 := 6) (r2 := 2023) C fp_RX12_30 rfl rfl rfl dX12_putsTape_12 rfl ?_
      refine J_iload_n (i := 1) (p := 1) C dX12_putsTape_15 rfl rfl rfl ?_
      obtain ⟨g_2, h⟩ := Ok.ofgd h
      refine Jm_iald C rfl rfl g_2 dX12_putsTape_16 rfl ?_
      refine Jm_cV (rest := []) (st9 := fun p_3 => []) C hR hX cv_RX12_164 rfl (Nat.le_of_ble_eq_true rfl) (k12_puts hl  (Ok.ofbnd h)) rfl rfl (Nat.le_of_ble_eq_true rfl) (Nat.le_of_ble_eq_true rfl) (Nat.le_of_ble_eq_true rfl) ⟨(Nat.le_of_ble_eq_true rfl), (Nat.le_of_ble_eq_true rfl)⟩ dX12_putsTape_17 rfl (fun E n9 w9 hx => JT_n hx) (fun _ => rfl) (fun p_3 h => ?_)
      have h : Ok _ _ := h
      change J X K 2 False QQ 0 0 2055 (jw K σ p_3 o) 20 [(0, .ref (K.2.2 + 2017)), (1, .int l1_2)] []
      obtain ⟨x1_1, e_x1_1, h⟩ := Ok.nm h
      refine J_iincE (i := 1) (p := 1) (lv' := [(1, .int x1_1), (0, .ref (K.2.2 + 2017))]) C e_x1_1 dX12_putsTape_20 rfl (by decide) (Nat.le_of_ble_eq_true rfl) rfl rfl ?_
      refine J_goto (t := 2) C dX12_putsTape_23 (by decide) ?_
      refine J.sub [1, 0] rfl ?_
      exact hB_2 (p_3, x1_1) h.osome
  unfold f12_putsTape at h
  refine J_iconst (v := 0) C (by decide) dX12_putsTape_0 rfl ?_
  obtain ⟨x1_2, e_x1_2, h⟩ := Ok.nm h
  refine J_istoreE_n (i := 1) (lv' := [(1, .int x1_2), (0, .ref (K.2.2 + 2017))]) C e_x1_2 dX12_putsTape_1 rfl (Nat.le_of_ble_eq_true rfl) rfl rfl ?_
  refine J.sub [1, 0] rfl ?_
  exact hj_2 μ x1_2 h
def f12_adds_j11 (l1 : Int32) (l2 : Int32) (l3 : Int32) (l4 : Int32) (μ_11 : Sto) : Option (Sto) :=
  gd (inb (fI μ_11 2017 27) 3001) <|
  stp (uA μ_11 2029 (Int32.toNatClampNeg (fI μ_11 2017 27)) l1) fun μx_1 =>
  gd (inb (fI μx_1 2017 27) 3001) <|
  stp (uA μx_1 2030 (Int32.toNatClampNeg (fI μx_1 2017 27)) l2) fun μx_2 =>
  gd (inb (fI μx_2 2017 27) 3001) <|
  stp (uA μx_2 2031 (Int32.toNatClampNeg (fI μx_2 2017 27)) l3) fun μx_3 =>
  gd (inb (fI μx_3 2017 27) 3001) <|
  stp (uA μx_3 2032 (Int32.toNatClampNeg (fI μx_3 2017 27)) l4) fun μx_4 =>
  stp (uI μx_4 2017 27 ((fI μx_4 2017 27) + (1 : Int32))) fun μx_5 =>
  some μx_5
def f12_adds (μ : Sto) (l1 : Int32) (l2 : Int32) (l3 : Int32) (l4 : Int32) : Option (Sto) :=
  if l1 = l2 then
    if l4 = 0 then
      some μ
    else
      f12_adds_j11 l1 l2 l3 l4 μ
  else
    f12_adds_j11 l1 l2 l3 l4 μ
set_option maxHeartbeats 4000000 in
set_option maxRecDepth 100000 in
theorem k12_adds {l : Launch} {K : JK} (hl : l.stackTraces = false) {σ μ : Sto} {o : Int64} {l1 : Int32} {l2 : Int32} {l3 : Int32} {l4 : Int32}  {Qf : Sto → Prop} (h : Ok (f12_adds μ l1 l2 l3 l4) Qf) : Con l K yX12_adds (.code yX12_adds cX12_adds 5 none :: TB) 0 0 0 False [.ref (K.2.2 + 2017), .int l1, .int l2, .int l3, .int l4] 2055 (jw K σ μ o) (PR Qf (fun p => none) (fun p => jw K σ p o)) PN := by
  refine Con.enter (own := RX12) hl (by decide) rfl (Nat.le_of_ble_eq_true rfl) ?_
  intro X hX hR C hret hnt
  generalize hQQ : jQ X K 0 0 (PR Qf (fun p => none) (fun p => jw K σ p o)) PN False = QQ
  change J X K 5 False QQ 0 0 2055 (jw K σ μ o) 0 [(0, .ref (K.2.2 + 2017)), (1, .int l1), (2, .int l2), (3, .int l3), (4, .int l4)] []
  have hj_11 : (∀ (μ_11 : Sto), Ok (f12_adds_j11 l1 l2 l3 l4 μ_11) Qf → J X K 5 False QQ 0 0 2055 (jw K σ μ_11 o) 11 [(0, .ref (K.2.2 + 2017)), (1, .int l1), (2, .int l2), (3, .int l3), (4, .int l4)] []) := by
    intro μ_11 h
    unfold f12_adds_j11 at h
    refine J_aload_n (i := 0) (p := 0) C dX12_adds_11 rfl rfl rfl ?_
    refine Jm_getS (o2 := 12) (r2 := 2029) C fp_RX12_51 rfl rfl rfl dX12_adds_12 rfl ?_
    refine J_aload_n (i := 0) (p := 0) C dX12_adds_15 rfl rfl rfl ?_
    refine Jm_getI C fp_RX12_155 rfl rfl dX12_adds_16 rfl ?_
    refine J_iload_n (i := 1) (p := 1) C dX12_adds_19 rfl rfl rfl ?_
    obtain ⟨g_1, h⟩ := Ok.ofgd h
    obtain ⟨μx_1, e_μx_1, h⟩ := Ok.nm h
    refine Jm_iast C id rfl rfl g_1 e_μx_1 dX12_adds_20 rfl ?_
    refine J_aload_n (i := 0) (p := 0) C dX12_adds_21 rfl rfl rfl ?_
    refine Jm_getS (o2 := 13) (r2 := 2030) C fp_RX12_54 rfl rfl rfl dX12_adds_22 rfl ?_
    refine J_aload_n (i := 0) (p := 0) C dX12_adds_25 rfl rfl rfl ?_
    refine Jm_getI C fp_RX12_155 rfl rfl dX12_adds_26 rfl ?_
    refine J_iload_n (i := 2) (p := 2) C dX12_adds_29 rfl rfl rfl ?_
    obtain ⟨g_2, h⟩ := Ok.ofgd h
    obtain ⟨μx_2, e_μx_2, h⟩ := Ok.nm h
    refine Jm_iast C id rfl rfl g_2 e_μx_2 dX12_adds_30 rfl ?_
    refine J_aload_n (i := 0) (p := 0) C dX12_adds_31 rfl rfl rfl ?_
    refine Jm_getS (o2 := 14) (r2 := 2031) C fp_RX12_57 rfl rfl rfl dX12_adds_32 rfl ?_
    refine J_aload_n (i := 0) (p := 0) C dX12_adds_35 rfl rfl rfl ?_
    refine Jm_getI C fp_RX12_155 rfl rfl dX12_adds_36 rfl ?_
    refine J_iload_n (i := 3) (p := 3) C dX12_adds_39 rfl rfl rfl ?_
    obtain ⟨g_3, h⟩ := Ok.ofgd h
    obtain ⟨μx_3, e_μx_3, h⟩ := Ok.nm h
    refine Jm_iast C id rfl rfl g_3 e_μx_3 dX12_adds_40 rfl ?_
    refine J_aload_n (i := 0) (p := 0) C dX12_adds_41 rfl rfl rfl ?_
    refine Jm_getS (o2 := 15) (r2 := 2032) C fp_RX12_60 rfl rfl rfl dX12_adds_42 rfl ?_
    refine J_aload_n (i := 0) (p := 0) C dX12_adds_45 rfl rfl rfl ?_
    refine Jm_getI C fp_RX12_155 rfl rfl dX12_adds_46 rfl ?_
    refine J_iload (i := 4) (p := 4) C dX12_adds_49 rfl rfl ?_
    obtain ⟨g_4, h⟩ := Ok.ofgd h
    obtain ⟨μx_4, e_μx_4, h⟩ := Ok.nm h
    refine Jm_iast C id rfl rfl g_4 e_μx_4 dX12_adds_51 rfl ?_
    refine J_aload_n (i := 0) (p := 0) C dX12_adds_52 rfl rfl rfl ?_
    refine J_dup C rfl dX12_adds_53 rfl ?_
    refine Jm_getI C fp_RX12_155 rfl rfl dX12_adds_54 rfl ?_
    refine J_iconst (v := 1) C (by decide) dX12_adds_57 rfl ?_
    refine J_iadd C dX12_adds_58 rfl ?_
    obtain ⟨μx_5, e_μx_5, h⟩ := Ok.nm h
    refine Jm_putI C id fp_RX12_155 fw_11_27 rfl rfl rfl e_μx_5 dX12_adds_59 rfl ?_
    rw [← hQQ]
    exact J_vret C hret (Nat.le_of_ble_eq_true rfl) (Nat.le_of_ble_eq_true rfl) ⟨_, h.osome, rfl, rfl, rfl⟩ dX12_adds_62
  unfold f12_adds at h
  refine J_iload_n (i := 1) (p := 1) C dX12_adds_0 rfl rfl rfl ?_
  refine J_iload_n (i := 2) (p := 2) C dX12_adds_1 rfl rfl rfl ?_
  refine J_icmp_ne (t := 11) C dX12_adds_2 (by decide) rfl (fun c_5 => ?_) (fun c_5 => ?_)
  · have h := h.neg c_5
    exact hj_11 μ h
  · have h := h.pos (Decidable.not_not.mp c_5)
    refine J_iload (i := 4) (p := 4) C dX12_adds_5 rfl rfl ?_
    refine J_if_ne (t := 11) C dX12_adds_7 (by decide) rfl (fun c_6 => ?_) (fun c_6 => ?_)
    · have h := h.neg c_6
      exact hj_11 μ h
    · have h := h.pos (Decidable.not_not.mp c_6)
      rw [← hQQ]
      exact J_vret C hret (Nat.le_of_ble_eq_true rfl) (Nat.le_of_ble_eq_true rfl) ⟨_, h.osome, rfl, rfl, rfl⟩ dX12_adds_10
def f12_endsIn_j38 (l1 : Int32) (μ : Sto) (l3_38 : Int32) (s0_38 : Int32) (s1_38 : Int32) : Option ((Int32 × Int32) ⊕ Int32) :=
  stp (s0_38 + s1_38) fun x2_1 =>
  stp (l3_38 + (1 : Int32)) fun x3_2 =>
  some (.inl (x2_1, x3_2))
def f12_endsIn_b4 (l1 : Int32) (μ : Sto) (l2_4 : Int32) (l3_4 : Int32) : Option ((Int32 × Int32) ⊕ Int32) :=
  gd (inb l1 3001) <|
  if (aI μ 2032 (Int32.toNatClampNeg l1)) ≤ l3_4 then
    some (.inr l2_4)
  else
    gd (inb l1 3001) <|
    gd (inb ((aI μ 2031 (Int32.toNatClampNeg l1)) + l3_4) 3200) <|
    if (aI μ 2033 (Int32.toNatClampNeg ((aI μ 2031 (Int32.toNatClampNeg l1)) + l3_4))) = (10 : Int32) then
      f12_endsIn_j38 l1 μ l3_4 l2_4 (1 : Int32)
    else
      f12_endsIn_j38 l1 μ l3_4 l2_4 (0 : Int32)
def f12_endsIn_j4 (l1 : Int32) (μ : Sto) (l2_4 : Int32) (l3_4 : Int32) : Option (Int32) :=
  bnd (loopF (fun s_4 => f12_endsIn_b4 l1 μ s_4.1 s_4.2) FU (l2_4, l3_4)) fun r_4 =>
    some r_4
def f12_endsIn (μ : Sto) (l1 : Int32) : Option (Int32) :=
  stp (0 : Int32) fun x2_3 =>
  stp (0 : Int32) fun x3_4 =>
  f12_endsIn_j4 l1 μ x2_3 x3_4
set_option maxHeartbeats 4000000 in
set_option maxRecDepth 100000 in
theorem k12_endsIn {l : Launch} {K : JK} (hl : l.stackTraces = false) {σ μ : Sto} {o : Int64} {l1 : Int32}  {Qf : Int32 → Prop} (h : Ok (f12_endsIn μ l1) Qf) : Con l K yX12_endsIn (.code yX12_endsIn cX12_endsIn 4 (some .int) :: TB) 0 0 0 False [.ref (K.2.2 + 2017), .int l1] 2055 (jw K σ μ o) (PR Qf (fun p => some (.int p)) (fun p => jw K σ μ o)) PN := by
  refine Con.enter (own := RX12) hl (by decide) rfl (Nat.le_of_ble_eq_true rfl) ?_
  intro X hX hR C hret hnt
  generalize hQQ : jQ X K 0 0 (PR Qf (fun p => some (.int p)) (fun p => jw K σ μ o)) PN False = QQ
  change J X K 4 False QQ 0 0 2055 (jw K σ μ o) 0 [(0, .ref (K.2.2 + 2017)), (1, .int l1)] []
  have hj_4 : (∀ (l2_4 : Int32) (l3_4 : Int32), Ok (f12_endsIn_j4 l1 μ l2_4 l3_4) Qf → J X K 4 False QQ 0 0 2055 (jw K σ μ o) 4 [(0, .ref (K.2.2 + 2017)), (1, .int l1), (2, .int l2_4), (3, .int l3_4)] []) := by
    intro l2_4 l3_4 h
    unfold f12_endsIn_j4 at h
    refine loop_gen (S := Int32 × Int32) (P := fun s_4 => J X K 4 False QQ 0 0 2055 (jw K σ μ o) 4 [(0, .ref (K.2.2 + 2017)), (1, .int l1), (2, .int s_4.1), (3, .int s_4.2)] []) ?_ FU (l2_4, l3_4) (Ok.ofbnd h)
    intro B_4 hB_4 hE_4 s_4 h
    obtain ⟨l2_4, l3_4⟩ := s_4
    have h : Ok (f12_endsIn_b4 l1 μ l2_4 l3_4) B_4 := h
    change J X K 4 False QQ 0 0 2055 (jw K σ μ o) 4 [(0, .ref (K.2.2 + 2017)), (1, .int l1), (2, .int l2_4), (3, .int l3_4)] []
    have hj_38 : (∀ (l3_38 : Int32) (s0_38 : Int32) (s1_38 : Int32), Ok (f12_endsIn_j38 l1 μ l3_38 s0_38 s1_38) B_4 → J X K 4 False QQ 0 0 2055 (jw K σ μ o) 38 [(0, .ref (K.2.2 + 2017)), (1, .int l1), (3, .int l3_38)] [.int s1_38, .int s0_38]) := by
      intro l3_38 s0_38 s1_38 h
      unfold f12_endsIn_j38 at h
      refine J_iadd C dX12_endsIn_38 rfl ?_
      obtain ⟨x2_1, e_x2_1, h⟩ := Ok.nm h
      refine J_istoreE_n (i := 2) (lv' := [(2, .int x2_1), (0, .ref (K.2.2 + 2017)), (1, .int l1), (3, .int l3_38)]) C e_x2_1 dX12_endsIn_39 rfl (Nat.le_of_ble_eq_true rfl) rfl rfl ?_
      obtain ⟨x3_2, e_x3_2, h⟩ := Ok.nm h
      refine J_iincE (i := 3) (p := 3) (lv' := [(3, .int x3_2), (2, .int x2_1), (0, .ref (K.2.2 + 2017)), (1, .int l1)]) C e_x3_2 dX12_endsIn_40 rfl (by decide) (Nat.le_of_ble_eq_true rfl) rfl rfl ?_
      refine J_goto (t := 4) C dX12_endsIn_43 (by decide) ?_
      refine J.sub [2, 3, 1, 0] rfl ?_
      exact hB_4 (x2_1, x3_2) h.osome
    unfold f12_endsIn_b4 at h
    refine J_iload_n (i := 3) (p := 3) C dX12_endsIn_4 rfl rfl rfl ?_
    refine J_aload_n (i := 0) (p := 0) C dX12_endsIn_5 rfl rfl rfl ?_
    refine Jm_getS (o2 := 15) (r2 := 2032) C fp_RX12_60 rfl rfl rfl dX12_endsIn_6 rfl ?_
    refine J_iload_n (i := 1) (p := 1) C dX12_endsIn_9 rfl rfl rfl ?_
    obtain ⟨g_1, h⟩ := Ok.ofgd h
    refine Jm_iald C rfl rfl g_1 dX12_endsIn_10 rfl ?_
    refine J_icmp_ge (t := 46) C dX12_endsIn_11 (by decide) rfl (fun c_2 => ?_) (fun c_2 => ?_)
    · have h := h.pos c_2
      have h := hE_4 l2_4 h.osome
      try dsimp only at h
      refine J_iload_n (i := 2) (p := 2) C dX12_endsIn_46 rfl rfl rfl ?_
      rw [← hQQ]
      exact J_iret C hret (Nat.le_of_ble_eq_true rfl) (Nat.le_of_ble_eq_true rfl) ⟨_, h.osome, rfl, rfl, rfl⟩ dX12_endsIn_47
    · have h := h.neg c_2
      refine J_iload_n (i := 2) (p := 2) C dX12_endsIn_14 rfl rfl rfl ?_
      refine J_aload_n (i := 0) (p := 0) C dX12_endsIn_15 rfl rfl rfl ?_
      refine Jm_getS (o2 := 16) (r2 := 2033) C fp_RX12_63 rfl rfl rfl dX12_endsIn_16 rfl ?_
      refine J_aload_n (i := 0) (p := 0) C dX12_endsIn_19 rfl rfl rfl ?_
      refine Jm_getS (o2 := 14) (r2 := 2031) C fp_RX12_57 rfl rfl rfl dX12_endsIn_20 rfl ?_
      refine J_iload_n (i := 1) (p := 1) C dX12_endsIn_23 rfl rfl rfl ?_
      obtain ⟨g_3, h⟩ := Ok.ofgd h
      refine Jm_iald C rfl rfl g_3 dX12_endsIn_24 rfl ?_
      refine J_iload_n (i := 3) (p := 3) C dX12_endsIn_25 rfl rfl rfl ?_
      refine J_iadd C dX12_endsIn_26 rfl ?_
      obtain ⟨g_4, h⟩ := Ok.ofgd h
      refine Jm_iald C rfl rfl g_4 dX12_endsIn_27 rfl ?_
      refine J_bipush (v := 10) C (by decide) dX12_endsIn_28 rfl ?_
      refine J_icmp_ne (t := 37) C dX12_endsIn_30 (by decide) rfl (fun c_5 => ?_) (fun c_5 => ?_)
      · have h := h.neg c_5
        refine J_iconst (v := 0) C (by decide) dX12_endsIn_37 rfl ?_
        refine J.sub [0, 1, 3] rfl ?_
        exact hj_38 l3_4 l2_4 (0 : Int32) h
      · have h := h.pos (Decidable.not_not.mp c_5)
        refine J_iconst (v := 1) C (by decide) dX12_endsIn_33 rfl ?_
        refine J_goto (t := 38) C dX12_endsIn_34 (by decide) ?_
        refine J.sub [0, 1, 3] rfl ?_
        exact hj_38 l3_4 l2_4 (1 : Int32) h
  unfold f12_endsIn at h
  refine J_iconst (v := 0) C (by decide) dX12_endsIn_0 rfl ?_
  obtain ⟨x2_3, e_x2_3, h⟩ := Ok.nm h
  refine J_istoreE_n (i := 2) (lv' := [(2, .int x2_3), (0, .ref (K.2.2 + 2017)), (1, .int l1)]) C e_x2_3 dX12_endsIn_1 rfl (Nat.le_of_ble_eq_true rfl) rfl rfl ?_
  refine J_iconst (v := 0) C (by decide) dX12_endsIn_2 rfl ?_
  obtain ⟨x3_4, e_x3_4, h⟩ := Ok.nm h
  refine J_istoreE_n (i := 3) (lv' := [(3, .int x3_4), (2, .int x2_3), (0, .ref (K.2.2 + 2017)), (1, .int l1)]) C e_x3_4 dX12_endsIn_3 rfl (Nat.le_of_ble_eq_true rfl) rfl rfl ?_
  refine J.sub [2, 3, 1, 0] rfl ?_
  exact hj_4 x2_3 x3_4 h
def f12_isTooMuch_j121 (μ : Sto) (s0_121 : Int32) : Option (Int32) :=
  gd (isB s0_121) <|
  some s0_121
def f12_isTooMuch_j116 (μ : Sto) : Option (Int32) :=
  f12_isTooMuch_j121 μ (1 : Int32)
def f12_isTooMuch_j88 (μ : Sto) (l1_59 : Int32) (l3_59 : Int32) (l4_88 : Int32) (s0_88 : Int32) (s1_88 : Int32) : Option ((Int32 × Int32) ⊕ Int32) :=
  stp (s0_88 - s1_88) fun x2_1 =>
  stp (l4_88 + (1 : Int32)) fun x4_2 =>
  some (.inl (x2_1, x4_2))
def f12_isTooMuch_b59 (μ : Sto) (l1_59 : Int32) (l2_59 : Int32) (l3_59 : Int32) (l4_59 : Int32) : Option ((Int32 × Int32) ⊕ Int32) :=
  gd (inb l3_59 3001) <|
  if (aI μ 2030 (Int32.toNatClampNeg l3_59)) ≤ l4_59 then
    some (.inr l2_59)
  else
    gd (inb l4_59 3000) <|
    if (aI μ 2018 (Int32.toNatClampNeg l4_59)) = (10 : Int32) then
      f12_isTooMuch_j88 μ l1_59 l3_59 l4_59 l2_59 (1 : Int32)
    else
      f12_isTooMuch_j88 μ l1_59 l3_59 l4_59 l2_59 (0 : Int32)
def f12_isTooMuch_j59 (μ : Sto) (l1_59 : Int32) (l2_59 : Int32) (l3_59 : Int32) (l4_59 : Int32) : Option ((Int32 × Int32 × Int32) ⊕ (Int32 × Int32)) :=
  bnd (loopF (fun s_59 => f12_isTooMuch_b59 μ l1_59 s_59.1 l3_59 s_59.2) FU (l2_59, l4_59)) fun r_59 =>
    stp (l3_59 + (1 : Int32)) fun x3_4 =>
    some (.inl (l1_59, r_59, x3_4))
def f12_isTooMuch_b12 (μ : Sto) (l1_12 : Int32) (l2_12 : Int32) (l3_12 : Int32) : Option ((Int32 × Int32 × Int32) ⊕ (Int32 × Int32)) :=
  if (fI μ 2017 27) ≤ l3_12 then
    some (.inr (l1_12, l2_12))
  else
    gd (inb l3_12 3001) <|
    gd (inb l3_12 3001) <|
    gd (inb l3_12 3001) <|
    stp (l1_12 + ((aI μ 2032 (Int32.toNatClampNeg l3_12)) - ((aI μ 2030 (Int32.toNatClampNeg l3_12)) - (aI μ 2029 (Int32.toNatClampNeg l3_12))))) fun x1_5 =>
    bnd (f12_endsIn μ l3_12) fun p_12 =>
    stp (l2_12 + p_12) fun x2_6 =>
    gd (inb l3_12 3001) <|
    stp (aI μ 2029 (Int32.toNatClampNeg l3_12)) fun x4_7 =>
    f12_isTooMuch_j59 μ x1_5 x2_6 l3_12 x4_7
def f12_isTooMuch_j12 (μ : Sto) (l1_12 : Int32) (l2_12 : Int32) (l3_12 : Int32) : Option (Int32) :=
  bnd (loopF (fun s_12 => f12_isTooMuch_b12 μ s_12.1 s_12.2.1 s_12.2.2) FU (l1_12, l2_12, l3_12)) fun r_12 =>
    if (3000 : Int32) < r_12.1 then
      f12_isTooMuch_j116 μ
    else
      if r_12.2 ≤ (300 : Int32) then
        f12_isTooMuch_j121 μ (0 : Int32)
      else
        f12_isTooMuch_j116 μ
def f12_isTooMuch (μ : Sto) : Option (Int32) :=
  stp (fI μ 2017 5) fun x1_8 =>
  bnd (f12_lines μ) fun p_16 =>
  stp p_16 fun x2_9 =>
  stp (0 : Int32) fun x3_10 =>
  f12_isTooMuch_j12 μ x1_8 x2_9 x3_10
set_option maxHeartbeats 4000000 in
set_option maxRecDepth 100000 in
theorem k12_isTooMuch {l : Launch} {K : JK} (hl : l.stackTraces = false) {σ μ : Sto} {o : Int64}   {Qf : Int32 → Prop} (h : Ok (f12_isTooMuch μ) Qf) : Con l K yX12_isTooMuch (.code yX12_isTooMuch cX12_isTooMuch 5 (some .boolean) :: TB) 1 0 0 False [.ref (K.2.2 + 2017)] 2055 (jw K σ μ o) (PR Qf (fun p => some (.int p)) (fun p => jw K σ μ o)) PN := by
  refine Con.enter (own := RX12) hl (by decide) rfl (Nat.le_of_ble_eq_true rfl) ?_
  intro X hX hR C hret hnt
  generalize hQQ : jQ X K 0 0 (PR Qf (fun p => some (.int p)) (fun p => jw K σ μ o)) PN False = QQ
  change J X K 5 False QQ 0 0 2055 (jw K σ μ o) 0 [(0, .ref (K.2.2 + 2017))] []
  have hj_121 : (∀ (s0_121 : Int32), Ok (f12_isTooMuch_j121 μ s0_121) Qf → J X K 5 False QQ 0 0 2055 (jw K σ μ o) 121 [] [.int s0_121]) := by
    intro s0_121 h
    unfold f12_isTooMuch_j121 at h
    obtain ⟨g_1, h⟩ := Ok.ofgd h
    rw [← hQQ]
    exact J_zret C hret (narB g_1).1 (Nat.le_of_ble_eq_true rfl) (Nat.le_of_ble_eq_true rfl) ⟨_, h.osome, rfl, rfl, rfl⟩ dX12_isTooMuch_121
  have hj_116 : (Ok (f12_isTooMuch_j116 μ) Qf → J X K 5 False QQ 0 0 2055 (jw K σ μ o) 116 [] []) := by
    intro h
    unfold f12_isTooMuch_j116 at h
    refine J_iconst (v := 1) C (by decide) dX12_isTooMuch_116 rfl ?_
    refine J_goto (t := 121) C dX12_isTooMuch_117 (by decide) ?_
    exact hj_121 (1 : Int32) h
  have hj_12 : (∀ (l1_12 : Int32) (l2_12 : Int32) (l3_12 : Int32), Ok (f12_isTooMuch_j12 μ l1_12 l2_12 l3_12) Qf → J X K 5 False QQ 0 0 2055 (jw K σ μ o) 12 [(0, .ref (K.2.2 + 2017)), (1, .int l1_12), (2, .int l2_12), (3, .int l3_12)] []) := by
    intro l1_12 l2_12 l3_12 h
    unfold f12_isTooMuch_j12 at h
    refine loop_gen (S := Int32 × Int32 × Int32) (P := fun s_12 => J X K 5 False QQ 0 0 2055 (jw K σ μ o) 12 [(0, .ref (K.2.2 + 2017)), (1, .int s_12.1), (2, .int s_12.2.1), (3, .int s_12.2.2)] []) ?_ FU (l1_12, l2_12, l3_12) (Ok.ofbnd h)
    intro B_12 hB_12 hE_12 s_12 h
    obtain ⟨l1_12, l2_12, l3_12⟩ := s_12
    have h : Ok (f12_isTooMuch_b12 μ l1_12 l2_12 l3_12) B_12 := h
    change J X K 5 False QQ 0 0 2055 (jw K σ μ o) 12 [(0, .ref (K.2.2 + 2017)), (1, .int l1_12), (2, .int l2_12), (3, .int l3_12)] []
    have hj_59 : (∀ (l1_59 : Int32) (l2_59 : Int32) (l3_59 : Int32) (l4_59 : Int32), Ok (f12_isTooMuch_j59 μ l1_59 l2_59 l3_59 l4_59) B_12 → J X K 5 False QQ 0 0 2055 (jw K σ μ o) 59 [(0, .ref (K.2.2 + 2017)), (1, .int l1_59), (2, .int l2_59), (3, .int l3_59), (4, .int l4_59)] []) := by
      intro l1_59 l2_59 l3_59 l4_59 h
      unfold f12_isTooMuch_j59 at h
      refine loop_gen (S := Int32 × Int32) (P := fun s_59 => J X K 5 False QQ 0 0 2055 (jw K σ μ o) 59 [(0, .ref (K.2.2 + 2017)), (1, .int l1_59), (2, .int s_59.1), (3, .int l3_59), (4, .int s_59.2)] []) ?_ FU (l2_59, l4_59) (Ok.ofbnd h)
      intro B_59 hB_59 hE_59 s_59 h
      obtain ⟨l2_59, l4_59⟩ := s_59
      have h : Ok (f12_isTooMuch_b59 μ l1_59 l2_59 l3_59 l4_59) B_59 := h
      change J X K 5 False QQ 0 0 2055 (jw K σ μ o) 59 [(0, .ref (K.2.2 + 2017)), (1, .int l1_59), (2, .int l2_59), (3, .int l3_59), (4, .int l4_59)] []
      have hj_88 : (∀ (l4_88 : Int32) (s0_88 : Int32) (s1_88 : Int32), Ok (f12_isTooMuch_j88 μ l1_59 l3_59 l4_88 s0_88 s1_88) B_59 → J X K 5 False QQ 0 0 2055 (jw K σ μ o) 88 [(0, .ref (K.2.2 + 2017)), (1, .int l1_59), (3, .int l3_59), (4, .int l4_88)] [.int s1_88, .int s0_88]) := by
        intro l4_88 s0_88 s1_88 h
        unfold f12_isTooMuch_j88 at h
        refine J_isub C dX12_isTooMuch_88 rfl ?_
        obtain ⟨x2_1, e_x2_1, h⟩ := Ok.nm h
        refine J_istoreE_n (i := 2) (lv' := [(2, .int x2_1), (0, .ref (K.2.2 + 2017)), (1, .int l1_59), (3, .int l3_59), (4, .int l4_88)]) C e_x2_1 dX12_isTooMuch_89 rfl (Nat.le_of_ble_eq_true rfl) rfl rfl ?_
        obtain ⟨x4_2, e_x4_2, h⟩ := Ok.nm h
        refine J_iincE (i := 4) (p := 4) (lv' := [(4, .int x4_2), (2, .int x2_1), (0, .ref (K.2.2 + 2017)), (1, .int l1_59), (3, .int l3_59)]) C e_x4_2 dX12_isTooMuch_90 rfl (by decide) (Nat.le_of_ble_eq_true rfl) rfl rfl ?_
        refine J_goto (t := 59) C dX12_isTooMuch_93 (by decide) ?_
        refine J.sub [2, 3, 1, 4, 0] rfl ?_
        exact hB_59 (x2_1, x4_2) h.osome
      unfold f12_isTooMuch_b59 at h
      refine J_iload (i := 4) (p := 4) C dX12_isTooMuch_59 rfl rfl ?_
      refine J_aload_n (i := 0) (p := 0) C dX12_isTooMuch_61 rfl rfl rfl ?_
      refine Jm_getS (o2 := 13) (r2 := 2030) C fp_RX12_54 rfl rfl rfl dX12_isTooMuch_62 rfl ?_
      refine J_iload_n (i := 3) (p := 3) C dX12_isTooMuch_65 rfl rfl rfl ?_
      obtain ⟨g_2, h⟩ := Ok.ofgd h
      refine Jm_iald C rfl rfl g_2 dX12_isTooMuch_66 rfl ?_
      refine J_icmp_ge (t := 96) C dX12_isTooMuch_67 (by decide) rfl (fun c_3 => ?_) (fun c_3 => ?_)
      · have h := h.pos c_3
        have h := hE_59 l2_59 h.osome
        try dsimp only at h
        obtain ⟨x3_3, e_x3_3, h⟩ := Ok.nm h
        refine J_iincE (i := 3) (p := 3) (lv' := [(3, .int x3_3), (0, .ref (K.2.2 + 2017)), (1, .int l1_59), (2, .int l2_59), (4, .int l4_59)]) C e_x3_3 dX12_isTooMuch_96 rfl (by decide) (Nat.le_of_ble_eq_true rfl) rfl rfl ?_
        refine J_goto (t := 12) C dX12_isTooMuch_99 (by decide) ?_
        refine J.sub [1, 2, 3, 0] rfl ?_
        exact hB_12 (l1_59, l2_59, x3_3) h.osome
      · have h := h.neg c_3
        refine J_iload_n (i := 2) (p := 2) C dX12_isTooMuch_70 rfl rfl rfl ?_
        refine J_aload_n (i := 0) (p := 0) C dX12_isTooMuch_71 rfl rfl rfl ?_
        refine Jm_getS (o2 := 1) (r2 := 2018) C fp_RX12_7 rfl rfl rfl dX12_isTooMuch_72 rfl ?_
        refine J_iload (i := 4) (p := 4) C dX12_isTooMuch_75 rfl rfl ?_
        obtain ⟨g_4, h⟩ := Ok.ofgd h
        refine Jm_iald C rfl rfl g_4 dX12_isTooMuch_77 rfl ?_
        refine J_bipush (v := 10) C (by decide) dX12_isTooMuch_78 rfl ?_
        refine J_icmp_ne (t := 87) C dX12_isTooMuch_80 (by decide) rfl (fun c_5 => ?_) (fun c_5 => ?_)
        · have h := h.neg c_5
          refine J_iconst (v := 0) C (by decide) dX12_isTooMuch_87 rfl ?_
          refine J.sub [0, 1, 3, 4] rfl ?_
          exact hj_88 l4_59 l2_59 (0 : Int32) h
        · have h := h.pos (Decidable.not_not.mp c_5)
          refine J_iconst (v := 1) C (by decide) dX12_isTooMuch_83 rfl ?_
          refine J_goto (t := 88) C dX12_isTooMuch_84 (by decide) ?_
          refine J.sub [0, 1, 3, 4] rfl ?_
          exact hj_88 l4_59 l2_59 (1 : Int32) h
    unfold f12_isTooMuch_b12 at h
    refine J_iload_n (i := 3) (p := 3) C dX12_isTooMuch_12 rfl rfl rfl ?_
    refine J_aload_n (i := 0) (p := 0) C dX12_isTooMuch_13 rfl rfl rfl ?_
    refine Jm_getI C fp_RX12_155 rfl rfl dX12_isTooMuch_14 rfl ?_
    refine J_icmp_ge (t := 102) C dX12_isTooMuch_17 (by decide) rfl (fun c_6 => ?_) (fun c_6 => ?_)
    · have h := h.pos c_6
      have h := hE_12 (l1_12, l2_12) h.osome
      try dsimp only at h
      refine J_iload_n (i := 1) (p := 1) C dX12_isTooMuch_102 rfl rfl rfl ?_
      refine J_sipush (v := 3000) C (by decide) dX12_isTooMuch_103 rfl ?_
      refine J_icmp_gt (t := 116) C dX12_isTooMuch_106 (by decide) rfl (fun c_7 => ?_) (fun c_7 => ?_)
      · have h := h.pos c_7
        refine J.sub [] rfl ?_
        exact hj_116  h
      · have h := h.neg c_7
        refine J_iload_n (i := 2) (p := 2) C dX12_isTooMuch_109 rfl rfl rfl ?_
        refine J_sipush (v := 300) C (by decide) dX12_isTooMuch_110 rfl ?_
        refine J_icmp_le (t := 120) C dX12_isTooMuch_113 (by decide) rfl (fun c_8 => ?_) (fun c_8 => ?_)
        · have h := h.pos c_8
          refine J_iconst (v := 0) C (by decide) dX12_isTooMuch_120 rfl ?_
          refine J.sub [] rfl ?_
          exact hj_121 (0 : Int32) h
        · have h := h.neg c_8
          refine J.sub [] rfl ?_
          exact hj_116  h
    · have h := h.neg c_6
      refine J_iload_n (i := 1) (p := 1) C dX12_isTooMuch_20 rfl rfl rfl ?_
      refine J_aload_n (i := 0) (p := 0) C dX12_isTooMuch_21 rfl rfl rfl ?_
      refine Jm_getS (o2 := 15) (r2 := 2032) C fp_RX12_60 rfl rfl rfl dX12_isTooMuch_22 rfl ?_
      refine J_iload_n (i := 3) (p := 3) C dX12_isTooMuch_25 rfl rfl rfl ?_
      obtain ⟨g_9, h⟩ := Ok.ofgd h
      refine Jm_iald C rfl rfl g_9 dX12_isTooMuch_26 rfl ?_
      refine J_aload_n (i := 0) (p := 0) C dX12_isTooMuch_27 rfl rfl rfl ?_
      refine Jm_getS (o2 := 13) (r2 := 2030) C fp_RX12_54 rfl rfl rfl dX12_isTooMuch_28 rfl ?_
      refine J_iload_n (i := 3) (p := 3) C dX12_isTooMuch_31 rfl rfl rfl ?_
      obtain ⟨g_10, h⟩ := Ok.ofgd h
      refine Jm_iald C rfl rfl g_10 dX12_isTooMuch_32 rfl ?_
      refine J_aload_n (i := 0) (p := 0) C dX12_isTooMuch_33 rfl rfl rfl ?_
      refine Jm_getS (o2 := 12) (r2 := 2029) C fp_RX12_51 rfl rfl rfl dX12_isTooMuch_34 rfl ?_
      refine J_iload_n (i := 3) (p := 3) C dX12_isTooMuch_37 rfl rfl rfl ?_
      obtain ⟨g_11, h⟩ := Ok.ofgd h
      refine Jm_iald C rfl rfl g_11 dX12_isTooMuch_38 rfl ?_
      refine J_isub C dX12_isTooMuch_39 rfl ?_
      refine J_isub C dX12_isTooMuch_40 rfl ?_
      refine J_iadd C dX12_isTooMuch_41 rfl ?_
      obtain ⟨x1_5, e_x1_5, h⟩ := Ok.nm h
      refine J_istoreE_n (i := 1) (lv' := [(1, .int x1_5), (0, .ref (K.2.2 + 2017)), (2, .int l2_12), (3, .int l3_12)]) C e_x1_5 dX12_isTooMuch_42 rfl (Nat.le_of_ble_eq_true rfl) rfl rfl ?_
      refine J_iload_n (i := 2) (p := 2) C dX12_isTooMuch_43 rfl rfl rfl ?_
      refine J_aload_n (i := 0) (p := 1) C dX12_isTooMuch_44 rfl rfl rfl ?_
      refine J_iload_n (i := 3) (p := 3) C dX12_isTooMuch_45 rfl rfl rfl ?_
      refine Jm_cV (rest := [.int l2_12]) (st9 := fun p_12 => [.int p_12, .int l2_12]) C hR hX cv_RX12_167 rfl (Nat.le_of_ble_eq_true rfl) (k12_endsIn hl  (Ok.ofbnd h)) rfl rfl (Nat.le_of_ble_eq_true rfl) (Nat.le_of_ble_eq_true rfl) (Nat.le_of_ble_eq_true rfl) ⟨(Nat.le_of_ble_eq_true rfl), (Nat.le_of_ble_eq_true rfl)⟩ dX12_isTooMuch_46 rfl (fun E n9 w9 hx => JT_n hx) (fun _ => rfl) (fun p_12 h => ?_)
      have h : Ok _ _ := h
      change J X K 5 False QQ 0 0 2055 (jw K σ μ o) 49 [(1, .int x1_5), (0, .ref (K.2.2 + 2017)), (2, .int l2_12), (3, .int l3_12)] [.int p_12, .int l2_12]
      refine J_iadd C dX12_isTooMuch_49 rfl ?_
      obtain ⟨x2_6, e_x2_6, h⟩ := Ok.nm h
      refine J_istoreE_n (i := 2) (lv' := [(2, .int x2_6), (1, .int x1_5), (0, .ref (K.2.2 + 2017)), (3, .int l3_12)]) C e_x2_6 dX12_isTooMuch_50 rfl (Nat.le_of_ble_eq_true rfl) rfl rfl ?_
      refine J_aload_n (i := 0) (p := 2) C dX12_isTooMuch_51 rfl rfl rfl ?_
      refine Jm_getS (o2 := 12) (r2 := 2029) C fp_RX12_51 rfl rfl rfl dX12_isTooMuch_52 rfl ?_
      refine J_iload_n (i := 3) (p := 3) C dX12_isTooMuch_55 rfl rfl rfl ?_
      obtain ⟨g_13, h⟩ := Ok.ofgd h
      refine Jm_iald C rfl rfl g_13 dX12_isTooMuch_56 rfl ?_
      obtain ⟨x4_7, e_x4_7, h⟩ := Ok.nm h
      refine J_istoreE (i := 4) (lv' := [(4, .int x4_7), (2, .int x2_6), (1, .int x1_5), (0, .ref (K.2.2 + 2017)), (3, .int l3_12)]) C e_x4_7 dX12_isTooMuch_57 (Nat.le_of_ble_eq_true rfl) rfl rfl ?_
      refine J.sub [3, 2, 1, 4, 0] rfl ?_
      exact hj_59 x1_5 x2_6 l3_12 x4_7 h
  unfold f12_isTooMuch at h
  refine J_aload_n (i := 0) (p := 0) C dX12_isTooMuch_0 rfl rfl rfl ?_
  refine Jm_getI C fp_RX12_138 rfl rfl dX12_isTooMuch_1 rfl ?_
  obtain ⟨x1_8, e_x1_8, h⟩ := Ok.nm h
  refine J_istoreE_n (i := 1) (lv' := [(1, .int x1_8), (0, .ref (K.2.2 + 2017))]) C e_x1_8 dX12_isTooMuch_4 rfl (Nat.le_of_ble_eq_true rfl) rfl rfl ?_
  refine J_aload_n (i := 0) (p := 1) C dX12_isTooMuch_5 rfl rfl rfl ?_
  refine Jm_cV (rest := []) (st9 := fun p_16 => [.int p_16]) C hR hX cv_RX12_141 rfl (Nat.le_of_ble_eq_true rfl) (k12_lines hl  (Ok.ofbnd h)) rfl rfl (Nat.le_of_ble_eq_true rfl) (Nat.le_of_ble_eq_true rfl) (Nat.le_of_ble_eq_true rfl) ⟨(Nat.le_of_ble_eq_true rfl), (Nat.le_of_ble_eq_true rfl)⟩ dX12_isTooMuch_6 rfl (fun E n9 w9 hx => JT_n hx) (fun _ => rfl) (fun p_16 h => ?_)
  have h : Ok _ _ := h
  change J X K 5 False QQ 0 0 2055 (jw K σ μ o) 9 [(1, .int x1_8), (0, .ref (K.2.2 + 2017))] [.int p_16]
  obtain ⟨x2_9, e_x2_9, h⟩ := Ok.nm h
  refine J_istoreE_n (i := 2) (lv' := [(2, .int x2_9), (1, .int x1_8), (0, .ref (K.2.2 + 2017))]) C e_x2_9 dX12_isTooMuch_9 rfl (Nat.le_of_ble_eq_true rfl) rfl rfl ?_
  refine J_iconst (v := 0) C (by decide) dX12_isTooMuch_10 rfl ?_
  obtain ⟨x3_10, e_x3_10, h⟩ := Ok.nm h
  refine J_istoreE_n (i := 3) (lv' := [(3, .int x3_10), (2, .int x2_9), (1, .int x1_8), (0, .ref (K.2.2 + 2017))]) C e_x3_10 dX12_isTooMuch_11 rfl (Nat.le_of_ble_eq_true rfl) rfl rfl ?_
  refine J.sub [3, 2, 1, 0] rfl ?_
  exact hj_12 x1_8 x2_9 x3_10 h
def f12_moved_j42 (l0 : Int32) (l1 : Int32) (l2 : Int32) (l3 : Int32) (l4 : Int32) (s0_42 : Int32) : Option (Int32) :=
  some s0_42
def f12_moved_j24 (l0 : Int32) (l1 : Int32) (l2 : Int32) (l3 : Int32) (l4 : Int32) (s0_24 : Int32) : Option (Int32) :=
  some s0_24
def f12_moved (l0 : Int32) (l1 : Int32) (l2 : Int32) (l3 : Int32) (l4 : Int32) : Option (Int32) :=
  if l2 ≤ l0 then
    if l0 = l3 then
      if l1 = 0 then
        f12_moved_j24 l0 l1 l2 l3 l4 (l2 + l4)
      else
        f12_moved_j24 l0 l1 l2 l3 l4 l2
    else
      if l3 ≤ l0 then
        f12_moved_j42 l0 l1 l2 l3 l4 ((l0 + l4) - (l3 - l2))
      else
        f12_moved_j42 l0 l1 l2 l3 l4 l2
  else
    some l0
set_option maxHeartbeats 4000000 in
set_option maxRecDepth 100000 in
theorem k12_moved {l : Launch} {K : JK} (hl : l.stackTraces = false) {σ μ : Sto} {o : Int64} {l0 : Int32} {l1 : Int32} {l2 : Int32} {l3 : Int32} {l4 : Int32}  {Qf : Int32 → Prop} (h : Ok (f12_moved l0 l1 l2 l3 l4) Qf) : Con l K yX12_moved (.code yX12_moved cX12_moved 5 (some .int) :: TB) 0 0 0 False [.int l0, .int l1, .int l2, .int l3, .int l4] 2055 (jw K σ μ o) (PR Qf (fun p => some (.int p)) (fun p => jw K σ μ o)) PN := by
  refine Con.enter (own := RX12) hl (by decide) rfl (Nat.le_of_ble_eq_true rfl) ?_
  intro X hX hR C hret hnt
  generalize hQQ : jQ X K 0 0 (PR Qf (fun p => some (.int p)) (fun p => jw K σ μ o)) PN False = QQ
  change J X K 5 False QQ 0 0 2055 (jw K σ μ o) 0 [(0, .int l0), (1, .int l1), (2, .int l2), (3, .int l3), (4, .int l4)] []
  have hj_42 : (∀ (s0_42 : Int32), Ok (f12_moved_j42 l0 l1 l2 l3 l4 s0_42) Qf → J X K 5 False QQ 0 0 2055 (jw K σ μ o) 42 [] [.int s0_42]) := by
    intro s0_42 h
    unfold f12_moved_j42 at h
    rw [← hQQ]
    exact J_iret C hret (Nat.le_of_ble_eq_true rfl) (Nat.le_of_ble_eq_true rfl) ⟨_, h.osome, rfl, rfl, rfl⟩ dX12_moved_42
  have hj_24 : (∀ (s0_24 : Int32), Ok (f12_moved_j24 l0 l1 l2 l3 l4 s0_24) Qf → J X K 5 False QQ 0 0 2055 (jw K σ μ o) 24 [] [.int s0_24]) := by
    intro s0_24 h
    unfold f12_moved_j24 at h
    rw [← hQQ]
    exact J_iret C hret (Nat.le_of_ble_eq_true rfl) (Nat.le_of_ble_eq_true rfl) ⟨_, h.osome, rfl, rfl, rfl⟩ dX12_moved_24
  unfold f12_moved at h
  refine J_iload_n (i := 0) (p := 0) C dX12_moved_0 rfl rfl rfl ?_
  refine J_iload_n (i := 2) (p := 2) C dX12_moved_1 rfl rfl rfl ?_
  refine J_icmp_ge (t := 7) C dX12_moved_2 (by decide) rfl (fun c_1 => ?_) (fun c_1 => ?_)
  · have h := h.pos c_1
    refine J_iload_n (i := 0) (p := 0) C dX12_moved_7 rfl rfl rfl ?_
    refine J_iload_n (i := 3) (p := 3) C dX12_moved_8 rfl rfl rfl ?_
    refine J_icmp_ne (t := 25) C dX12_moved_9 (by decide) rfl (fun c_2 => ?_) (fun c_2 => ?_)
    · have h := h.neg c_2
      refine J_iload_n (i := 0) (p := 0) C dX12_moved_25 rfl rfl rfl ?_
      refine J_iload_n (i := 3) (p := 3) C dX12_moved_26 rfl rfl rfl ?_
      refine J_icmp_ge (t := 34) C dX12_moved_27 (by decide) rfl (fun c_3 => ?_) (fun c_3 => ?_)
      · have h := h.pos c_3
        refine J_iload_n (i := 0) (p := 0) C dX12_moved_34 rfl rfl rfl ?_
        refine J_iload (i := 4) (p := 4) C dX12_moved_35 rfl rfl ?_
        refine J_iadd C dX12_moved_37 rfl ?_
        refine J_iload_n (i := 3) (p := 3) C dX12_moved_38 rfl rfl rfl ?_
        refine J_iload_n (i := 2) (p := 2) C dX12_moved_39 rfl rfl rfl ?_
        refine J_isub C dX12_moved_40 rfl ?_
        refine J_isub C dX12_moved_41 rfl ?_
        refine J.sub [] rfl ?_
        exact hj_42 ((l0 + l4) - (l3 - l2)) h
      · have h := h.neg c_3
        refine J_iload_n (i := 2) (p := 2) C dX12_moved_30 rfl rfl rfl ?_
        refine J_goto (t := 42) C dX12_moved_31 (by decide) ?_
        refine J.sub [] rfl ?_
        exact hj_42 l2 h
    · have h := h.pos (Decidable.not_not.mp c_2)
      refine J_iload_n (i := 1) (p := 1) C dX12_moved_12 rfl rfl rfl ?_
      refine J_if_eq (t := 20) C dX12_moved_13 (by decide) rfl (fun c_4 => ?_) (fun c_4 => ?_)
      · have h := h.pos c_4
        refine J_iload_n (i := 2) (p := 2) C dX12_moved_20 rfl rfl rfl ?_
        refine J_iload (i := 4) (p := 4) C dX12_moved_21 rfl rfl ?_
        refine J_iadd C dX12_moved_23 rfl ?_
        refine J.sub [] rfl ?_
        exact hj_24 (l2 + l4) h
      · have h := h.neg c_4
        refine J_iload_n (i := 2) (p := 2) C dX12_moved_16 rfl rfl rfl ?_
        refine J_goto (t := 24) C dX12_moved_17 (by decide) ?_
        refine J.sub [] rfl ?_
        exact hj_24 l2 h
  · have h := h.neg c_1
    refine J_iload_n (i := 0) (p := 0) C dX12_moved_5 rfl rfl rfl ?_
    rw [← hQQ]
    exact J_iret C hret (Nat.le_of_ble_eq_true rfl) (Nat.le_of_ble_eq_true rfl) ⟨_, h.osome, rfl, rfl, rfl⟩ dX12_moved_6
def f12_replaces_j444 (l1 : Int32) (l2_395 : Int32) (l3_395 : Int32) (l4_395 : Int32) (μ_444 : Sto) (l9_444 : Int32) (s1_444 : Int32) (s2_444 : Int32) : Option ((Sto × Int32) ⊕ Sto) :=
  gd (inb s1_444 16) <|
  stp (uA μ_444 2020 (Int32.toNatClampNeg s1_444) s2_444) fun μx_1 =>
  stp (l9_444 + (1 : Int32)) fun x9_2 =>
  some (.inl (μx_1, x9_2))
def f12_replaces_b395 (l1 : Int32) (μ_395 : Sto) (l2_395 : Int32) (l3_395 : Int32) (l4_395 : Int32) (l9_395 : Int32) : Option ((Sto × Int32) ⊕ Sto) :=
  if (16 : Int32) ≤ l9_395 then
    some (.inr μ_395)
  else
    gd (inb l9_395 16) <|
    if (aI μ_395 2020 (Int32.toNatClampNeg l9_395)) = (-1 : Int32) then
      f12_replaces_j444 l1 l2_395 l3_395 l4_395 μ_395 l9_395 l9_395 (-1 : Int32)
    else
      gd (inb l9_395 16) <|
      gd (inb l9_395 16) <|
      bnd (f12_moved (aI μ_395 2020 (Int32.toNatClampNeg l9_395)) (aI μ_395 2021 (Int32.toNatClampNeg l9_395)) l2_395 l3_395 l4_395) fun p_7 =>
      f12_replaces_j444 l1 l2_395 l3_395 l4_395 μ_395 l9_395 l9_395 p_7
def f12_replaces_j395 (l1 : Int32) (μ_395 : Sto) (l2_395 : Int32) (l3_395 : Int32) (l4_395 : Int32) (l9_395 : Int32) : Option (Sto) :=
  bnd (loopF (fun s_395 => f12_replaces_b395 l1 s_395.1 l2_395 l3_395 l4_395 s_395.2) FU (μ_395, l9_395)) fun r_395 =>
    some r_395
def f12_replaces_b355 (l1 : Int32) (μ_355 : Sto) (l2_355 : Int32) (l3_355 : Int32) (l4_355 : Int32) (l9_355 : Int32) : Option ((Sto × Int32) ⊕ Sto) :=
  if (fI μ_355 2017 6) ≤ l9_355 then
    some (.inr μ_355)
  else
    gd (inb l9_355 8) <|
    bnd (f12_moved (aI μ_355 2019 (Int32.toNatClampNeg l9_355)) (0 : Int32) l2_355 l3_355 l4_355) fun p_10 =>
    gd (inb l9_355 8) <|
    stp (uA μ_355 2019 (Int32.toNatClampNeg l9_355) p_10) fun μx_4 =>
    stp (l9_355 + (1 : Int32)) fun x9_5 =>
    some (.inl (μx_4, x9_5))
def f12_replaces_j355 (l1 : Int32) (μ_355 : Sto) (l2_355 : Int32) (l3_355 : Int32) (l4_355 : Int32) (l9_355 : Int32) : Option (Sto) :=
  bnd (loopF (fun s_355 => f12_replaces_b355 l1 s_355.1 l2_355 l3_355 l4_355 s_355.2) FU (μ_355, l9_355)) fun r_355 =>
    stp (0 : Int32) fun x9_6 =>
    f12_replaces_j395 l1 r_355 l2_355 l3_355 l4_355 x9_6
def f12_replaces_b305 (l1 : Int32) (μ_305 : Sto) (l2_305 : Int32) (l3_305 : Int32) (l4_305 : Int32) (l8_305 : Int32) (l9_305 : Int32) : Option ((Sto × Int32) ⊕ Sto) :=
  if l4_305 ≤ l9_305 then
    some (.inr μ_305)
  else
    gd (inb l1 3001) <|
    gd (inb ((aI μ_305 2031 (Int32.toNatClampNeg l1)) + l9_305) 3200) <|
    gd (inb (l2_305 + l9_305) 3000) <|
    stp (uA μ_305 2018 (Int32.toNatClampNeg (l2_305 + l9_305)) (aI μ_305 2033 (Int32.toNatClampNeg ((aI μ_305 2031 (Int32.toNatClampNeg l1)) + l9_305)))) fun μx_9 =>
    stp (l9_305 + (1 : Int32)) fun x9_10 =>
    some (.inl (μx_9, x9_10))
def f12_replaces_j305 (l1 : Int32) (μ_305 : Sto) (l2_305 : Int32) (l3_305 : Int32) (l4_305 : Int32) (l8_305 : Int32) (l9_305 : Int32) : Option (Sto) :=
  bnd (loopF (fun s_305 => f12_replaces_b305 l1 s_305.1 l2_305 l3_305 l4_305 l8_305 s_305.2) FU (μ_305, l9_305)) fun r_305 =>
    stp (uI r_305 2017 5 ((fI r_305 2017 5) + l8_305)) fun μx_11 =>
    stp (0 : Int32) fun x9_12 =>
    f12_replaces_j355 l1 μx_11 l2_305 l3_305 l4_305 x9_12
def f12_replaces_j302 (l1 : Int32) (μ_302 : Sto) (l2_302 : Int32) (l3_302 : Int32) (l4_302 : Int32) (l8_302 : Int32) : Option (Sto) :=
  stp (0 : Int32) fun x9_13 =>
  f12_replaces_j305 l1 μ_302 l2_302 l3_302 l4_302 l8_302 x9_13
def f12_replaces_b270 (l1 : Int32) (μ_270 : Sto) (l2_270 : Int32) (l3_270 : Int32) (l4_270 : Int32) (l8_270 : Int32) (l9_270 : Int32) : Option ((Sto × Int32) ⊕ Sto) :=
  if (fI μ_270 2017 5) ≤ l9_270 then
    some (.inr μ_270)
  else
    gd (inb l9_270 3000) <|
    gd (inb (l9_270 + l8_270) 3000) <|
    stp (uA μ_270 2018 (Int32.toNatClampNeg (l9_270 + l8_270)) (aI μ_270 2018 (Int32.toNatClampNeg l9_270))) fun μx_14 =>
    stp (l9_270 + (1 : Int32)) fun x9_15 =>
    some (.inl (μx_14, x9_15))
def f12_replaces_j270 (l1 : Int32) (μ_270 : Sto) (l2_270 : Int32) (l3_270 : Int32) (l4_270 : Int32) (l8_270 : Int32) (l9_270 : Int32) : Option (Sto) :=
  bnd (loopF (fun s_270 => f12_replaces_b270 l1 s_270.1 l2_270 l3_270 l4_270 l8_270 s_270.2) FU (μ_270, l9_270)) fun r_270 =>
    f12_replaces_j302 l1 r_270 l2_270 l3_270 l4_270 l8_270
def f12_replaces_b235 (l1 : Int32) (μ_235 : Sto) (l2_235 : Int32) (l3_235 : Int32) (l4_235 : Int32) (l8_235 : Int32) (l9_235 : Int32) : Option ((Sto × Int32) ⊕ Sto) :=
  if l9_235 < l3_235 then
    some (.inr μ_235)
  else
    gd (inb l9_235 3000) <|
    gd (inb (l9_235 + l8_235) 3000) <|
    stp (uA μ_235 2018 (Int32.toNatClampNeg (l9_235 + l8_235)) (aI μ_235 2018 (Int32.toNatClampNeg l9_235))) fun μx_16 =>
    stp (l9_235 + (-1 : Int32)) fun x9_17 =>
    some (.inl (μx_16, x9_17))
def f12_replaces_j235 (l1 : Int32) (μ_235 : Sto) (l2_235 : Int32) (l3_235 : Int32) (l4_235 : Int32) (l8_235 : Int32) (l9_235 : Int32) : Option (Sto) :=
  bnd (loopF (fun s_235 => f12_replaces_b235 l1 s_235.1 l2_235 l3_235 l4_235 l8_235 s_235.2) FU (μ_235, l9_235)) fun r_235 =>
    f12_replaces_j302 l1 r_235 l2_235 l3_235 l4_235 l8_235
def f12_replaces_b190 (l1 : Int32) (μ_190 : Sto) (l2_190 : Int32) (l3_190 : Int32) (l4_190 : Int32) (l6_190 : Int32) (l7_190 : Int32) (l8_190 : Int32) : Option ((Sto × Int32) ⊕ Sto) :=
  if (l6_190 + l7_190) < l8_190 then
    some (.inr μ_190)
  else
    gd (inb l8_190 301) <|
    stp (uA μ_190 2022 (Int32.toNatClampNeg l8_190) (vp_nar .boolean (0 : Int32))) fun μx_21 =>
    stp (l8_190 + (1 : Int32)) fun x8_22 =>
    some (.inl (μx_21, x8_22))
def f12_replaces_j190 (l1 : Int32) (μ_190 : Sto) (l2_190 : Int32) (l3_190 : Int32) (l4_190 : Int32) (l6_190 : Int32) (l7_190 : Int32) (l8_190 : Int32) : Option (Sto) :=
  bnd (loopF (fun s_190 => f12_replaces_b190 l1 s_190.1 l2_190 l3_190 l4_190 l6_190 l7_190 s_190.2) FU (μ_190, l8_190)) fun r_190 =>
    stp (l4_190 - (l3_190 - l2_190)) fun x8_23 =>
    if x8_23 ≤ 0 then
      stp l3_190 fun x9_24 =>
      f12_replaces_j270 l1 r_190 l2_190 l3_190 l4_190 x8_23 x9_24
    else
      stp ((fI r_190 2017 5) - (1 : Int32)) fun x9_25 =>
      f12_replaces_j235 l1 r_190 l2_190 l3_190 l4_190 x8_23 x9_25
def f12_replaces_j184 (l1 : Int32) (μ_184 : Sto) (l2_184 : Int32) (l3_184 : Int32) (l4_184 : Int32) (l5_184 : Int32) (l6_184 : Int32) (l7_184 : Int32) : Option (Sto) :=
  stp (l5_184 + (1 : Int32)) fun x8_26 =>
  f12_replaces_j190 l1 μ_184 l2_184 l3_184 l4_184 l6_184 l7_184 x8_26
def f12_replaces_j177 (l1 : Int32) (l2_134 : Int32) (l3_134 : Int32) (l4_134 : Int32) (l5_134 : Int32) (l6_134 : Int32) (l7_134 : Int32) (μ_177 : Sto) (l8_177 : Int32) (s1_177 : Int32) (s2_177 : Int32) : Option ((Sto × Int32) ⊕ Sto) :=
  gd (inb s1_177 301) <|
  stp (uA μ_177 2022 (Int32.toNatClampNeg s1_177) (vp_nar .boolean s2_177)) fun μx_27 =>
  stp (l8_177 + (1 : Int32)) fun x8_28 =>
  some (.inl (μx_27, x8_28))
def f12_replaces_j176 (l1 : Int32) (l2_134 : Int32) (l3_134 : Int32) (l4_134 : Int32) (l5_134 : Int32) (l6_134 : Int32) (l7_134 : Int32) (μ_176 : Sto) (l8_176 : Int32) (s1_176 : Int32) : Option ((Sto × Int32) ⊕ Sto) :=
  f12_replaces_j177 l1 l2_134 l3_134 l4_134 l5_134 l6_134 l7_134 μ_176 l8_176 s1_176 (0 : Int32)
def f12_replaces_b134 (l1 : Int32) (μ_134 : Sto) (l2_134 : Int32) (l3_134 : Int32) (l4_134 : Int32) (l5_134 : Int32) (l6_134 : Int32) (l7_134 : Int32) (l8_134 : Int32) : Option ((Sto × Int32) ⊕ Sto) :=
  if (300 : Int32) ≤ l8_134 then
    some (.inr μ_134)
  else
    if (300 : Int32) ≤ (l8_134 - l7_134) then
      f12_replaces_j176 l1 l2_134 l3_134 l4_134 l5_134 l6_134 l7_134 μ_134 l8_134 l8_134
    else
      gd (inb (l8_134 - l7_134) 301) <|
      if (aI μ_134 2022 (Int32.toNatClampNeg (l8_134 - l7_134))) = 0 then
        f12_replaces_j176 l1 l2_134 l3_134 l4_134 l5_134 l6_134 l7_134 μ_134 l8_134 l8_134
      else
        f12_replaces_j177 l1 l2_134 l3_134 l4_134 l5_134 l6_134 l7_134 μ_134 l8_134 l8_134 (1 : Int32)
def f12_replaces_j134 (l1 : Int32) (μ_134 : Sto) (l2_134 : Int32) (l3_134 : Int32) (l4_134 : Int32) (l5_134 : Int32) (l6_134 : Int32) (l7_134 : Int32) (l8_134 : Int32) : Option (Sto) :=
  bnd (loopF (fun s_134 => f12_replaces_b134 l1 s_134.1 l2_134 l3_134 l4_134 l5_134 l6_134 l7_134 s_134.2) FU (μ_134, l8_134)) fun r_134 =>
    f12_replaces_j184 l1 r_134 l2_134 l3_134 l4_134 l5_134 l6_134 l7_134
def f12_replaces_b84 (l1 : Int32) (μ_84 : Sto) (l2_84 : Int32) (l3_84 : Int32) (l4_84 : Int32) (l5_84 : Int32) (l6_84 : Int32) (l7_84 : Int32) (l8_84 : Int32) : Option ((Sto × Int32) ⊕ Sto) :=
  if l8_84 ≤ (l6_84 + l7_84) then
    some (.inr μ_84)
  else
    gd (inb (l8_84 - l7_84) 301) <|
    gd (inb l8_84 301) <|
    stp (uA μ_84 2022 (Int32.toNatClampNeg l8_84) (vp_nar .boolean (aI μ_84 2022 (Int32.toNatClampNeg (l8_84 - l7_84))))) fun μx_29 =>
    stp (l8_84 + (-1 : Int32)) fun x8_30 =>
    some (.inl (μx_29, x8_30))
def f12_replaces_j84 (l1 : Int32) (μ_84 : Sto) (l2_84 : Int32) (l3_84 : Int32) (l4_84 : Int32) (l5_84 : Int32) (l6_84 : Int32) (l7_84 : Int32) (l8_84 : Int32) : Option (Sto) :=
  bnd (loopF (fun s_84 => f12_replaces_b84 l1 s_84.1 l2_84 l3_84 l4_84 l5_84 l6_84 l7_84 s_84.2) FU (μ_84, l8_84)) fun r_84 =>
    f12_replaces_j184 l1 r_84 l2_84 l3_84 l4_84 l5_84 l6_84 l7_84
def f12_replaces_b40 (l1 : Int32) (μ_40 : Sto) (l2_40 : Int32) (l3_40 : Int32) (l4_40 : Int32) (l5_40 : Int32) (l6_40 : Int32) (l7_40 : Int32) : Option ((Sto × Int32) ⊕ Sto) :=
  if l6_40 < l7_40 then
    some (.inr μ_40)
  else
    bnd (f12_opens μ_40 l7_40) fun p_38 =>
    stp p_38.1 fun x8_34 =>
    stp (l7_40 + (1 : Int32)) fun x7_35 =>
    some (.inl (p_38.2, x7_35))
def f12_replaces_j40 (l1 : Int32) (μ_40 : Sto) (l2_40 : Int32) (l3_40 : Int32) (l4_40 : Int32) (l5_40 : Int32) (l6_40 : Int32) (l7_40 : Int32) : Option (Sto) :=
  bnd (loopF (fun s_40 => f12_replaces_b40 l1 s_40.1 l2_40 l3_40 l4_40 l5_40 l6_40 s_40.2) FU (μ_40, l7_40)) fun r_40 =>
    bnd (f12_endsIn r_40 l1) fun p_39 =>
    stp (p_39 - (l6_40 - l5_40)) fun x7_36 =>
    if x7_36 ≤ 0 then
      if 0 ≤ x7_36 then
        f12_replaces_j184 l1 r_40 l2_40 l3_40 l4_40 l5_40 l6_40 x7_36
      else
        stp ((l6_40 + x7_36) + (1 : Int32)) fun x8_37 =>
        f12_replaces_j134 l1 r_40 l2_40 l3_40 l4_40 l5_40 l6_40 x7_36 x8_37
    else
      stp (299 : Int32) fun x8_38 =>
      f12_replaces_j84 l1 r_40 l2_40 l3_40 l4_40 l5_40 l6_40 x7_36 x8_38
def f12_replaces (μ : Sto) (l1 : Int32) : Option (Sto) :=
  gd (inb l1 3001) <|
  stp (aI μ 2029 (Int32.toNatClampNeg l1)) fun x2_39 =>
  gd (inb l1 3001) <|
  stp (aI μ 2030 (Int32.toNatClampNeg l1)) fun x3_40 =>
  gd (inb l1 3001) <|
  stp (aI μ 2032 (Int32.toNatClampNeg l1)) fun x4_41 =>
  bnd (f12_lineAt μ x2_39) fun p_45 =>
  stp p_45 fun x5_42 =>
  bnd (f12_lineAt μ x3_40) fun p_46 =>
  stp p_46 fun x6_43 =>
  stp x5_42 fun x7_44 =>
  f12_replaces_j40 l1 μ x2_39 x3_40 x4_41 x5_42 x6_43 x7_44
set_option maxHeartbeats 4000000 in
set_option maxRecDepth 100000 in
theorem k12_replaces {l : Launch} {K : JK} (hl : l.stackTraces = false) {σ μ : Sto} {o : Int64} {l1 : Int32}  {Qf : Sto → Prop} (h : Ok (f12_replaces μ l1) Qf) : Con l K yX12_replaces (.code yX12_replaces cX12_replaces 10 none :: TB) 1 0 0 False [.ref (K.2.2 + 2017), .int l1] 2055 (jw K σ μ o) (PR Qf (fun p => none) (fun p => jw K σ p o)) PN := by
  refine Con.enter (own := RX12) hl (by decide) rfl (Nat.le_of_ble_eq_true rfl) ?_
  intro X hX hR C hret hnt
  generalize hQQ : jQ X K 0 0 (PR Qf (fun p => none) (fun p => jw K σ p o)) PN False = QQ
  change J X K 10 False QQ 0 0 2055 (jw K σ μ o) 0 [(0, .ref (K.2.2 + 2017)), (1, .int l1)] []
  have hj_395 : (∀ (μ_395 : Sto) (l2_395 : Int32) (l3_395 : Int32) (l4_395 : Int32) (l9_395 : Int32), Ok (f12_replaces_j395 l1 μ_395 l2_395 l3_395 l4_395 l9_395) Qf → J X K 10 False QQ 0 0 2055 (jw K σ μ_395 o) 395 [(0, .ref (K.2.2 + 2017)), (2, .int l2_395), (3, .int l3_395), (4, .int l4_395), (9, .int l9_395)] []) := by
    intro μ_395 l2_395 l3_395 l4_395 l9_395 h
    unfold f12_replaces_j395 at h
    refine loop_gen (S := Sto × Int32) (P := fun s_395 => J X K 10 False QQ 0 0 2055 (jw K σ s_395.1 o) 395 [(0, .ref (K.2.2 + 2017)), (2, .int l2_395), (3, .int l3_395), (4, .int l4_395), (9, .int s_395.2)] []) ?_ FU (μ_395, l9_395) (Ok.ofbnd h)
    intro B_395 hB_395 hE_395 s_395 h
    obtain ⟨μ_395, l9_395⟩ := s_395
    have h : Ok (f12_replaces_b395 l1 μ_395 l2_395 l3_395 l4_395 l9_395) B_395 := h
    change J X K 10 False QQ 0 0 2055 (jw K σ μ_395 o) 395 [(0, .ref (K.2.2 + 2017)), (2, .int l2_395), (3, .int l3_395), (4, .int l4_395), (9, .int l9_395)] []
    have hj_444 : (∀ (μ_444 : Sto) (l9_444 : Int32) (s1_444 : Int32) (s2_444 : Int32), Ok (f12_replaces_j444 l1 l2_395 l3_395 l4_395 μ_444 l9_444 s1_444 s2_444) B_395 → J X K 10 False QQ 0 0 2055 (jw K σ μ_444 o) 444 [(0, .ref (K.2.2 + 2017)), (2, .int l2_395), (3, .int l3_395), (4, .int l4_395), (9, .int l9_444)] [.int s2_444, .int s1_444, .ref (K.2.2 + 2020)]) := by
      intro μ_444 l9_444 s1_444 s2_444 h
      unfold f12_replaces_j444 at h
      obtain ⟨g_1, h⟩ := Ok.ofgd h
      obtain ⟨μx_1, e_μx_1, h⟩ := Ok.nm h
      refine Jm_iast C id rfl rfl g_1 e_μx_1 dX12_replaces_444 rfl ?_
      obtain ⟨x9_2, e_x9_2, h⟩ := Ok.nm h
      refine J_iincE (i := 9) (p := 4) (lv' := [(9, .int x9_2), (0, .ref (K.2.2 + 2017)), (2, .int l2_395), (3, .int l3_395), (4, .int l4_395)]) C e_x9_2 dX12_replaces_445 rfl (by decide) (Nat.le_of_ble_eq_true rfl) rfl rfl ?_
      refine J_goto (t := 395) C dX12_replaces_448 (by decide) ?_
      refine J.sub [1, 2, 3, 4, 0] rfl ?_
      exact hB_395 (μx_1, x9_2) h.osome
    unfold f12_replaces_b395 at h
    refine J_iload (i := 9) (p := 4) C dX12_replaces_395 rfl rfl ?_
    refine J_bipush (v := 16) C (by decide) dX12_replaces_397 rfl ?_
    refine J_icmp_ge (t := 451) C dX12_replaces_399 (by decide) rfl (fun c_2 => ?_) (fun c_2 => ?_)
    · have h := h.pos c_2
      have h := hE_395 μ_395 h.osome
      try dsimp only at h
      rw [← hQQ]
      exact J_vret C hret (Nat.le_of_ble_eq_true rfl) (Nat.le_of_ble_eq_true rfl) ⟨_, h.osome, rfl, rfl, rfl⟩ dX12_replaces_451
    · have h := h.neg c_2
      refine J_aload_n (i := 0) (p := 0) C dX12_replaces_402 rfl rfl rfl ?_
      refine Jm_getS (o2 := 3) (r2 := 2020) C fp_RX12_16 rfl rfl rfl dX12_replaces_403 rfl ?_
      refine J_iload (i := 9) (p := 4) C dX12_replaces_406 rfl rfl ?_
      refine J_aload_n (i := 0) (p := 0) C dX12_replaces_408 rfl rfl rfl ?_
      refine Jm_getS (o2 := 3) (r2 := 2020) C fp_RX12_16 rfl rfl rfl dX12_replaces_409 rfl ?_
      refine J_iload (i := 9) (p := 4) C dX12_replaces_412 rfl rfl ?_
      obtain ⟨g_3, h⟩ := Ok.ofgd h
      refine Jm_iald C rfl rfl g_3 dX12_replaces_414 rfl ?_
      refine J_iconst (v := -1) C (by decide) dX12_replaces_415 rfl ?_
      refine J_icmp_ne (t := 423) C dX12_replaces_416 (by decide) rfl (fun c_4 => ?_) (fun c_4 => ?_)
      · have h := h.neg c_4
        refine J_aload_n (i := 0) (p := 0) C dX12_replaces_423 rfl rfl rfl ?_
        refine Jm_getS (o2 := 3) (r2 := 2020) C fp_RX12_16 rfl rfl rfl dX12_replaces_424 rfl ?_
        refine J_iload (i := 9) (p := 4) C dX12_replaces_427 rfl rfl ?_
        obtain ⟨g_5, h⟩ := Ok.ofgd h
        refine Jm_iald C rfl rfl g_5 dX12_replaces_429 rfl ?_
        refine J_aload_n (i := 0) (p := 0) C dX12_replaces_430 rfl rfl rfl ?_
        refine Jm_getS (o2 := 4) (r2 := 2021) C fp_RX12_19 rfl rfl rfl dX12_replaces_431 rfl ?_
        refine J_iload (i := 9) (p := 4) C dX12_replaces_434 rfl rfl ?_
        obtain ⟨g_6, h⟩ := Ok.ofgd h
        refine Jm_zald C rfl rfl g_6 dX12_replaces_436 rfl ?_
        refine J_iload_n (i := 2) (p := 1) C dX12_replaces_437 rfl rfl rfl ?_
        refine J_iload_n (i := 3) (p := 2) C dX12_replaces_438 rfl rfl rfl ?_
        refine J_iload (i := 4) (p := 3) C dX12_replaces_439 rfl rfl ?_
        refine J_cS (rest := [.int l9_395, .ref (K.2.2 + 2020)]) (st9 := fun p_7 => [.int p_7, .int l9_395, .ref (K.2.2 + 2020)]) C hR hX cs_RX12_170 (k12_moved hl  (Ok.ofbnd h)) rfl rfl (Nat.le_of_ble_eq_true rfl) (Nat.le_of_ble_eq_true rfl) (Nat.le_of_ble_eq_true rfl) ⟨(Nat.le_of_ble_eq_true rfl), (Nat.le_of_ble_eq_true rfl)⟩ dX12_replaces_441 rfl (fun E n9 w9 hx => JT_n hx) (fun _ => rfl) (fun p_7 h => ?_)
        have h : Ok _ _ := h
        change J X K 10 False QQ 0 0 2055 (jw K σ μ_395 o) 444 [(0, .ref (K.2.2 + 2017)), (2, .int l2_395), (3, .int l3_395), (4, .int l4_395), (9, .int l9_395)] [.int p_7, .int l9_395, .ref (K.2.2 + 2020)]
        exact hj_444 μ_395 l9_395 l9_395 p_7 h
      · have h := h.pos (Decidable.not_not.mp c_4)
        refine J_iconst (v := -1) C (by decide) dX12_replaces_419 rfl ?_
        refine J_goto (t := 444) C dX12_replaces_420 (by decide) ?_
        exact hj_444 μ_395 l9_395 l9_395 (-1 : Int32) h
  have hj_355 : (∀ (μ_355 : Sto) (l2_355 : Int32) (l3_355 : Int32) (l4_355 : Int32) (l9_355 : Int32), Ok (f12_replaces_j355 l1 μ_355 l2_355 l3_355 l4_355 l9_355) Qf → J X K 10 False QQ 0 0 2055 (jw K σ μ_355 o) 355 [(0, .ref (K.2.2 + 2017)), (2, .int l2_355), (3, .int l3_355), (4, .int l4_355), (9, .int l9_355)] []) := by
    intro μ_355 l2_355 l3_355 l4_355 l9_355 h
    unfold f12_replaces_j355 at h
    refine loop_gen (S := Sto × Int32) (P := fun s_355 => J X K 10 False QQ 0 0 2055 (jw K σ s_355.1 o) 355 [(0, .ref (K.2.2 + 2017)), (2, .int l2_355), (3, .int l3_355), (4, .int l4_355), (9, .int s_355.2)] []) ?_ FU (μ_355, l9_355) (Ok.ofbnd h)
    intro B_355 hB_355 hE_355 s_355 h
    obtain ⟨μ_355, l9_355⟩ := s_355
    have h : Ok (f12_replaces_b355 l1 μ_355 l2_355 l3_355 l4_355 l9_355) B_355 := h
    change J X K 10 False QQ 0 0 2055 (jw K σ μ_355 o) 355 [(0, .ref (K.2.2 + 2017)), (2, .int l2_355), (3, .int l3_355), (4, .int l4_355), (9, .int l9_355)] []
    unfold f12_replaces_b355 at h
    refine J_iload (i := 9) (p := 4) C dX12_replaces_355 rfl rfl ?_
    refine J_aload_n (i := 0) (p := 0) C dX12_replaces_357 rfl rfl rfl ?_
    refine Jm_getI C fp_RX12_26 rfl rfl dX12_replaces_358 rfl ?_
    refine J_icmp_ge (t := 392) C dX12_replaces_361 (by decide) rfl (fun c_8 => ?_) (fun c_8 => ?_)
    · have h := h.pos c_8
      have h := hE_355 μ_355 h.osome
      try dsimp only at h
      refine J_iconst (v := 0) C (by decide) dX12_replaces_392 rfl ?_
      obtain ⟨x9_3, e_x9_3, h⟩ := Ok.nm h
      refine J_istoreE (i := 9) (lv' := [(9, .int x9_3), (0, .ref (K.2.2 + 2017)), (2, .int l2_355), (3, .int l3_355), (4, .int l4_355)]) C e_x9_3 dX12_replaces_393 (Nat.le_of_ble_eq_true rfl) rfl rfl ?_
      refine J.sub [1, 2, 3, 4, 0] rfl ?_
      exact hj_395 μ_355 l2_355 l3_355 l4_355 x9_3 h
    · have h := h.neg c_8
      refine J_aload_n (i := 0) (p := 0) C dX12_replaces_364 rfl rfl rfl ?_
      refine Jm_getS (o2 := 2) (r2 := 2019) C fp_RX12_13 rfl rfl rfl dX12_replaces_365 rfl ?_
      refine J_iload (i := 9) (p := 4) C dX12_replaces_368 rfl rfl ?_
      refine J_aload_n (i := 0) (p := 0) C dX12_replaces_370 rfl rfl rfl ?_
      refine Jm_getS (o2 := 2) (r2 := 2019) C fp_RX12_13 rfl rfl rfl dX12_replaces_371 rfl ?_
      refine J_iload (i := 9) (p := 4) C dX12_replaces_374 rfl rfl ?_
      obtain ⟨g_9, h⟩ := Ok.ofgd h
      refine Jm_iald C rfl rfl g_9 dX12_replaces_376 rfl ?_
      refine J_iconst (v := 0) C (by decide) dX12_replaces_377 rfl ?_
      refine J_iload_n (i := 2) (p := 1) C dX12_replaces_378 rfl rfl rfl ?_
      refine J_iload_n (i := 3) (p := 2) C dX12_replaces_379 rfl rfl rfl ?_
      refine J_iload (i := 4) (p := 3) C dX12_replaces_380 rfl rfl ?_
      refine J_cS (rest := [.int l9_355, .ref (K.2.2 + 2019)]) (st9 := fun p_10 => [.int p_10, .int l9_355, .ref (K.2.2 + 2019)]) C hR hX cs_RX12_170 (k12_moved hl  (Ok.ofbnd h)) rfl rfl (Nat.le_of_ble_eq_true rfl) (Nat.le_of_ble_eq_true rfl) (Nat.le_of_ble_eq_true rfl) ⟨(Nat.le_of_ble_eq_true rfl), (Nat.le_of_ble_eq_true rfl)⟩ dX12_replaces_382 rfl (fun E n9 w9 hx => JT_n hx) (fun _ => rfl) (fun p_10 h => ?_)
      have h : Ok _ _ := h
      change J X K 10 False QQ 0 0 2055 (jw K σ μ_355 o) 385 [(0, .ref (K.2.2 + 2017)), (2, .int l2_355), (3, .int l3_355), (4, .int l4_355), (9, .int l9_355)] [.int p_10, .int l9_355, .ref (K.2.2 + 2019)]
      obtain ⟨g_11, h⟩ := Ok.ofgd h
      obtain ⟨μx_4, e_μx_4, h⟩ := Ok.nm h
      refine Jm_iast C id rfl rfl g_11 e_μx_4 dX12_replaces_385 rfl ?_
      obtain ⟨x9_5, e_x9_5, h⟩ := Ok.nm h
      refine J_iincE (i := 9) (p := 4) (lv' := [(9, .int x9_5), (0, .ref (K.2.2 + 2017)), (2, .int l2_355), (3, .int l3_355), (4, .int l4_355)]) C e_x9_5 dX12_replaces_386 rfl (by decide) (Nat.le_of_ble_eq_true rfl) rfl rfl ?_
      refine J_goto (t := 355) C dX12_replaces_389 (by decide) ?_
      refine J.sub [1, 2, 3, 4, 0] rfl ?_
      exact hB_355 (μx_4, x9_5) h.osome
  have hj_305 : (∀ (μ_305 : Sto) (l2_305 : Int32) (l3_305 : Int32) (l4_305 : Int32) (l8_305 : Int32) (l9_305 : Int32), Ok (f12_replaces_j305 l1 μ_305 l2_305 l3_305 l4_305 l8_305 l9_305) Qf → J X K 10 False QQ 0 0 2055 (jw K σ μ_305 o) 305 [(0, .ref (K.2.2 + 2017)), (1, .int l1), (2, .int l2_305), (3, .int l3_305), (4, .int l4_305), (8, .int l8_305), (9, .int l9_305)] []) := by
    intro μ_305 l2_305 l3_305 l4_305 l8_305 l9_305 h
    unfold f12_replaces_j305 at h
    refine loop_gen (S := Sto × Int32) (P := fun s_305 => J X K 10 False QQ 0 0 2055 (jw K σ s_305.1 o) 305 [(0, .ref (K.2.2 + 2017)), (1, .int l1), (2, .int l2_305), (3, .int l3_305), (4, .int l4_305), (8, .int l8_305), (9, .int s_305.2)] []) ?_ FU (μ_305, l9_305) (Ok.ofbnd h)
    intro B_305 hB_305 hE_305 s_305 h
    obtain ⟨μ_305, l9_305⟩ := s_305
    have h : Ok (f12_replaces_b305 l1 μ_305 l2_305 l3_305 l4_305 l8_305 l9_305) B_305 := h
    change J X K 10 False QQ 0 0 2055 (jw K σ μ_305 o) 305 [(0, .ref (K.2.2 + 2017)), (1, .int l1), (2, .int l2_305), (3, .int l3_305), (4, .int l4_305), (8, .int l8_305), (9, .int l9_305)] []
    unfold f12_replaces_b305 at h
    refine J_iload (i := 9) (p := 6) C dX12_replaces_305 rfl rfl ?_
    refine J_iload (i := 4) (p := 4) C dX12_replaces_307 rfl rfl ?_
    refine J_icmp_ge (t := 341) C dX12_replaces_309 (by decide) rfl (fun c_12 => ?_) (fun c_12 => ?_)
    · have h := h.pos c_12
      have h := hE_305 μ_305 h.osome
      try dsimp only at h
      refine J_aload_n (i := 0) (p := 0) C dX12_replaces_341 rfl rfl rfl ?_
      refine J_dup C rfl dX12_replaces_342 rfl ?_
      refine Jm_getI C fp_RX12_138 rfl rfl dX12_replaces_343 rfl ?_
      refine J_iload (i := 8) (p := 5) C dX12_replaces_346 rfl rfl ?_
      refine J_iadd C dX12_replaces_348 rfl ?_
      obtain ⟨μx_7, e_μx_7, h⟩ := Ok.nm h
      refine Jm_putI C id fp_RX12_138 fw_11_5 rfl rfl rfl e_μx_7 dX12_replaces_349 rfl ?_
      refine J_iconst (v := 0) C (by decide) dX12_replaces_352 rfl ?_
      obtain ⟨x9_8, e_x9_8, h⟩ := Ok.nm h
      refine J_istoreE (i := 9) (lv' := [(9, .int x9_8), (0, .ref (K.2.2 + 2017)), (1, .int l1), (2, .int l2_305), (3, .int l3_305), (4, .int l4_305), (8, .int l8_305)]) C e_x9_8 dX12_replaces_353 (Nat.le_of_ble_eq_true rfl) rfl rfl ?_
      refine J.sub [1, 3, 4, 5, 0] rfl ?_
      exact hj_355 μx_7 l2_305 l3_305 l4_305 x9_8 h
    · have h := h.neg c_12
      refine J_aload_n (i := 0) (p := 0) C dX12_replaces_312 rfl rfl rfl ?_
      refine Jm_getS (o2 := 1) (r2 := 2018) C fp_RX12_7 rfl rfl rfl dX12_replaces_313 rfl ?_
      refine J_iload_n (i := 2) (p := 2) C dX12_replaces_316 rfl rfl rfl ?_
      refine J_iload (i := 9) (p := 6) C dX12_replaces_317 rfl rfl ?_
      refine J_iadd C dX12_replaces_319 rfl ?_
      refine J_aload_n (i := 0) (p := 0) C dX12_replaces_320 rfl rfl rfl ?_
      refine Jm_getS (o2 := 16) (r2 := 2033) C fp_RX12_63 rfl rfl rfl dX12_replaces_321 rfl ?_
      refine J_aload_n (i := 0) (p := 0) C dX12_replaces_324 rfl rfl rfl ?_
      refine Jm_getS (o2 := 14) (r2 := 2031) C fp_RX12_57 rfl rfl rfl dX12_replaces_325 rfl ?_
      refine J_iload_n (i := 1) (p := 1) C dX12_replaces_328 rfl rfl rfl ?_
      obtain ⟨g_13, h⟩ := Ok.ofgd h
      refine Jm_iald C rfl rfl g_13 dX12_replaces_329 rfl ?_
      refine J_iload (i := 9) (p := 6) C dX12_replaces_330 rfl rfl ?_
      refine J_iadd C dX12_replaces_332 rfl ?_
      obtain ⟨g_14, h⟩ := Ok.ofgd h
      refine Jm_iald C rfl rfl g_14 dX12_replaces_333 rfl ?_
      obtain ⟨g_15, h⟩ := Ok.ofgd h
      obtain ⟨μx_9, e_μx_9, h⟩ := Ok.nm h
      refine Jm_iast C id rfl rfl g_15 e_μx_9 dX12_replaces_334 rfl ?_
      obtain ⟨x9_10, e_x9_10, h⟩ := Ok.nm h
      refine J_iincE (i := 9) (p := 6) (lv' := [(9, .int x9_10), (0, .ref (K.2.2 + 2017)), (1, .int l1), (2, .int l2_305), (3, .int l3_305), (4, .int l4_305), (8, .int l8_305)]) C e_x9_10 dX12_replaces_335 rfl (by decide) (Nat.le_of_ble_eq_true rfl) rfl rfl ?_
      refine J_goto (t := 305) C dX12_replaces_338 (by decide) ?_
      refine J.sub [1, 2, 3, 4, 5, 6, 0] rfl ?_
      exact hB_305 (μx_9, x9_10) h.osome
  have hj_302 : (∀ (μ_302 : Sto) (l2_302 : Int32) (l3_302 : Int32) (l4_302 : Int32) (l8_302 : Int32), Ok (f12_replaces_j302 l1 μ_302 l2_302 l3_302 l4_302 l8_302) Qf → J X K 10 False QQ 0 0 2055 (jw K σ μ_302 o) 302 [(0, .ref (K.2.2 + 2017)), (1, .int l1), (2, .int l2_302), (3, .int l3_302), (4, .int l4_302), (8, .int l8_302)] []) := by
    intro μ_302 l2_302 l3_302 l4_302 l8_302 h
    unfold f12_replaces_j302 at h
    refine J_iconst (v := 0) C (by decide) dX12_replaces_302 rfl ?_
    obtain ⟨x9_13, e_x9_13, h⟩ := Ok.nm h
    refine J_istoreE (i := 9) (lv' := [(9, .int x9_13), (0, .ref (K.2.2 + 2017)), (1, .int l1), (2, .int l2_302), (3, .int l3_302), (4, .int l4_302), (8, .int l8_302)]) C e_x9_13 dX12_replaces_303 (Nat.le_of_ble_eq_true rfl) rfl rfl ?_
    refine J.sub [1, 2, 3, 4, 5, 6, 0] rfl ?_
    exact hj_305 μ_302 l2_302 l3_302 l4_302 l8_302 x9_13 h
  have hj_270 : (∀ (μ_270 : Sto) (l2_270 : Int32) (l3_270 : Int32) (l4_270 : Int32) (l8_270 : Int32) (l9_270 : Int32), Ok (f12_replaces_j270 l1 μ_270 l2_270 l3_270 l4_270 l8_270 l9_270) Qf → J X K 10 False QQ 0 0 2055 (jw K σ μ_270 o) 270 [(0, .ref (K.2.2 + 2017)), (1, .int l1), (2, .int l2_270), (3, .int l3_270), (4, .int l4_270), (8, .int l8_270), (9, .int l9_270)] []) := by
    intro μ_270 l2_270 l3_270 l4_270 l8_270 l9_270 h
    unfold f12_replaces_j270 at h
    refine loop_gen (S := Sto × Int32) (P := fun s_270 => J X K 10 False QQ 0 0 2055 (jw K σ s_270.1 o) 270 [(0, .ref (K.2.2 + 2017)), (1, .int l1), (2, .int l2_270), (3, .int l3_270), (4, .int l4_270), (8, .int l8_270), (9, .int s_270.2)] []) ?_ FU (μ_270, l9_270) (Ok.ofbnd h)
    intro B_270 hB_270 hE_270 s_270 h
    obtain ⟨μ_270, l9_270⟩ := s_270
    have h : Ok (f12_replaces_b270 l1 μ_270 l2_270 l3_270 l4_270 l8_270 l9_270) B_270 := h
    change J X K 10 False QQ 0 0 2055 (jw K σ μ_270 o) 270 [(0, .ref (K.2.2 + 2017)), (1, .int l1), (2, .int l2_270), (3, .int l3_270), (4, .int l4_270), (8, .int l8_270), (9, .int l9_270)] []
    unfold f12_replaces_b270 at h
    refine J_iload (i := 9) (p := 6) C dX12_replaces_270 rfl rfl ?_
    refine J_aload_n (i := 0) (p := 0) C dX12_replaces_272 rfl rfl rfl ?_
    refine Jm_getI C fp_RX12_138 rfl rfl dX12_replaces_273 rfl ?_
    refine J_icmp_ge (t := 302) C dX12_replaces_276 (by decide) rfl (fun c_16 => ?_) (fun c_16 => ?_)
    · have h := h.pos c_16
      have h := hE_270 μ_270 h.osome
      try dsimp only at h
      refine J.sub [0, 1, 2, 3, 4, 5] rfl ?_
      exact hj_302 μ_270 l2_270 l3_270 l4_270 l8_270 h
    · have h := h.neg c_16
      refine J_aload_n (i := 0) (p := 0) C dX12_replaces_279 rfl rfl rfl ?_
      refine Jm_getS (o2 := 1) (r2 := 2018) C fp_RX12_7 rfl rfl rfl dX12_replaces_280 rfl ?_
      refine J_iload (i := 9) (p := 6) C dX12_replaces_283 rfl rfl ?_
      refine J_iload (i := 8) (p := 5) C dX12_replaces_285 rfl rfl ?_
      refine J_iadd C dX12_replaces_287 rfl ?_
      refine J_aload_n (i := 0) (p := 0) C dX12_replaces_288 rfl rfl rfl ?_
      refine Jm_getS (o2 := 1) (r2 := 2018) C fp_RX12_7 rfl rfl rfl dX12_replaces_289 rfl ?_
      refine J_iload (i := 9) (p := 6) C dX12_replaces_292 rfl rfl ?_
      obtain ⟨g_17, h⟩ := Ok.ofgd h
      refine Jm_iald C rfl rfl g_17 dX12_replaces_294 rfl ?_
      obtain ⟨g_18, h⟩ := Ok.ofgd h
      obtain ⟨μx_14, e_μx_14, h⟩ := Ok.nm h
      refine Jm_iast C id rfl rfl g_18 e_μx_14 dX12_replaces_295 rfl ?_
      obtain ⟨x9_15, e_x9_15, h⟩ := Ok.nm h
      refine J_iincE (i := 9) (p := 6) (lv' := [(9, .int x9_15), (0, .ref (K.2.2 + 2017)), (1, .int l1), (2, .int l2_270), (3, .int l3_270), (4, .int l4_270), (8, .int l8_270)]) C e_x9_15 dX12_replaces_296 rfl (by decide) (Nat.le_of_ble_eq_true rfl) rfl rfl ?_
      refine J_goto (t := 270) C dX12_replaces_299 (by decide) ?_
      refine J.sub [1, 2, 3, 4, 5, 6, 0] rfl ?_
      exact hB_270 (μx_14, x9_15) h.osome
  have hj_235 : (∀ (μ_235 : Sto) (l2_235 : Int32) (l3_235 : Int32) (l4_235 : Int32) (l8_235 : Int32) (l9_235 : Int32), Ok (f12_replaces_j235 l1 μ_235 l2_235 l3_235 l4_235 l8_235 l9_235) Qf → J X K 10 False QQ 0 0 2055 (jw K σ μ_235 o) 235 [(0, .ref (K.2.2 + 2017)), (1, .int l1), (2, .int l2_235), (3, .int l3_235), (4, .int l4_235), (8, .int l8_235), (9, .int l9_235)] []) := by
    intro μ_235 l2_235 l3_235 l4_235 l8_235 l9_235 h
    unfold f12_replaces_j235 at h
    refine loop_gen (S := Sto × Int32) (P := fun s_235 => J X K 10 False QQ 0 0 2055 (jw K σ s_235.1 o) 235 [(0, .ref (K.2.2 + 2017)), (1, .int l1), (2, .int l2_235), (3, .int l3_235), (4, .int l4_235), (8, .int l8_235), (9, .int s_235.2)] []) ?_ FU (μ_235, l9_235) (Ok.ofbnd h)
    intro B_235 hB_235 hE_235 s_235 h
    obtain ⟨μ_235, l9_235⟩ := s_235
    have h : Ok (f12_replaces_b235 l1 μ_235 l2_235 l3_235 l4_235 l8_235 l9_235) B_235 := h
    change J X K 10 False QQ 0 0 2055 (jw K σ μ_235 o) 235 [(0, .ref (K.2.2 + 2017)), (1, .int l1), (2, .int l2_235), (3, .int l3_235), (4, .int l4_235), (8, .int l8_235), (9, .int l9_235)] []
    unfold f12_replaces_b235 at h
    refine J_iload (i := 9) (p := 6) C dX12_replaces_235 rfl rfl ?_
    refine J_iload_n (i := 3) (p := 3) C dX12_replaces_237 rfl rfl rfl ?_
    refine J_icmp_lt (t := 264) C dX12_replaces_238 (by decide) rfl (fun c_19 => ?_) (fun c_19 => ?_)
    · have h := h.pos c_19
      have h := hE_235 μ_235 h.osome
      try dsimp only at h
      refine J_goto (t := 302) C dX12_replaces_264 (by decide) ?_
      refine J.sub [0, 1, 2, 3, 4, 5] rfl ?_
      exact hj_302 μ_235 l2_235 l3_235 l4_235 l8_235 h
    · have h := h.neg c_19
      refine J_aload_n (i := 0) (p := 0) C dX12_replaces_241 rfl rfl rfl ?_
      refine Jm_getS (o2 := 1) (r2 := 2018) C fp_RX12_7 rfl rfl rfl dX12_replaces_242 rfl ?_
      refine J_iload (i := 9) (p := 6) C dX12_replaces_245 rfl rfl ?_
      refine J_iload (i := 8) (p := 5) C dX12_replaces_247 rfl rfl ?_
      refine J_iadd C dX12_replaces_249 rfl ?_
      refine J_aload_n (i := 0) (p := 0) C dX12_replaces_250 rfl rfl rfl ?_
      refine Jm_getS (o2 := 1) (r2 := 2018) C fp_RX12_7 rfl rfl rfl dX12_replaces_251 rfl ?_
      refine J_iload (i := 9) (p := 6) C dX12_replaces_254 rfl rfl ?_
      obtain ⟨g_20, h⟩ := Ok.ofgd h
      refine Jm_iald C rfl rfl g_20 dX12_replaces_256 rfl ?_
      obtain ⟨g_21, h⟩ := Ok.ofgd h
      obtain ⟨μx_16, e_μx_16, h⟩ := Ok.nm h
      refine Jm_iast C id rfl rfl g_21 e_μx_16 dX12_replaces_257 rfl ?_
      obtain ⟨x9_17, e_x9_17, h⟩ := Ok.nm h
      refine J_iincE (i := 9) (p := 6) (lv' := [(9, .int x9_17), (0, .ref (K.2.2 + 2017)), (1, .int l1), (2, .int l2_235), (3, .int l3_235), (4, .int l4_235), (8, .int l8_235)]) C e_x9_17 dX12_replaces_258 rfl (by decide) (Nat.le_of_ble_eq_true rfl) rfl rfl ?_
      refine J_goto (t := 235) C dX12_replaces_261 (by decide) ?_
      refine J.sub [1, 2, 3, 4, 5, 6, 0] rfl ?_
      exact hB_235 (μx_16, x9_17) h.osome
  have hj_190 : (∀ (μ_190 : Sto) (l2_190 : Int32) (l3_190 : Int32) (l4_190 : Int32) (l6_190 : Int32) (l7_190 : Int32) (l8_190 : Int32), Ok (f12_replaces_j190 l1 μ_190 l2_190 l3_190 l4_190 l6_190 l7_190 l8_190) Qf → J X K 10 False QQ 0 0 2055 (jw K σ μ_190 o) 190 [(0, .ref (K.2.2 + 2017)), (1, .int l1), (2, .int l2_190), (3, .int l3_190), (4, .int l4_190), (6, .int l6_190), (7, .int l7_190), (8, .int l8_190)] []) := by
    intro μ_190 l2_190 l3_190 l4_190 l6_190 l7_190 l8_190 h
    unfold f12_replaces_j190 at h
    refine loop_gen (S := Sto × Int32) (P := fun s_190 => J X K 10 False QQ 0 0 2055 (jw K σ s_190.1 o) 190 [(0, .ref (K.2.2 + 2017)), (1, .int l1), (2, .int l2_190), (3, .int l3_190), (4, .int l4_190), (6, .int l6_190), (7, .int l7_190), (8, .int s_190.2)] []) ?_ FU (μ_190, l8_190) (Ok.ofbnd h)
    intro B_190 hB_190 hE_190 s_190 h
    obtain ⟨μ_190, l8_190⟩ := s_190
    have h : Ok (f12_replaces_b190 l1 μ_190 l2_190 l3_190 l4_190 l6_190 l7_190 l8_190) B_190 := h
    change J X K 10 False QQ 0 0 2055 (jw K σ μ_190 o) 190 [(0, .ref (K.2.2 + 2017)), (1, .int l1), (2, .int l2_190), (3, .int l3_190), (4, .int l4_190), (6, .int l6_190), (7, .int l7_190), (8, .int l8_190)] []
    unfold f12_replaces_b190 at h
    refine J_iload (i := 8) (p := 7) C dX12_replaces_190 rfl rfl ?_
    refine J_iload (i := 6) (p := 5) C dX12_replaces_192 rfl rfl ?_
    refine J_iload (i := 7) (p := 6) C dX12_replaces_194 rfl rfl ?_
    refine J_iadd C dX12_replaces_196 rfl ?_
    refine J_icmp_gt (t := 214) C dX12_replaces_197 (by decide) rfl (fun c_22 => ?_) (fun c_22 => ?_)
    · have h := h.pos c_22
      have h := hE_190 μ_190 h.osome
      try dsimp only at h
      refine J_iload (i := 4) (p := 4) C dX12_replaces_214 rfl rfl ?_
      refine J_iload_n (i := 3) (p := 3) C dX12_replaces_216 rfl rfl rfl ?_
      refine J_iload_n (i := 2) (p := 2) C dX12_replaces_217 rfl rfl rfl ?_
      refine J_isub C dX12_replaces_218 rfl ?_
      refine J_isub C dX12_replaces_219 rfl ?_
      obtain ⟨x8_18, e_x8_18, h⟩ := Ok.nm h
      refine J_istoreE (i := 8) (lv' := [(8, .int x8_18), (0, .ref (K.2.2 + 2017)), (1, .int l1), (2, .int l2_190), (3, .int l3_190), (4, .int l4_190), (6, .int l6_190), (7, .int l7_190)]) C e_x8_18 dX12_replaces_220 (Nat.le_of_ble_eq_true rfl) rfl rfl ?_
      refine J_iload (i := 8) (p := 0) C dX12_replaces_222 rfl rfl ?_
      refine J_if_le (t := 267) C dX12_replaces_224 (by decide) rfl (fun c_23 => ?_) (fun c_23 => ?_)
      · have h := h.pos c_23
        refine J_iload_n (i := 3) (p := 4) C dX12_replaces_267 rfl rfl rfl ?_
        obtain ⟨x9_19, e_x9_19, h⟩ := Ok.nm h
        refine J_istoreE (i := 9) (lv' := [(9, .int x9_19), (8, .int x8_18), (0, .ref (K.2.2 + 2017)), (1, .int l1), (2, .int l2_190), (3, .int l3_190), (4, .int l4_190), (6, .int l6_190), (7, .int l7_190)]) C e_x9_19 dX12_replaces_268 (Nat.le_of_ble_eq_true rfl) rfl rfl ?_
        refine J.sub [2, 3, 4, 5, 6, 1, 0] rfl ?_
        exact hj_270 μ_190 l2_190 l3_190 l4_190 x8_18 x9_19 h
      · have h := h.neg c_23
        refine J_aload_n (i := 0) (p := 1) C dX12_replaces_227 rfl rfl rfl ?_
        refine Jm_getI C fp_RX12_138 rfl rfl dX12_replaces_228 rfl ?_
        refine J_iconst (v := 1) C (by decide) dX12_replaces_231 rfl ?_
        refine J_isub C dX12_replaces_232 rfl ?_
        obtain ⟨x9_20, e_x9_20, h⟩ := Ok.nm h
        refine J_istoreE (i := 9) (lv' := [(9, .int x9_20), (8, .int x8_18), (0, .ref (K.2.2 + 2017)), (1, .int l1), (2, .int l2_190), (3, .int l3_190), (4, .int l4_190), (6, .int l6_190), (7, .int l7_190)]) C e_x9_20 dX12_replaces_233 (Nat.le_of_ble_eq_true rfl) rfl rfl ?_
        refine J.sub [2, 3, 4, 5, 6, 1, 0] rfl ?_
        exact hj_235 μ_190 l2_190 l3_190 l4_190 x8_18 x9_20 h
    · have h := h.neg c_22
      refine J_aload_n (i := 0) (p := 0) C dX12_replaces_200 rfl rfl rfl ?_
      refine Jm_getS (o2 := 5) (r2 := 2022) C fp_RX12_23 rfl rfl rfl dX12_replaces_201 rfl ?_
      refine J_iload (i := 8) (p := 7) C dX12_replaces_204 rfl rfl ?_
      refine J_iconst (v := 0) C (by decide) dX12_replaces_206 rfl ?_
      obtain ⟨g_24, h⟩ := Ok.ofgd h
      obtain ⟨μx_21, e_μx_21, h⟩ := Ok.nm h
      refine Jm_zast C id rfl rfl g_24 e_μx_21 dX12_replaces_207 rfl ?_
      obtain ⟨x8_22, e_x8_22, h⟩ := Ok.nm h
      refine J_iincE (i := 8) (p := 7) (lv' := [(8, .int x8_22), (0, .ref (K.2.2 + 2017)), (1, .int l1), (2, .int l2_190), (3, .int l3_190), (4, .int l4_190), (6, .int l6_190), (7, .int l7_190)]) C e_x8_22 dX12_replaces_208 rfl (by decide) (Nat.le_of_ble_eq_true rfl) rfl rfl ?_
      refine J_goto (t := 190) C dX12_replaces_211 (by decide) ?_
      refine J.sub [1, 2, 3, 4, 5, 6, 7, 0] rfl ?_
      exact hB_190 (μx_21, x8_22) h.osome
  have hj_184 : (∀ (μ_184 : Sto) (l2_184 : Int32) (l3_184 : Int32) (l4_184 : Int32) (l5_184 : Int32) (l6_184 : Int32) (l7_184 : Int32), Ok (f12_replaces_j184 l1 μ_184 l2_184 l3_184 l4_184 l5_184 l6_184 l7_184) Qf → J X K 10 False QQ 0 0 2055 (jw K σ μ_184 o) 184 [(0, .ref (K.2.2 + 2017)), (1, .int l1), (2, .int l2_184), (3, .int l3_184), (4, .int l4_184), (5, .int l5_184), (6, .int l6_184), (7, .int l7_184)] []) := by
    intro μ_184 l2_184 l3_184 l4_184 l5_184 l6_184 l7_184 h
    unfold f12_replaces_j184 at h
    refine J_iload (i := 5) (p := 5) C dX12_replaces_184 rfl rfl ?_
    refine J_iconst (v := 1) C (by decide) dX12_replaces_186 rfl ?_
    refine J_iadd C dX12_replaces_187 rfl ?_
    obtain ⟨x8_26, e_x8_26, h⟩ := Ok.nm h
    refine J_istoreE (i := 8) (lv' := [(8, .int x8_26), (0, .ref (K.2.2 + 2017)), (1, .int l1), (2, .int l2_184), (3, .int l3_184), (4, .int l4_184), (5, .int l5_184), (6, .int l6_184), (7, .int l7_184)]) C e_x8_26 dX12_replaces_188 (Nat.le_of_ble_eq_true rfl) rfl rfl ?_
    refine J.sub [1, 2, 3, 4, 5, 7, 8, 0] rfl ?_
    exact hj_190 μ_184 l2_184 l3_184 l4_184 l6_184 l7_184 x8_26 h
  have hj_134 : (∀ (μ_134 : Sto) (l2_134 : Int32) (l3_134 : Int32) (l4_134 : Int32) (l5_134 : Int32) (l6_134 : Int32) (l7_134 : Int32) (l8_134 : Int32), Ok (f12_replaces_j134 l1 μ_134 l2_134 l3_134 l4_134 l5_134 l6_134 l7_134 l8_134) Qf → J X K 10 False QQ 0 0 2055 (jw K σ μ_134 o) 134 [(0, .ref (K.2.2 + 2017)), (1, .int l1), (2, .int l2_134), (3, .int l3_134), (4, .int l4_134), (5, .int l5_134), (6, .int l6_134), (7, .int l7_134), (8, .int l8_134)] []) := by
    intro μ_134 l2_134 l3_134 l4_134 l5_134 l6_134 l7_134 l8_134 h
    unfold f12_replaces_j134 at h
    refine loop_gen (S := Sto × Int32) (P := fun s_134 => J X K 10 False QQ 0 0 2055 (jw K σ s_134.1 o) 134 [(0, .ref (K.2.2 + 2017)), (1, .int l1), (2, .int l2_134), (3, .int l3_134), (4, .int l4_134), (5, .int l5_134), (6, .int l6_134), (7, .int l7_134), (8, .int s_134.2)] []) ?_ FU (μ_134, l8_134) (Ok.ofbnd h)
    intro B_134 hB_134 hE_134 s_134 h
    obtain ⟨μ_134, l8_134⟩ := s_134
    have h : Ok (f12_replaces_b134 l1 μ_134 l2_134 l3_134 l4_134 l5_134 l6_134 l7_134 l8_134) B_134 := h
    change J X K 10 False QQ 0 0 2055 (jw K σ μ_134 o) 134 [(0, .ref (K.2.2 + 2017)), (1, .int l1), (2, .int l2_134), (3, .int l3_134), (4, .int l4_134), (5, .int l5_134), (6, .int l6_134), (7, .int l7_134), (8, .int l8_134)] []
    have hj_177 : (∀ (μ_177 : Sto) (l8_177 : Int32) (s1_177 : Int32) (s2_177 : Int32), Ok (f12_replaces_j177 l1 l2_134 l3_134 l4_134 l5_134 l6_134 l7_134 μ_177 l8_177 s1_177 s2_177) B_134 → J X K 10 False QQ 0 0 2055 (jw K σ μ_177 o) 177 [(0, .ref (K.2.2 + 2017)), (1, .int l1), (2, .int l2_134), (3, .int l3_134), (4, .int l4_134), (5, .int l5_134), (6, .int l6_134), (7, .int l7_134), (8, .int l8_177)] [.int s2_177, .int s1_177, .ref (K.2.2 + 2022)]) := by
      intro μ_177 l8_177 s1_177 s2_177 h
      unfold f12_replaces_j177 at h
      obtain ⟨g_26, h⟩ := Ok.ofgd h
      obtain ⟨μx_27, e_μx_27, h⟩ := Ok.nm h
      refine Jm_zast C id rfl rfl g_26 e_μx_27 dX12_replaces_177 rfl ?_
      obtain ⟨x8_28, e_x8_28, h⟩ := Ok.nm h
      refine J_iincE (i := 8) (p := 8) (lv' := [(8, .int x8_28), (0, .ref (K.2.2 + 2017)), (1, .int l1), (2, .int l2_134), (3, .int l3_134), (4, .int l4_134), (5, .int l5_134), (6, .int l6_134), (7, .int l7_134)]) C e_x8_28 dX12_replaces_178 rfl (by decide) (Nat.le_of_ble_eq_true rfl) rfl rfl ?_
      refine J_goto (t := 134) C dX12_replaces_181 (by decide) ?_
      refine J.sub [1, 2, 3, 4, 5, 6, 7, 8, 0] rfl ?_
      exact hB_134 (μx_27, x8_28) h.osome
    have hj_176 : (∀ (μ_176 : Sto) (l8_176 : Int32) (s1_176 : Int32), Ok (f12_replaces_j176 l1 l2_134 l3_134 l4_134 l5_134 l6_134 l7_134 μ_176 l8_176 s1_176) B_134 → J X K 10 False QQ 0 0 2055 (jw K σ μ_176 o) 176 [(0, .ref (K.2.2 + 2017)), (1, .int l1), (2, .int l2_134), (3, .int l3_134), (4, .int l4_134), (5, .int l5_134), (6, .int l6_134), (7, .int l7_134), (8, .int l8_176)] [.int s1_176, .ref (K.2.2 + 2022)]) := by
      intro μ_176 l8_176 s1_176 h
      unfold f12_replaces_j176 at h
      refine J_iconst (v := 0) C (by decide) dX12_replaces_176 rfl ?_
      exact hj_177 μ_176 l8_176 s1_176 (0 : Int32) h
    unfold f12_replaces_b134 at h
    refine J_iload (i := 8) (p := 8) C dX12_replaces_134 rfl rfl ?_
    refine J_sipush (v := 300) C (by decide) dX12_replaces_136 rfl ?_
    refine J_icmp_ge (t := 184) C dX12_replaces_139 (by decide) rfl (fun c_27 => ?_) (fun c_27 => ?_)
    · have h := h.pos c_27
      have h := hE_134 μ_134 h.osome
      try dsimp only at h
      refine J.sub [0, 1, 2, 3, 4, 5, 6, 7] rfl ?_
      exact hj_184 μ_134 l2_134 l3_134 l4_134 l5_134 l6_134 l7_134 h
    · have h := h.neg c_27
      refine J_aload_n (i := 0) (p := 0) C dX12_replaces_142 rfl rfl rfl ?_
      refine Jm_getS (o2 := 5) (r2 := 2022) C fp_RX12_23 rfl rfl rfl dX12_replaces_143 rfl ?_
      refine J_iload (i := 8) (p := 8) C dX12_replaces_146 rfl rfl ?_
      refine J_iload (i := 8) (p := 8) C dX12_replaces_148 rfl rfl ?_
      refine J_iload (i := 7) (p := 7) C dX12_replaces_150 rfl rfl ?_
      refine J_isub C dX12_replaces_152 rfl ?_
      refine J_sipush (v := 300) C (by decide) dX12_replaces_153 rfl ?_
      refine J_icmp_ge (t := 176) C dX12_replaces_156 (by decide) rfl (fun c_28 => ?_) (fun c_28 => ?_)
      · have h := h.pos c_28
        exact hj_176 μ_134 l8_134 l8_134 h
      · have h := h.neg c_28
        refine J_aload_n (i := 0) (p := 0) C dX12_replaces_159 rfl rfl rfl ?_
        refine Jm_getS (o2 := 5) (r2 := 2022) C fp_RX12_23 rfl rfl rfl dX12_replaces_160 rfl ?_
        refine J_iload (i := 8) (p := 8) C dX12_replaces_163 rfl rfl ?_
        refine J_iload (i := 7) (p := 7) C dX12_replaces_165 rfl rfl ?_
        refine J_isub C dX12_replaces_167 rfl ?_
        obtain ⟨g_29, h⟩ := Ok.ofgd h
        refine Jm_zald C rfl rfl g_29 dX12_replaces_168 rfl ?_
        refine J_if_eq (t := 176) C dX12_replaces_169 (by decide) rfl (fun c_30 => ?_) (fun c_30 => ?_)
        · have h := h.pos c_30
          exact hj_176 μ_134 l8_134 l8_134 h
        · have h := h.neg c_30
          refine J_iconst (v := 1) C (by decide) dX12_replaces_172 rfl ?_
          refine J_goto (t := 177) C dX12_replaces_173 (by decide) ?_
          exact hj_177 μ_134 l8_134 l8_134 (1 : Int32) h
  have hj_84 : (∀ (μ_84 : Sto) (l2_84 : Int32) (l3_84 : Int32) (l4_84 : Int32) (l5_84 : Int32) (l6_84 : Int32) (l7_84 : Int32) (l8_84 : Int32), Ok (f12_replaces_j84 l1 μ_84 l2_84 l3_84 l4_84 l5_84 l6_84 l7_84 l8_84) Qf → J X K 10 False QQ 0 0 2055 (jw K σ μ_84 o) 84 [(0, .ref (K.2.2 + 2017)), (1, .int l1), (2, .int l2_84), (3, .int l3_84), (4, .int l4_84), (5, .int l5_84), (6, .int l6_84), (7, .int l7_84), (8, .int l8_84)] []) := by
    intro μ_84 l2_84 l3_84 l4_84 l5_84 l6_84 l7_84 l8_84 h
    unfold f12_replaces_j84 at h
    refine loop_gen (S := Sto × Int32) (P := fun s_84 => J X K 10 False QQ 0 0 2055 (jw K σ s_84.1 o) 84 [(0, .ref (K.2.2 + 2017)), (1, .int l1), (2, .int l2_84), (3, .int l3_84), (4, .int l4_84), (5, .int l5_84), (6, .int l6_84), (7, .int l7_84), (8, .int s_84.2)] []) ?_ FU (μ_84, l8_84) (Ok.ofbnd h)
    intro B_84 hB_84 hE_84 s_84 h
    obtain ⟨μ_84, l8_84⟩ := s_84
    have h : Ok (f12_replaces_b84 l1 μ_84 l2_84 l3_84 l4_84 l5_84 l6_84 l7_84 l8_84) B_84 := h
    change J X K 10 False QQ 0 0 2055 (jw K σ μ_84 o) 84 [(0, .ref (K.2.2 + 2017)), (1, .int l1), (2, .int l2_84), (3, .int l3_84), (4, .int l4_84), (5, .int l5_84), (6, .int l6_84), (7, .int l7_84), (8, .int l8_84)] []
    unfold f12_replaces_b84 at h
    refine J_iload (i := 8) (p := 8) C dX12_replaces_84 rfl rfl ?_
    refine J_iload (i := 6) (p := 6) C dX12_replaces_86 rfl rfl ?_
    refine J_iload (i := 7) (p := 7) C dX12_replaces_88 rfl rfl ?_
    refine J_iadd C dX12_replaces_90 rfl ?_
    refine J_icmp_le (t := 117) C dX12_replaces_91 (by decide) rfl (fun c_31 => ?_) (fun c_31 => ?_)
    · have h := h.pos c_31
      have h := hE_84 μ_84 h.osome
      try dsimp only at h
      refine J_goto (t := 184) C dX12_replaces_117 (by decide) ?_
      refine J.sub [0, 1, 2, 3, 4, 5, 6, 7] rfl ?_
      exact hj_184 μ_84 l2_84 l3_84 l4_84 l5_84 l6_84 l7_84 h
    · have h := h.neg c_31
      refine J_aload_n (i := 0) (p := 0) C dX12_replaces_94 rfl rfl rfl ?_
      refine Jm_getS (o2 := 5) (r2 := 2022) C fp_RX12_23 rfl rfl rfl dX12_replaces_95 rfl ?_
      refine J_iload (i := 8) (p := 8) C dX12_replaces_98 rfl rfl ?_
      refine J_aload_n (i := 0) (p := 0) C dX12_replaces_100 rfl rfl rfl ?_
      refine Jm_getS (o2 := 5) (r2 := 2022) C fp_RX12_23 rfl rfl rfl dX12_replaces_101 rfl ?_
      refine J_iload (i := 8) (p := 8) C dX12_replaces_104 rfl rfl ?_
      refine J_iload (i := 7) (p := 7) C dX12_replaces_106 rfl rfl ?_
      refine J_isub C dX12_replaces_108 rfl ?_
      obtain ⟨g_32, h⟩ := Ok.ofgd h
      refine Jm_zald C rfl rfl g_32 dX12_replaces_109 rfl ?_
      obtain ⟨g_33, h⟩ := Ok.ofgd h
      obtain ⟨μx_29, e_μx_29, h⟩ := Ok.nm h
      refine Jm_zast C id rfl rfl g_33 e_μx_29 dX12_replaces_110 rfl ?_
      obtain ⟨x8_30, e_x8_30, h⟩ := Ok.nm h
      refine J_iincE (i := 8) (p := 8) (lv' := [(8, .int x8_30), (0, .ref (K.2.2 + 2017)), (1, .int l1), (2, .int l2_84), (3, .int l3_84), (4, .int l4_84), (5, .int l5_84), (6, .int l6_84), (7, .int l7_84)]) C e_x8_30 dX12_replaces_111 rfl (by decide) (Nat.le_of_ble_eq_true rfl) rfl rfl ?_
      refine J_goto (t := 84) C dX12_replaces_114 (by decide) ?_
      refine J.sub [1, 2, 3, 4, 5, 6, 7, 8, 0] rfl ?_
      exact hB_84 (μx_29, x8_30) h.osome
  have hj_40 : (∀ (μ_40 : Sto) (l2_40 : Int32) (l3_40 : Int32) (l4_40 : Int32) (l5_40 : Int32) (l6_40 : Int32) (l7_40 : Int32), Ok (f12_replaces_j40 l1 μ_40 l2_40 l3_40 l4_40 l5_40 l6_40 l7_40) Qf → J X K 10 False QQ 0 0 2055 (jw K σ μ_40 o) 40 [(0, .ref (K.2.2 + 2017)), (1, .int l1), (2, .int l2_40), (3, .int l3_40), (4, .int l4_40), (5, .int l5_40), (6, .int l6_40), (7, .int l7_40)] []) := by
    intro μ_40 l2_40 l3_40 l4_40 l5_40 l6_40 l7_40 h
    unfold f12_replaces_j40 at h
    refine loop_gen (S := Sto × Int32) (P := fun s_40 => J X K 10 False QQ 0 0 2055 (jw K σ s_40.1 o) 40 [(0, .ref (K.2.2 + 2017)), (1, .int l1), (2, .int l2_40), (3, .int l3_40), (4, .int l4_40), (5, .int l5_40), (6, .int l6_40), (7, .int s_40.2)] []) ?_ FU (μ_40, l7_40) (Ok.ofbnd h)
    intro B_40 hB_40 hE_40 s_40 h
    obtain ⟨μ_40, l7_40⟩ := s_40
    have h : Ok (f12_replaces_b40 l1 μ_40 l2_40 l3_40 l4_40 l5_40 l6_40 l7_40) B_40 := h
    change J X K 10 False QQ 0 0 2055 (jw K σ μ_40 o) 40 [(0, .ref (K.2.2 + 2017)), (1, .int l1), (2, .int l2_40), (3, .int l3_40), (4, .int l4_40), (5, .int l5_40), (6, .int l6_40), (7, .int l7_40)] []
    unfold f12_replaces_b40 at h
    refine J_iload (i := 7) (p := 7) C dX12_replaces_40 rfl rfl ?_
    refine J_iload (i := 6) (p := 6) C dX12_replaces_42 rfl rfl ?_
    refine J_icmp_gt (t := 61) C dX12_replaces_44 (by decide) rfl (fun c_34 => ?_) (fun c_34 => ?_)
    · have h := h.pos c_34
      have h := hE_40 μ_40 h.osome
      try dsimp only at h
      refine J_aload_n (i := 0) (p := 0) C dX12_replaces_61 rfl rfl rfl ?_
      refine J_iload_n (i := 1) (p := 1) C dX12_replaces_62 rfl rfl rfl ?_
      refine Jm_cV (rest := []) (st9 := fun p_35 => [.int p_35]) C hR hX cv_RX12_167 rfl (Nat.le_of_ble_eq_true rfl) (k12_endsIn hl  (Ok.ofbnd h)) rfl rfl (Nat.le_of_ble_eq_true rfl) (Nat.le_of_ble_eq_true rfl) (Nat.le_of_ble_eq_true rfl) ⟨(Nat.le_of_ble_eq_true rfl), (Nat.le_of_ble_eq_true rfl)⟩ dX12_replaces_63 rfl (fun E n9 w9 hx => JT_n hx) (fun _ => rfl) (fun p_35 h => ?_)
      have h : Ok _ _ := h
      change J X K 10 False QQ 0 0 2055 (jw K σ μ_40 o) 66 [(0, .ref (K.2.2 + 2017)), (1, .int l1), (2, .int l2_40), (3, .int l3_40), (4, .int l4_40), (5, .int l5_40), (6, .int l6_40), (7, .int l7_40)] [.int p_35]
      refine J_iload (i := 6) (p := 6) C dX12_replaces_66 rfl rfl ?_
      refine J_iload (i := 5) (p := 5) C dX12_replaces_68 rfl rfl ?_
      refine J_isub C dX12_replaces_70 rfl ?_
      refine J_isub C dX12_replaces_71 rfl ?_
      obtain ⟨x7_31, e_x7_31, h⟩ := Ok.nm h
      refine J_istoreE (i := 7) (lv' := [(7, .int x7_31), (0, .ref (K.2.2 + 2017)), (1, .int l1), (2, .int l2_40), (3, .int l3_40), (4, .int l4_40), (5, .int l5_40), (6, .int l6_40)]) C e_x7_31 dX12_replaces_72 (Nat.le_of_ble_eq_true rfl) rfl rfl ?_
      refine J_iload (i := 7) (p := 0) C dX12_replaces_74 rfl rfl ?_
      refine J_if_le (t := 120) C dX12_replaces_76 (by decide) rfl (fun c_36 => ?_) (fun c_36 => ?_)
      · have h := h.pos c_36
        refine J_iload (i := 7) (p := 0) C dX12_replaces_120 rfl rfl ?_
        refine J_if_ge (t := 184) C dX12_replaces_122 (by decide) rfl (fun c_37 => ?_) (fun c_37 => ?_)
        · have h := h.pos c_37
          refine J.sub [1, 2, 3, 4, 5, 6, 7, 0] rfl ?_
          exact hj_184 μ_40 l2_40 l3_40 l4_40 l5_40 l6_40 x7_31 h
        · have h := h.neg c_37
          refine J_iload (i := 6) (p := 7) C dX12_replaces_125 rfl rfl ?_
          refine J_iload (i := 7) (p := 0) C dX12_replaces_127 rfl rfl ?_
          refine J_iadd C dX12_replaces_129 rfl ?_
          refine J_iconst (v := 1) C (by decide) dX12_replaces_130 rfl ?_
          refine J_iadd C dX12_replaces_131 rfl ?_
          obtain ⟨x8_32, e_x8_32, h⟩ := Ok.nm h
          refine J_istoreE (i := 8) (lv' := [(8, .int x8_32), (7, .int x7_31), (0, .ref (K.2.2 + 2017)), (1, .int l1), (2, .int l2_40), (3, .int l3_40), (4, .int l4_40), (5, .int l5_40), (6, .int l6_40)]) C e_x8_32 dX12_replaces_132 (Nat.le_of_ble_eq_true rfl) rfl rfl ?_
          refine J.sub [2, 3, 4, 5, 6, 7, 8, 1, 0] rfl ?_
          exact hj_134 μ_40 l2_40 l3_40 l4_40 l5_40 l6_40 x7_31 x8_32 h
      · have h := h.neg c_36
        refine J_sipush (v := 299) C (by decide) dX12_replaces_79 rfl ?_
        obtain ⟨x8_33, e_x8_33, h⟩ := Ok.nm h
        refine J_istoreE (i := 8) (lv' := [(8, .int x8_33), (7, .int x7_31), (0, .ref (K.2.2 + 2017)), (1, .int l1), (2, .int l2_40), (3, .int l3_40), (4, .int l4_40), (5, .int l5_40), (6, .int l6_40)]) C e_x8_33 dX12_replaces_82 (Nat.le_of_ble_eq_true rfl) rfl rfl ?_
        refine J.sub [2, 3, 4, 5, 6, 7, 8, 1, 0] rfl ?_
        exact hj_84 μ_40 l2_40 l3_40 l4_40 l5_40 l6_40 x7_31 x8_33 h
    · have h := h.neg c_34
      refine J_aload_n (i := 0) (p := 0) C dX12_replaces_47 rfl rfl rfl ?_
      refine J_iload (i := 7) (p := 7) C dX12_replaces_48 rfl rfl ?_
      refine Jm_cV (rest := []) (st9 := fun p_38 => [.int p_38.1]) C hR hX cv_RX12_152 rfl (Nat.le_of_ble_eq_true rfl) (k12_opens hl  (Ok.ofbnd h)) rfl rfl (Nat.le_of_ble_eq_true rfl) (Nat.le_of_ble_eq_true rfl) (Nat.le_of_ble_eq_true rfl) ⟨(Nat.le_of_ble_eq_true rfl), (Nat.le_of_ble_eq_true rfl)⟩ dX12_replaces_50 rfl (fun E n9 w9 hx => JT_n hx) (fun _ => rfl) (fun p_38 h => ?_)
      have h : Ok _ _ := h
      change J X K 10 False QQ 0 0 2055 (jw K σ p_38.2 o) 53 [(0, .ref (K.2.2 + 2017)), (1, .int l1), (2, .int l2_40), (3, .int l3_40), (4, .int l4_40), (5, .int l5_40), (6, .int l6_40), (7, .int l7_40)] [.int p_38.1]
      obtain ⟨x8_34, e_x8_34, h⟩ := Ok.nm h
      refine J_istoreE (i := 8) (lv' := [(8, .int x8_34), (0, .ref (K.2.2 + 2017)), (1, .int l1), (2, .int l2_40), (3, .int l3_40), (4, .int l4_40), (5, .int l5_40), (6, .int l6_40), (7, .int l7_40)]) C e_x8_34 dX12_replaces_53 (Nat.le_of_ble_eq_true rfl) rfl rfl ?_
      obtain ⟨x7_35, e_x7_35, h⟩ := Ok.nm h
      refine J_iincE (i := 7) (p := 8) (lv' := [(7, .int x7_35), (8, .int x8_34), (0, .ref (K.2.2 + 2017)), (1, .int l1), (2, .int l2_40), (3, .int l3_40), (4, .int l4_40), (5, .int l5_40), (6, .int l6_40)]) C e_x7_35 dX12_replaces_55 rfl (by decide) (Nat.le_of_ble_eq_true rfl) rfl rfl ?_
      refine J_goto (t := 40) C dX12_replaces_58 (by decide) ?_
      refine J.sub [2, 3, 4, 5, 6, 7, 8, 0] rfl ?_
      exact hB_40 (p_38.2, x7_35) h.osome
  unfold f12_replaces at h
  refine J_aload_n (i := 0) (p := 0) C dX12_replaces_0 rfl rfl rfl ?_
  refine Jm_getS (o2 := 12) (r2 := 2029) C fp_RX12_51 rfl rfl rfl dX12_replaces_1 rfl ?_
  refine J_iload_n (i := 1) (p := 1) C dX12_replaces_4 rfl rfl rfl ?_
  obtain ⟨g_42, h⟩ := Ok.ofgd h
  refine Jm_iald C rfl rfl g_42 dX12_replaces_5 rfl ?_
  obtain ⟨x2_39, e_x2_39, h⟩ := Ok.nm h
  refine J_istoreE_n (i := 2) (lv' := [(2, .int x2_39), (0, .ref (K.2.2 + 2017)), (1, .int l1)]) C e_x2_39 dX12_replaces_6 rfl (Nat.le_of_ble_eq_true rfl) rfl rfl ?_
  refine J_aload_n (i := 0) (p := 1) C dX12_replaces_7 rfl rfl rfl ?_
  refine Jm_getS (o2 := 13) (r2 := 2030) C fp_RX12_54 rfl rfl rfl dX12_replaces_8 rfl ?_
  refine J_iload_n (i := 1) (p := 2) C dX12_replaces_11 rfl rfl rfl ?_
  obtain ⟨g_43, h⟩ := Ok.ofgd h
  refine Jm_iald C rfl rfl g_43 dX12_replaces_12 rfl ?_
  obtain ⟨x3_40, e_x3_40, h⟩ := Ok.nm h
  refine J_istoreE_n (i := 3) (lv' := [(3, .int x3_40), (2, .int x2_39), (0, .ref (K.2.2 + 2017)), (1, .int l1)]) C e_x3_40 dX12_replaces_13 rfl (Nat.le_of_ble_eq_true rfl) rfl rfl ?_
  refine J_aload_n (i := 0) (p := 2) C dX12_replaces_14 rfl rfl rfl ?_
  refine Jm_getS (o2 := 15) (r2 := 2032) C fp_RX12_60 rfl rfl rfl dX12_replaces_15 rfl ?_
  refine J_iload_n (i := 1) (p := 3) C dX12_replaces_18 rfl rfl rfl ?_
  obtain ⟨g_44, h⟩ := Ok.ofgd h
  refine Jm_iald C rfl rfl g_44 dX12_replaces_19 rfl ?_
  obtain ⟨x4_41, e_x4_41, h⟩ := Ok.nm h
  refine J_istoreE (i := 4) (lv' := [(4, .int x4_41), (3, .int x3_40), (2, .int x2_39), (0, .ref (K.2.2 + 2017)), (1, .int l1)]) C e_x4_41 dX12_replaces_20 (Nat.le_of_ble_eq_true rfl) rfl rfl ?_
  refine J_aload_n (i := 0) (p := 3) C dX12_replaces_22 rfl rfl rfl ?_
  refine J_iload_n (i := 2) (p := 2) C dX12_replaces_23 rfl rfl rfl ?_
  refine Jm_cV (rest := []) (st9 := fun p_45 => [.int p_45]) C hR hX cv_RX12_149 rfl (Nat.le_of_ble_eq_true rfl) (k12_lineAt hl  (Ok.ofbnd h)) rfl rfl (Nat.le_of_ble_eq_true rfl) (Nat.le_of_ble_eq_true rfl) (Nat.le_of_ble_eq_true rfl) ⟨(Nat.le_of_ble_eq_true rfl), (Nat.le_of_ble_eq_true rfl)⟩ dX12_replaces_24 rfl (fun E n9 w9 hx => JT_n hx) (fun _ => rfl) (fun p_45 h => ?_)
  have h : Ok _ _ := h
  change J X K 10 False QQ 0 0 2055 (jw K σ μ o) 27 [(4, .int x4_41), (3, .int x3_40), (2, .int x2_39), (0, .ref (K.2.2 + 2017)), (1, .int l1)] [.int p_45]
  obtain ⟨x5_42, e_x5_42, h⟩ := Ok.nm h
  refine J_istoreE (i := 5) (lv' := [(5, .int x5_42), (4, .int x4_41), (3, .int x3_40), (2, .int x2_39), (0, .ref (K.2.2 + 2017)), (1, .int l1)]) C e_x5_42 dX12_replaces_27 (Nat.le_of_ble_eq_true rfl) rfl rfl ?_
  refine J_aload_n (i := 0) (p := 4) C dX12_replaces_29 rfl rfl rfl ?_
  refine J_iload_n (i := 3) (p := 2) C dX12_replaces_30 rfl rfl rfl ?_
  refine Jm_cV (rest := []) (st9 := fun p_46 => [.int p_46]) C hR hX cv_RX12_149 rfl (Nat.le_of_ble_eq_true rfl) (k12_lineAt hl  (Ok.ofbnd h)) rfl rfl (Nat.le_of_ble_eq_true rfl) (Nat.le_of_ble_eq_true rfl) (Nat.le_of_ble_eq_true rfl) ⟨(Nat.le_of_ble_eq_true rfl), (Nat.le_of_ble_eq_true rfl)⟩ dX12_replaces_31 rfl (fun E n9 w9 hx => JT_n hx) (fun _ => rfl) (fun p_46 h => ?_)
  have h : Ok _ _ := h
  change J X K 10 False QQ 0 0 2055 (jw K σ μ o) 34 [(5, .int x5_42), (4, .int x4_41), (3, .int x3_40), (2, .int x2_39), (0, .ref (K.2.2 + 2017)), (1, .int l1)] [.int p_46]
  obtain ⟨x6_43, e_x6_43, h⟩ := Ok.nm h
  refine J_istoreE (i := 6) (lv' := [(6, .int x6_43), (5, .int x5_42), (4, .int x4_41), (3, .int x3_40), (2, .int x2_39), (0, .ref (K.2.2 + 2017)), (1, .int l1)]) C e_x6_43 dX12_replaces_34 (Nat.le_of_ble_eq_true rfl) rfl rfl ?_
  refine J_iload (i := 5) (p := 1) C dX12_replaces_36 rfl rfl ?_
  obtain ⟨x7_44, e_x7_44, h⟩ := Ok.nm h
  refine J_istoreE (i := 7) (lv' := [(7, .int x7_44), (6, .int x6_43), (5, .int x5_42), (4, .int x4_41), (3, .int x3_40), (2, .int x2_39), (0, .ref (K.2.2 + 2017)), (1, .int l1)]) C e_x7_44 dX12_replaces_38 (Nat.le_of_ble_eq_true rfl) rfl rfl ?_
  refine J.sub [6, 7, 5, 4, 3, 2, 1, 0] rfl ?_
  exact hj_40 μ x2_39 x3_40 x4_41 x5_42 x6_43 x7_44 h
def f12_orders_j112 (μ_112 : Sto) (l1_112 : Int32) (l2_112 : Int32) : Option ((Sto × Int32 × Int32) ⊕ (Sto × Int32)) :=
  stp (l2_112 + (1 : Int32)) fun x2_1 =>
  some (.inl (μ_112, l1_112, x2_1))
def f12_orders_b72 (μ_72 : Sto) (l1_72 : Int32) (l2_72 : Int32) : Option ((Sto × Int32 × Int32) ⊕ (Sto × Int32)) :=
  if (fI μ_72 2017 6) ≤ l2_72 then
    some (.inr (μ_72, l1_72))
  else
    gd (inb l2_72 8) <|
    gd (inb (l1_72 - (1 : Int32)) 8) <|
    if (aI μ_72 2019 (Int32.toNatClampNeg l2_72)) = (aI μ_72 2019 (Int32.toNatClampNeg (l1_72 - (1 : Int32)))) then
      f12_orders_j112 μ_72 l1_72 l2_72
    else
      gd (inb l2_72 8) <|
      gd (inb l1_72 8) <|
      stp (uA μ_72 2019 (Int32.toNatClampNeg l1_72) (aI μ_72 2019 (Int32.toNatClampNeg l2_72))) fun μx_3 =>
      stp (l1_72 + (1 : Int32)) fun x1_4 =>
      f12_orders_j112 μx_3 x1_4 l2_72
def f12_orders_j72 (μ_72 : Sto) (l1_72 : Int32) (l2_72 : Int32) : Option (Sto) :=
  bnd (loopF (fun s_72 => f12_orders_b72 s_72.1 s_72.2.1 s_72.2.2) FU (μ_72, l1_72, l2_72)) fun r_72 =>
    stp (uI r_72.1 2017 6 r_72.2) fun μx_5 =>
    some μx_5
def f12_orders_j55 (μ_55 : Sto) (l1_55 : Int32) (l2_55 : Int32) (l3_55 : Int32) : Option ((Sto × Int32) ⊕ Sto) :=
  gd (inb l3_55 8) <|
  stp (uA μ_55 2019 (Int32.toNatClampNeg l3_55) l2_55) fun μx_6 =>
  stp (l1_55 + (1 : Int32)) fun x1_7 =>
  some (.inl (μx_6, x1_7))
def f12_orders_b19 (μ_19 : Sto) (l1_19 : Int32) (l2_19 : Int32) (l3_19 : Int32) : Option ((Sto × Int32) ⊕ (Sto × Int32)) :=
  if l3_19 ≤ 0 then
    some (.inr (μ_19, l3_19))
  else
    gd (inb (l3_19 - (1 : Int32)) 8) <|
    if (aI μ_19 2019 (Int32.toNatClampNeg (l3_19 - (1 : Int32)))) ≤ l2_19 then
      some (.inr (μ_19, l3_19))
    else
      gd (inb (l3_19 - (1 : Int32)) 8) <|
      gd (inb l3_19 8) <|
      stp (uA μ_19 2019 (Int32.toNatClampNeg l3_19) (aI μ_19 2019 (Int32.toNatClampNeg (l3_19 - (1 : Int32))))) fun μx_8 =>
      stp (l3_19 + (-1 : Int32)) fun x3_9 =>
      some (.inl (μx_8, x3_9))
def f12_orders_j19 (μ_19 : Sto) (l1_19 : Int32) (l2_19 : Int32) (l3_19 : Int32) : Option ((Sto × Int32) ⊕ Sto) :=
  bnd (loopF (fun s_19 => f12_orders_b19 s_19.1 l1_19 l2_19 s_19.2) FU (μ_19, l3_19)) fun r_19 =>
    f12_orders_j55 r_19.1 l1_19 l2_19 r_19.2
def f12_orders_b2 (μ_2 : Sto) (l1_2 : Int32) : Option ((Sto × Int32) ⊕ Sto) :=
  if (fI μ_2 2017 6) ≤ l1_2 then
    some (.inr μ_2)
  else
    gd (inb l1_2 8) <|
    stp (aI μ_2 2019 (Int32.toNatClampNeg l1_2)) fun x2_12 =>
    stp l1_2 fun x3_13 =>
    f12_orders_j19 μ_2 l1_2 x2_12 x3_13
def f12_orders_j2 (μ_2 : Sto) (l1_2 : Int32) : Option (Sto) :=
  bnd (loopF (fun s_2 => f12_orders_b2 s_2.1 s_2.2) FU (μ_2, l1_2)) fun r_2 =>
    stp (1 : Int32) fun x1_14 =>
    stp (1 : Int32) fun x2_15 =>
    f12_orders_j72 r_2 x1_14 x2_15
def f12_orders (μ : Sto) : Option (Sto) :=
  stp (1 : Int32) fun x1_16 =>
  f12_orders_j2 μ x1_16
set_option maxHeartbeats 4000000 in
set_option maxRecDepth 100000 in
theorem k12_orders {l : Launch} {K : JK} (hl : l.stackTraces = false) {σ μ : Sto} {o : Int64}   {Qf : Sto → Prop} (h : Ok (f12_orders μ) Qf) : Con l K yX12_orders (.code yX12_orders cX12_orders 4 none :: TB) 0 0 0 False [.ref (K.2.2 + 2017)] 2055 (jw K σ μ o) (PR Qf (fun p => none) (fun p => jw K σ p o)) PN := by
  refine Con.enter (own := RX12) hl (by decide) rfl (Nat.le_of_ble_eq_true rfl) ?_
  intro X hX hR C hret hnt
  generalize hQQ : jQ X K 0 0 (PR Qf (fun p => none) (fun p => jw K σ p o)) PN False = QQ
  change J X K 4 False QQ 0 0 2055 (jw K σ μ o) 0 [(0, .ref (K.2.2 + 2017))] []
  have hj_72 : (∀ (μ_72 : Sto) (l1_72 : Int32) (l2_72 : Int32), Ok (f12_orders_j72 μ_72 l1_72 l2_72) Qf → J X K 4 False QQ 0 0 2055 (jw K σ μ_72 o) 72 [(0, .ref (K.2.2 + 2017)), (1, .int l1_72), (2, .int l2_72)] []) := by
    intro μ_72 l1_72 l2_72 h
    unfold f12_orders_j72 at h
    refine loop_gen (S := Sto × Int32 × Int32) (P := fun s_72 => J X K 4 False QQ 0 0 2055 (jw K σ s_72.1 o) 72 [(0, .ref (K.2.2 + 2017)), (1, .int s_72.2.1), (2, .int s_72.2.2)] []) ?_ FU (μ_72, l1_72, l2_72) (Ok.ofbnd h)
    intro B_72 hB_72 hE_72 s_72 h
    obtain ⟨μ_72, l1_72, l2_72⟩ := s_72
    have h : Ok (f12_orders_b72 μ_72 l1_72 l2_72) B_72 := h
    change J X K 4 False QQ 0 0 2055 (jw K σ μ_72 o) 72 [(0, .ref (K.2.2 + 2017)), (1, .int l1_72), (2, .int l2_72)] []
    have hj_112 : (∀ (μ_112 : Sto) (l1_112 : Int32) (l2_112 : Int32), Ok (f12_orders_j112 μ_112 l1_112 l2_112) B_72 → J X K 4 False QQ 0 0 2055 (jw K σ μ_112 o) 112 [(0, .ref (K.2.2 + 2017)), (1, .int l1_112), (2, .int l2_112)] []) := by
      intro μ_112 l1_112 l2_112 h
      unfold f12_orders_j112 at h
      obtain ⟨x2_1, e_x2_1, h⟩ := Ok.nm h
      refine J_iincE (i := 2) (p := 2) (lv' := [(2, .int x2_1), (0, .ref (K.2.2 + 2017)), (1, .int l1_112)]) C e_x2_1 dX12_orders_112 rfl (by decide) (Nat.le_of_ble_eq_true rfl) rfl rfl ?_
      refine J_goto (t := 72) C dX12_orders_115 (by decide) ?_
      refine J.sub [1, 2, 0] rfl ?_
      exact hB_72 (μ_112, l1_112, x2_1) h.osome
    unfold f12_orders_b72 at h
    refine J_iload_n (i := 2) (p := 2) C dX12_orders_72 rfl rfl rfl ?_
    refine J_aload_n (i := 0) (p := 0) C dX12_orders_73 rfl rfl rfl ?_
    refine Jm_getI C fp_RX12_26 rfl rfl dX12_orders_74 rfl ?_
    refine J_icmp_ge (t := 118) C dX12_orders_77 (by decide) rfl (fun c_1 => ?_) (fun c_1 => ?_)
    · have h := h.pos c_1
      have h := hE_72 (μ_72, l1_72) h.osome
      try dsimp only at h
      refine J_aload_n (i := 0) (p := 0) C dX12_orders_118 rfl rfl rfl ?_
      refine J_iload_n (i := 1) (p := 1) C dX12_orders_119 rfl rfl rfl ?_
      obtain ⟨μx_2, e_μx_2, h⟩ := Ok.nm h
      refine Jm_putI C id fp_RX12_26 fw_11_6 rfl rfl rfl e_μx_2 dX12_orders_120 rfl ?_
      rw [← hQQ]
      exact J_vret C hret (Nat.le_of_ble_eq_true rfl) (Nat.le_of_ble_eq_true rfl) ⟨_, h.osome, rfl, rfl, rfl⟩ dX12_orders_123
    · have h := h.neg c_1
      refine J_aload_n (i := 0) (p := 0) C dX12_orders_80 rfl rfl rfl ?_
      refine Jm_getS (o2 := 2) (r2 := 2019) C fp_RX12_13 rfl rfl rfl dX12_orders_81 rfl ?_
      refine J_iload_n (i := 2) (p := 2) C dX12_orders_84 rfl rfl rfl ?_
      obtain ⟨g_2, h⟩ := Ok.ofgd h
      refine Jm_iald C rfl rfl g_2 dX12_orders_85 rfl ?_
      refine J_aload_n (i := 0) (p := 0) C dX12_orders_86 rfl rfl rfl ?_
      refine Jm_getS (o2 := 2) (r2 := 2019) C fp_RX12_13 rfl rfl rfl dX12_orders_87 rfl ?_
      refine J_iload_n (i := 1) (p := 1) C dX12_orders_90 rfl rfl rfl ?_
      refine J_iconst (v := 1) C (by decide) dX12_orders_91 rfl ?_
      refine J_isub C dX12_orders_92 rfl ?_
      obtain ⟨g_3, h⟩ := Ok.ofgd h
      refine Jm_iald C rfl rfl g_3 dX12_orders_93 rfl ?_
      refine J_icmp_eq (t := 112) C dX12_orders_94 (by decide) rfl (fun c_4 => ?_) (fun c_4 => ?_)
      · have h := h.pos c_4
        exact hj_112 μ_72 l1_72 l2_72 h
      · have h := h.neg c_4
        refine J_aload_n (i := 0) (p := 0) C dX12_orders_97 rfl rfl rfl ?_
        refine Jm_getS (o2 := 2) (r2 := 2019) C fp_RX12_13 rfl rfl rfl dX12_orders_98 rfl ?_
        refine J_iload_n (i := 1) (p := 1) C dX12_orders_101 rfl rfl rfl ?_
        refine J_aload_n (i := 0) (p := 0) C dX12_orders_102 rfl rfl rfl ?_
        refine Jm_getS (o2 := 2) (r2 := 2019) C fp_RX12_13 rfl rfl rfl dX12_orders_103 rfl ?_
        refine J_iload_n (i := 2) (p := 2) C dX12_orders_106 rfl rfl rfl ?_
        obtain ⟨g_5, h⟩ := Ok.ofgd h
        refine Jm_iald C rfl rfl g_5 dX12_orders_107 rfl ?_
        obtain ⟨g_6, h⟩ := Ok.ofgd h
        obtain ⟨μx_3, e_μx_3, h⟩ := Ok.nm h
        refine Jm_iast C id rfl rfl g_6 e_μx_3 dX12_orders_108 rfl ?_
        obtain ⟨x1_4, e_x1_4, h⟩ := Ok.nm h
        refine J_iincE (i := 1) (p := 1) (lv' := [(1, .int x1_4), (0, .ref (K.2.2 + 2017)), (2, .int l2_72)]) C e_x1_4 dX12_orders_109 rfl (by decide) (Nat.le_of_ble_eq_true rfl) rfl rfl ?_
        refine J.sub [1, 0, 2] rfl ?_
        exact hj_112 μx_3 x1_4 l2_72 h
  have hj_2 : (∀ (μ_2 : Sto) (l1_2 : Int32), Ok (f12_orders_j2 μ_2 l1_2) Qf → J X K 4 False QQ 0 0 2055 (jw K σ μ_2 o) 2 [(0, .ref (K.2.2 + 2017)), (1, .int l1_2)] []) := by
    intro μ_2 l1_2 h
    unfold f12_orders_j2 at h
    refine loop_gen (S := Sto × Int32) (P := fun s_2 => J X K 4 False QQ 0 0 2055 (jw K σ s_2.1 o) 2 [(0, .ref (K.2.2 + 2017)), (1, .int s_2.2)] []) ?_ FU (μ_2, l1_2) (Ok.ofbnd h)
    intro B_2 hB_2 hE_2 s_2 h
    obtain ⟨μ_2, l1_2⟩ := s_2
    have h : Ok (f12_orders_b2 μ_2 l1_2) B_2 := h
    change J X K 4 False QQ 0 0 2055 (jw K σ μ_2 o) 2 [(0, .ref (K.2.2 + 2017)), (1, .int l1_2)] []
    have hj_55 : (∀ (μ_55 : Sto) (l1_55 : Int32) (l2_55 : Int32) (l3_55 : Int32), Ok (f12_orders_j55 μ_55 l1_55 l2_55 l3_55) B_2 → J X K 4 False QQ 0 0 2055 (jw K σ μ_55 o) 55 [(0, .ref (K.2.2 + 2017)), (1, .int l1_55), (2, .int l2_55), (3, .int l3_55)] []) := by
      intro μ_55 l1_55 l2_55 l3_55 h
      unfold f12_orders_j55 at h
      refine J_aload_n (i := 0) (p := 0) C dX12_orders_55 rfl rfl rfl ?_
      refine Jm_getS (o2 := 2) (r2 := 2019) C fp_RX12_13 rfl rfl rfl dX12_orders_56 rfl ?_
      refine J_iload_n (i := 3) (p := 3) C dX12_orders_59 rfl rfl rfl ?_
      refine J_iload_n (i := 2) (p := 2) C dX12_orders_60 rfl rfl rfl ?_
      obtain ⟨g_7, h⟩ := Ok.ofgd h
      obtain ⟨μx_6, e_μx_6, h⟩ := Ok.nm h
      refine Jm_iast C id rfl rfl g_7 e_μx_6 dX12_orders_61 rfl ?_
      obtain ⟨x1_7, e_x1_7, h⟩ := Ok.nm h
      refine J_iincE (i := 1) (p := 1) (lv' := [(1, .int x1_7), (0, .ref (K.2.2 + 2017)), (2, .int l2_55), (3, .int l3_55)]) C e_x1_7 dX12_orders_62 rfl (by decide) (Nat.le_of_ble_eq_true rfl) rfl rfl ?_
      refine J_goto (t := 2) C dX12_orders_65 (by decide) ?_
      refine J.sub [1, 0] rfl ?_
      exact hB_2 (μx_6, x1_7) h.osome
    have hj_19 : (∀ (μ_19 : Sto) (l1_19 : Int32) (l2_19 : Int32) (l3_19 : Int32), Ok (f12_orders_j19 μ_19 l1_19 l2_19 l3_19) B_2 → J X K 4 False QQ 0 0 2055 (jw K σ μ_19 o) 19 [(0, .ref (K.2.2 + 2017)), (1, .int l1_19), (2, .int l2_19), (3, .int l3_19)] []) := by
      intro μ_19 l1_19 l2_19 l3_19 h
      unfold f12_orders_j19 at h
      refine loop_gen (S := Sto × Int32) (P := fun s_19 => J X K 4 False QQ 0 0 2055 (jw K σ s_19.1 o) 19 [(0, .ref (K.2.2 + 2017)), (1, .int l1_19), (2, .int l2_19), (3, .int s_19.2)] []) ?_ FU (μ_19, l3_19) (Ok.ofbnd h)
      intro B_19 hB_19 hE_19 s_19 h
      obtain ⟨μ_19, l3_19⟩ := s_19
      have h : Ok (f12_orders_b19 μ_19 l1_19 l2_19 l3_19) B_19 := h
      change J X K 4 False QQ 0 0 2055 (jw K σ μ_19 o) 19 [(0, .ref (K.2.2 + 2017)), (1, .int l1_19), (2, .int l2_19), (3, .int l3_19)] []
      unfold f12_orders_b19 at h
      refine J_iload_n (i := 3) (p := 3) C dX12_orders_19 rfl rfl rfl ?_
      refine J_if_le (t := 55) C dX12_orders_20 (by decide) rfl (fun c_8 => ?_) (fun c_8 => ?_)
      · have h := h.pos c_8
        have h := hE_19 (μ_19, l3_19) h.osome
        try dsimp only at h
        exact hj_55 μ_19 l1_19 l2_19 l3_19 h
      · have h := h.neg c_8
        refine J_aload_n (i := 0) (p := 0) C dX12_orders_23 rfl rfl rfl ?_
        refine Jm_getS (o2 := 2) (r2 := 2019) C fp_RX12_13 rfl rfl rfl dX12_orders_24 rfl ?_
        refine J_iload_n (i := 3) (p := 3) C dX12_orders_27 rfl rfl rfl ?_
        refine J_iconst (v := 1) C (by decide) dX12_orders_28 rfl ?_
        refine J_isub C dX12_orders_29 rfl ?_
        obtain ⟨g_9, h⟩ := Ok.ofgd h
        refine Jm_iald C rfl rfl g_9 dX12_orders_30 rfl ?_
        refine J_iload_n (i := 2) (p := 2) C dX12_orders_31 rfl rfl rfl ?_
        refine J_icmp_le (t := 55) C dX12_orders_32 (by decide) rfl (fun c_10 => ?_) (fun c_10 => ?_)
        · have h := h.pos c_10
          have h := hE_19 (μ_19, l3_19) h.osome
          try dsimp only at h
          exact hj_55 μ_19 l1_19 l2_19 l3_19 h
        · have h := h.neg c_10
          refine J_aload_n (i := 0) (p := 0) C dX12_orders_35 rfl rfl rfl ?_
          refine Jm_getS (o2 := 2) (r2 := 2019) C fp_RX12_13 rfl rfl rfl dX12_orders_36 rfl ?_
          refine J_iload_n (i := 3) (p := 3) C dX12_orders_39 rfl rfl rfl ?_
          refine J_aload_n (i := 0) (p := 0) C dX12_orders_40 rfl rfl rfl ?_
          refine Jm_getS (o2 := 2) (r2 := 2019) C fp_RX12_13 rfl rfl rfl dX12_orders_41 rfl ?_
          refine J_iload_n (i := 3) (p := 3) C dX12_orders_44 rfl rfl rfl ?_
          refine J_iconst (v := 1) C (by decide) dX12_orders_45 rfl ?_
          refine J_isub C dX12_orders_46 rfl ?_
          obtain ⟨g_11, h⟩ := Ok.ofgd h
          refine Jm_iald C rfl rfl g_11 dX12_orders_47 rfl ?_
          obtain ⟨g_12, h⟩ := Ok.ofgd h
          obtain ⟨μx_8, e_μx_8, h⟩ := Ok.nm h
          refine Jm_iast C id rfl rfl g_12 e_μx_8 dX12_orders_48 rfl ?_
          obtain ⟨x3_9, e_x3_9, h⟩ := Ok.nm h
          refine J_iincE (i := 3) (p := 3) (lv' := [(3, .int x3_9), (0, .ref (K.2.2 + 2017)), (1, .int l1_19), (2, .int l2_19)]) C e_x3_9 dX12_orders_49 rfl (by decide) (Nat.le_of_ble_eq_true rfl) rfl rfl ?_
          refine J_goto (t := 19) C dX12_orders_52 (by decide) ?_
          refine J.sub [1, 2, 3, 0] rfl ?_
          exact hB_19 (μx_8, x3_9) h.osome
    unfold f12_orders_b2 at h
    refine J_iload_n (i := 1) (p := 1) C dX12_orders_2 rfl rfl rfl ?_
    refine J_aload_n (i := 0) (p := 0) C dX12_orders_3 rfl rfl rfl ?_
    refine Jm_getI C fp_RX12_26 rfl rfl dX12_orders_4 rfl ?_
    refine J_icmp_ge (t := 68) C dX12_orders_7 (by decide) rfl (fun c_13 => ?_) (fun c_13 => ?_)
    · have h := h.pos c_13
      have h := hE_2 μ_2 h.osome
      try dsimp only at h
      refine J_iconst (v := 1) C (by decide) dX12_orders_68 rfl ?_
      obtain ⟨x1_10, e_x1_10, h⟩ := Ok.nm h
      refine J_istoreE_n (i := 1) (lv' := [(1, .int x1_10), (0, .ref (K.2.2 + 2017))]) C e_x1_10 dX12_orders_69 rfl (Nat.le_of_ble_eq_true rfl) rfl rfl ?_
      refine J_iconst (v := 1) C (by decide) dX12_orders_70 rfl ?_
      obtain ⟨x2_11, e_x2_11, h⟩ := Ok.nm h
      refine J_istoreE_n (i := 2) (lv' := [(2, .int x2_11), (1, .int x1_10), (0, .ref (K.2.2 + 2017))]) C e_x2_11 dX12_orders_71 rfl (Nat.le_of_ble_eq_true rfl) rfl rfl ?_
      refine J.sub [2, 1, 0] rfl ?_
      exact hj_72 μ_2 x1_10 x2_11 h
    · have h := h.neg c_13
      refine J_aload_n (i := 0) (p := 0) C dX12_orders_10 rfl rfl rfl ?_
      refine Jm_getS (o2 := 2) (r2 := 2019) C fp_RX12_13 rfl rfl rfl dX12_orders_11 rfl ?_
      refine J_iload_n (i := 1) (p := 1) C dX12_orders_14 rfl rfl rfl ?_
      obtain ⟨g_14, h⟩ := Ok.ofgd h
      refine Jm_iald C rfl rfl g_14 dX12_orders_15 rfl ?_
      obtain ⟨x2_12, e_x2_12, h⟩ := Ok.nm h
      refine J_istoreE_n (i := 2) (lv' := [(2, .int x2_12), (0, .ref (K.2.2 + 2017)), (1, .int l1_2)]) C e_x2_12 dX12_orders_16 rfl (Nat.le_of_ble_eq_true rfl) rfl rfl ?_
      refine J_iload_n (i := 1) (p := 2) C dX12_orders_17 rfl rfl rfl ?_
      obtain ⟨x3_13, e_x3_13, h⟩ := Ok.nm h
      refine J_istoreE_n (i := 3) (lv' := [(3, .int x3_13), (2, .int x2_12), (0, .ref (K.2.2 + 2017)), (1, .int l1_2)]) C e_x3_13 dX12_orders_18 rfl (Nat.le_of_ble_eq_true rfl) rfl rfl ?_
      refine J.sub [2, 3, 1, 0] rfl ?_
      exact hj_19 μ_2 l1_2 x2_12 x3_13 h
  unfold f12_orders at h
  refine J_iconst (v := 1) C (by decide) dX12_orders_0 rfl ?_
  obtain ⟨x1_16, e_x1_16, h⟩ := Ok.nm h
  refine J_istoreE_n (i := 1) (lv' := [(1, .int x1_16), (0, .ref (K.2.2 + 2017))]) C e_x1_16 dX12_orders_1 rfl (Nat.le_of_ble_eq_true rfl) rfl rfl ?_
  refine J.sub [1, 0] rfl ?_
  exact hj_2 μ x1_16 h
def f12_acts_b148 (μ_148 : Sto) (l2_148 : Int32) : Option ((Sto × Int32) ⊕ Sto) :=
  if l2_148 < 0 then
    some (.inr μ_148)
  else
    bnd (f12_replaces μ_148 l2_148) fun p_3 =>
    stp (l2_148 + (-1 : Int32)) fun x2_1 =>
    some (.inl (p_3, x2_1))
def f12_acts_j148 (μ_148 : Sto) (l2_148 : Int32) : Option (Int32 × Sto) :=
  bnd (loopF (fun s_148 => f12_acts_b148 s_148.1 s_148.2) FU (μ_148, l2_148)) fun r_148 =>
    bnd (f12_orders r_148) fun p_4 =>
    some ((1 : Int32), p_4)
def f12_acts_j141 (μ_141 : Sto) : Option (Int32 × Sto) :=
  stp ((fI μ_141 2017 27) - (1 : Int32)) fun x2_2 =>
  f12_acts_j148 μ_141 x2_2
def f12_acts_j127 (μ_127 : Sto) (s1_127 : Int32) : Option (Int32 × Sto) :=
  stp (uI μ_127 2017 33 s1_127) fun μx_3 =>
  bnd (f12_ahead (fI μx_3 2017 31)) fun p_5 =>
  bnd (f12_keeps μx_3 p_5) fun p_6 =>
  f12_acts_j141 p_6
def f12_acts_j53 (μ_53 : Sto) (l1_53 : Int32) : Option (Int32 × Sto) :=
  if l1_53 = 0 then
    f12_acts_j141 μ_53
  else
    stp (uI μ_53 2017 31 ((fI μ_53 2017 31) + (1 : Int32))) fun μx_4 =>
    gd (inb (fI μx_4 2017 31) 151) <|
    stp (uA μx_4 2034 (Int32.toNatClampNeg (fI μx_4 2017 31)) (fI μx_4 2017 32)) fun μx_5 =>
    gd (inb (fI μx_5 2017 31) 151) <|
    stp (uA μx_5 2035 (Int32.toNatClampNeg (fI μx_5 2017 31)) (0 : Int32)) fun μx_6 =>
    gd (inb (fI μx_6 2017 32) 151) <|
    stp (uA μx_6 2035 (Int32.toNatClampNeg (fI μx_6 2017 32)) (fI μx_6 2017 31)) fun μx_7 =>
    stp (uI μx_7 2017 32 (fI μx_7 2017 31)) fun μx_8 =>
    if (fI μx_8 2017 34) = 0 then
      f12_acts_j127 μx_8 (-1 : Int32)
    else
      f12_acts_j127 μx_8 (fI μx_8 2017 31)
def f12_acts_j51 (μ_51 : Sto) : Option (Int32 × Sto) :=
  some ((0 : Int32), μ_51)
def f12_acts_j29 (μ_29 : Sto) (s0_29 : Int32) : Option (Int32 × Sto) :=
  stp s0_29 fun x1_9 =>
  bnd (f12_isTooMuch μ_29) fun p_12 =>
  if p_12 = 0 then
    if x1_9 = 0 then
      f12_acts_j53 μ_29 x1_9
    else
      if (fI μ_29 2017 31) = (150 : Int32) then
        f12_acts_j51 μ_29
      else
        f12_acts_j53 μ_29 x1_9
  else
    f12_acts_j51 μ_29
def f12_acts_j24 (μ_24 : Sto) : Option (Int32 × Sto) :=
  f12_acts_j29 μ_24 (1 : Int32)
def f12_acts (μ : Sto) : Option (Int32 × Sto) :=
  if (fI μ 2017 27) = 0 then
    some ((1 : Int32), μ)
  else
    if (fI μ 2017 34) = 0 then
      f12_acts_j24 μ
    else
      if (fI μ 2017 33) = (-1 : Int32) then
        f12_acts_j24 μ
      else
        f12_acts_j29 μ (0 : Int32)
set_option maxHeartbeats 4000000 in
set_option maxRecDepth 100000 in
theorem k12_acts {l : Launch} {K : JK} (hl : l.stackTraces = false) {σ μ : Sto} {o : Int64}   {Qf : Int32 × Sto → Prop} (h : Ok (f12_acts μ) Qf) : Con l K yX12_acts (.code yX12_acts cX12_acts 3 (some .boolean) :: TB) 2 0 0 False [.ref (K.2.2 + 2017)] 2055 (jw K σ μ o) (PR Qf (fun p => some (.int p.1)) (fun p => jw K σ p.2 o)) PN := by
  refine Con.enter (own := RX12) hl (by decide) rfl (Nat.le_of_ble_eq_true rfl) ?_
  intro X hX hR C hret hnt
  generalize hQQ : jQ X K 0 0 (PR Qf (fun p => some (.int p.1)) (fun p => jw K σ p.2 o)) PN False = QQ
  change J X K 3 False QQ 0 0 2055 (jw K σ μ o) 0 [(0, .ref (K.2.2 + 2017))] []
  have hj_148 : (∀ (μ_148 : Sto) (l2_148 : Int32), Ok (f12_acts_j148 μ_148 l2_148) Qf → J X K 3 False QQ 0 0 2055 (jw K σ μ_148 o) 148 [(0, .ref (K.2.2 + 2017)), (2, .int l2_148)] []) := by
    intro μ_148 l2_148 h
    unfold f12_acts_j148 at h
    refine loop_gen (S := Sto × Int32) (P := fun s_148 => J X K 3 False QQ 0 0 2055 (jw K σ s_148.1 o) 148 [(0, .ref (K.2.2 + 2017)), (2, .int s_148.2)] []) ?_ FU (μ_148, l2_148) (Ok.ofbnd h)
    intro B_148 hB_148 hE_148 s_148 h
    obtain ⟨μ_148, l2_148⟩ := s_148
    have h : Ok (f12_acts_b148 μ_148 l2_148) B_148 := h
    change J X K 3 False QQ 0 0 2055 (jw K σ μ_148 o) 148 [(0, .ref (K.2.2 + 2017)), (2, .int l2_148)] []
    unfold f12_acts_b148 at h
    refine J_iload_n (i := 2) (p := 1) C dX12_acts_148 rfl rfl rfl ?_
    refine J_if_lt (t := 163) C dX12_acts_149 (by decide) rfl (fun c_1 => ?_) (fun c_1 => ?_)
    · have h := h.pos c_1
      have h := hE_148 μ_148 h.osome
      try dsimp only at h
      refine J_aload_n (i := 0) (p := 0) C dX12_acts_163 rfl rfl rfl ?_
      refine Jm_cV (rest := []) (st9 := fun p_2 => []) C hR hX cv_RX12_197 rfl (Nat.le_of_ble_eq_true rfl) (k12_orders hl  (Ok.ofbnd h)) rfl rfl (Nat.le_of_ble_eq_true rfl) (Nat.le_of_ble_eq_true rfl) (Nat.le_of_ble_eq_true rfl) ⟨(Nat.le_of_ble_eq_true rfl), (Nat.le_of_ble_eq_true rfl)⟩ dX12_acts_164 rfl (fun E n9 w9 hx => JT_n hx) (fun _ => rfl) (fun p_2 h => ?_)
      have h : Ok _ _ := h
      change J X K 3 False QQ 0 0 2055 (jw K σ p_2 o) 167 [(0, .ref (K.2.2 + 2017)), (2, .int l2_148)] []
      refine J_iconst (v := 1) C (by decide) dX12_acts_167 rfl ?_
      rw [← hQQ]
      exact J_zret C hret rfl (Nat.le_of_ble_eq_true rfl) (Nat.le_of_ble_eq_true rfl) ⟨_, h.osome, rfl, rfl, rfl⟩ dX12_acts_168
    · have h := h.neg c_1
      refine J_aload_n (i := 0) (p := 0) C dX12_acts_152 rfl rfl rfl ?_
      refine J_iload_n (i := 2) (p := 1) C dX12_acts_153 rfl rfl rfl ?_
      refine Jm_cV (rest := []) (st9 := fun p_3 => []) C hR hX cv_RX12_194 rfl (Nat.le_of_ble_eq_true rfl) (k12_replaces hl  (Ok.ofbnd h)) rfl rfl (Nat.le_of_ble_eq_true rfl) (Nat.le_of_ble_eq_true rfl) (Nat.le_of_ble_eq_true rfl) ⟨(Nat.le_of_ble_eq_true rfl), (Nat.le_of_ble_eq_true rfl)⟩ dX12_acts_154 rfl (fun E n9 w9 hx => JT_n hx) (fun _ => rfl) (fun p_3 h => ?_)
      have h : Ok _ _ := h
      change J X K 3 False QQ 0 0 2055 (jw K σ p_3 o) 157 [(0, .ref (K.2.2 + 2017)), (2, .int l2_148)] []
      obtain ⟨x2_1, e_x2_1, h⟩ := Ok.nm h
      refine J_iincE (i := 2) (p := 1) (lv' := [(2, .int x2_1), (0, .ref (K.2.2 + 2017))]) C e_x2_1 dX12_acts_157 rfl (by decide) (Nat.le_of_ble_eq_true rfl) rfl rfl ?_
      refine J_goto (t := 148) C dX12_acts_160 (by decide) ?_
      refine J.sub [1, 0] rfl ?_
      exact hB_148 (p_3, x2_1) h.osome
  have hj_141 : (∀ (μ_141 : Sto), Ok (f12_acts_j141 μ_141) Qf → J X K 3 False QQ 0 0 2055 (jw K σ μ_141 o) 141 [(0, .ref (K.2.2 + 2017))] []) := by
    intro μ_141 h
    unfold f12_acts_j141 at h
    refine J_aload_n (i := 0) (p := 0) C dX12_acts_141 rfl rfl rfl ?_
    refine Jm_getI C fp_RX12_155 rfl rfl dX12_acts_142 rfl ?_
    refine J_iconst (v := 1) C (by decide) dX12_acts_145 rfl ?_
    refine J_isub C dX12_acts_146 rfl ?_
    obtain ⟨x2_2, e_x2_2, h⟩ := Ok.nm h
    refine J_istoreE_n (i := 2) (lv' := [(2, .int x2_2), (0, .ref (K.2.2 + 2017))]) C e_x2_2 dX12_acts_147 rfl (Nat.le_of_ble_eq_true rfl) rfl rfl ?_
    refine J.sub [1, 0] rfl ?_
    exact hj_148 μ_141 x2_2 h
  have hj_127 : (∀ (μ_127 : Sto) (s1_127 : Int32), Ok (f12_acts_j127 μ_127 s1_127) Qf → J X K 3 False QQ 0 0 2055 (jw K σ μ_127 o) 127 [(0, .ref (K.2.2 + 2017))] [.int s1_127, .ref (K.2.2 + 2017)]) := by
    intro μ_127 s1_127 h
    unfold f12_acts_j127 at h
    obtain ⟨μx_3, e_μx_3, h⟩ := Ok.nm h
    refine Jm_putI C id fp_RX12_72 fw_11_33 rfl rfl rfl e_μx_3 dX12_acts_127 rfl ?_
    refine J_aload_n (i := 0) (p := 0) C dX12_acts_130 rfl rfl rfl ?_
    refine J_aload_n (i := 0) (p := 0) C dX12_acts_131 rfl rfl rfl ?_
    refine Jm_getI C fp_RX12_182 rfl rfl dX12_acts_132 rfl ?_
    refine J_cS (rest := [.ref (K.2.2 + 2017)]) (st9 := fun p_5 => [.int p_5, .ref (K.2.2 + 2017)]) C hR hX cs_RX12_188 (k12_ahead hl  (Ok.ofbnd h)) rfl rfl (Nat.le_of_ble_eq_true rfl) (Nat.le_of_ble_eq_true rfl) (Nat.le_of_ble_eq_true rfl) ⟨(Nat.le_of_ble_eq_true rfl), (Nat.le_of_ble_eq_true rfl)⟩ dX12_acts_135 rfl (fun E n9 w9 hx => JT_n hx) (fun _ => rfl) (fun p_5 h => ?_)
    have h : Ok _ _ := h
    change J X K 3 False QQ 0 0 2055 (jw K σ μx_3 o) 138 [(0, .ref (K.2.2 + 2017))] [.int p_5, .ref (K.2.2 + 2017)]
    refine Jm_cV (rest := []) (st9 := fun p_6 => []) C hR hX cv_RX12_191 rfl (Nat.le_of_ble_eq_true rfl) (k12_keeps hl  (Ok.ofbnd h)) rfl rfl (Nat.le_of_ble_eq_true rfl) (Nat.le_of_ble_eq_true rfl) (Nat.le_of_ble_eq_true rfl) ⟨(Nat.le_of_ble_eq_true rfl), (Nat.le_of_ble_eq_true rfl)⟩ dX12_acts_138 rfl (fun E n9 w9 hx => JT_n hx) (fun _ => rfl) (fun p_6 h => ?_)
    have h : Ok _ _ := h
    change J X K 3 False QQ 0 0 2055 (jw K σ p_6 o) 141 [(0, .ref (K.2.2 + 2017))] []
    exact hj_141 p_6 h
  have hj_53 : (∀ (μ_53 : Sto) (l1_53 : Int32), Ok (f12_acts_j53 μ_53 l1_53) Qf → J X K 3 False QQ 0 0 2055 (jw K σ μ_53 o) 53 [(0, .ref (K.2.2 + 2017)), (1, .int l1_53)] []) := by
    intro μ_53 l1_53 h
    unfold f12_acts_j53 at h
    refine J_iload_n (i := 1) (p := 1) C dX12_acts_53 rfl rfl rfl ?_
    refine J_if_eq (t := 141) C dX12_acts_54 (by decide) rfl (fun c_7 => ?_) (fun c_7 => ?_)
    · have h := h.pos c_7
      refine J.sub [0] rfl ?_
      exact hj_141 μ_53 h
    · have h := h.neg c_7
      refine J_aload_n (i := 0) (p := 0) C dX12_acts_57 rfl rfl rfl ?_
      refine J_dup C rfl dX12_acts_58 rfl ?_
      refine Jm_getI C fp_RX12_182 rfl rfl dX12_acts_59 rfl ?_
      refine J_iconst (v := 1) C (by decide) dX12_acts_62 rfl ?_
      refine J_iadd C dX12_acts_63 rfl ?_
      obtain ⟨μx_4, e_μx_4, h⟩ := Ok.nm h
      refine Jm_putI C id fp_RX12_182 fw_11_31 rfl rfl rfl e_μx_4 dX12_acts_64 rfl ?_
      refine J_aload_n (i := 0) (p := 0) C dX12_acts_67 rfl rfl rfl ?_
      refine Jm_getS (o2 := 17) (r2 := 2034) C fp_RX12_66 rfl rfl rfl dX12_acts_68 rfl ?_
      refine J_aload_n (i := 0) (p := 0) C dX12_acts_71 rfl rfl rfl ?_
      refine Jm_getI C fp_RX12_182 rfl rfl dX12_acts_72 rfl ?_
      refine J_aload_n (i := 0) (p := 0) C dX12_acts_75 rfl rfl rfl ?_
      refine Jm_getI C fp_RX12_185 rfl rfl dX12_acts_76 rfl ?_
      obtain ⟨g_8, h⟩ := Ok.ofgd h
      obtain ⟨μx_5, e_μx_5, h⟩ := Ok.nm h
      refine Jm_iast C id rfl rfl g_8 e_μx_5 dX12_acts_79 rfl ?_
      refine J_aload_n (i := 0) (p := 0) C dX12_acts_80 rfl rfl rfl ?_
      refine Jm_getS (o2 := 18) (r2 := 2035) C fp_RX12_69 rfl rfl rfl dX12_acts_81 rfl ?_
      refine J_aload_n (i := 0) (p := 0) C dX12_acts_84 rfl rfl rfl ?_
      refine Jm_getI C fp_RX12_182 rfl rfl dX12_acts_85 rfl ?_
      refine J_iconst (v := 0) C (by decide) dX12_acts_88 rfl ?_
      obtain ⟨g_9, h⟩ := Ok.ofgd h
      obtain ⟨μx_6, e_μx_6, h⟩ := Ok.nm h
      refine Jm_iast C id rfl rfl g_9 e_μx_6 dX12_acts_89 rfl ?_
      refine J_aload_n (i := 0) (p := 0) C dX12_acts_90 rfl rfl rfl ?_
      refine Jm_getS (o2 := 18) (r2 := 2035) C fp_RX12_69 rfl rfl rfl dX12_acts_91 rfl ?_
      refine J_aload_n (i := 0) (p := 0) C dX12_acts_94 rfl rfl rfl ?_
      refine Jm_getI C fp_RX12_185 rfl rfl dX12_acts_95 rfl ?_
      refine J_aload_n (i := 0) (p := 0) C dX12_acts_98 rfl rfl rfl ?_
      refine Jm_getI C fp_RX12_182 rfl rfl dX12_acts_99 rfl ?_
      obtain ⟨g_10, h⟩ := Ok.ofgd h
      obtain ⟨μx_7, e_μx_7, h⟩ := Ok.nm h
      refine Jm_iast C id rfl rfl g_10 e_μx_7 dX12_acts_102 rfl ?_
      refine J_aload_n (i := 0) (p := 0) C dX12_acts_103 rfl rfl rfl ?_
      refine J_aload_n (i := 0) (p := 0) C dX12_acts_104 rfl rfl rfl ?_
      refine Jm_getI C fp_RX12_182 rfl rfl dX12_acts_105 rfl ?_
      obtain ⟨μx_8, e_μx_8, h⟩ := Ok.nm h
      refine Jm_putI C id fp_RX12_185 fw_11_32 rfl rfl rfl e_μx_8 dX12_acts_108 rfl ?_
      refine J_aload_n (i := 0) (p := 0) C dX12_acts_111 rfl rfl rfl ?_
      refine J_aload_n (i := 0) (p := 0) C dX12_acts_112 rfl rfl rfl ?_
      refine Jm_getI C fp_RX12_174 rfl rfl dX12_acts_113 rfl ?_
      refine J_if_eq (t := 126) C dX12_acts_116 (by decide) rfl (fun c_11 => ?_) (fun c_11 => ?_)
      · have h := h.pos c_11
        refine J_iconst (v := -1) C (by decide) dX12_acts_126 rfl ?_
        refine J.sub [0] rfl ?_
        exact hj_127 μx_8 (-1 : Int32) h
      · have h := h.neg c_11
        refine J_aload_n (i := 0) (p := 0) C dX12_acts_119 rfl rfl rfl ?_
        refine Jm_getI C fp_RX12_182 rfl rfl dX12_acts_120 rfl ?_
        refine J_goto (t := 127) C dX12_acts_123 (by decide) ?_
        refine J.sub [0] rfl ?_
        exact hj_127 μx_8 (fI μx_8 2017 31) h
  have hj_51 : (∀ (μ_51 : Sto), Ok (f12_acts_j51 μ_51) Qf → J X K 3 False QQ 0 0 2055 (jw K σ μ_51 o) 51 [] []) := by
    intro μ_51 h
    unfold f12_acts_j51 at h
    refine J_iconst (v := 0) C (by decide) dX12_acts_51 rfl ?_
    rw [← hQQ]
    exact J_zret C hret rfl (Nat.le_of_ble_eq_true rfl) (Nat.le_of_ble_eq_true rfl) ⟨_, h.osome, rfl, rfl, rfl⟩ dX12_acts_52
  have hj_29 : (∀ (μ_29 : Sto) (s0_29 : Int32), Ok (f12_acts_j29 μ_29 s0_29) Qf → J X K 3 False QQ 0 0 2055 (jw K σ μ_29 o) 29 [(0, .ref (K.2.2 + 2017))] [.int s0_29]) := by
    intro μ_29 s0_29 h
    unfold f12_acts_j29 at h
    obtain ⟨x1_9, e_x1_9, h⟩ := Ok.nm h
    refine J_istoreE_n (i := 1) (lv' := [(1, .int x1_9), (0, .ref (K.2.2 + 2017))]) C e_x1_9 dX12_acts_29 rfl (Nat.le_of_ble_eq_true rfl) rfl rfl ?_
    refine J_aload_n (i := 0) (p := 1) C dX12_acts_30 rfl rfl rfl ?_
    refine Jm_cV (rest := []) (st9 := fun p_12 => [.int p_12]) C hR hX cv_RX12_178 rfl (Nat.le_of_ble_eq_true rfl) (k12_isTooMuch hl  (Ok.ofbnd h)) rfl rfl (Nat.le_of_ble_eq_true rfl) (Nat.le_of_ble_eq_true rfl) (Nat.le_of_ble_eq_true rfl) ⟨(Nat.le_of_ble_eq_true rfl), (Nat.le_of_ble_eq_true rfl)⟩ dX12_acts_31 rfl (fun E n9 w9 hx => JT_n hx) (fun _ => rfl) (fun p_12 h => ?_)
    have h : Ok _ _ := h
    change J X K 3 False QQ 0 0 2055 (jw K σ μ_29 o) 34 [(1, .int x1_9), (0, .ref (K.2.2 + 2017))] [.int p_12]
    refine J_if_ne (t := 51) C dX12_acts_34 (by decide) rfl (fun c_13 => ?_) (fun c_13 => ?_)
    · have h := h.neg c_13
      refine J.sub [] rfl ?_
      exact hj_51 μ_29 h
    · have h := h.pos (Decidable.not_not.mp c_13)
      refine J_iload_n (i := 1) (p := 0) C dX12_acts_37 rfl rfl rfl ?_
      refine J_if_eq (t := 53) C dX12_acts_38 (by decide) rfl (fun c_14 => ?_) (fun c_14 => ?_)
      · have h := h.pos c_14
        refine J.sub [1, 0] rfl ?_
        exact hj_53 μ_29 x1_9 h
      · have h := h.neg c_14
        refine J_aload_n (i := 0) (p := 1) C dX12_acts_41 rfl rfl rfl ?_
        refine Jm_getI C fp_RX12_182 rfl rfl dX12_acts_42 rfl ?_
        refine J_sipush (v := 150) C (by decide) dX12_acts_45 rfl ?_
        refine J_icmp_ne (t := 53) C dX12_acts_48 (by decide) rfl (fun c_15 => ?_) (fun c_15 => ?_)
        · have h := h.neg c_15
          refine J.sub [1, 0] rfl ?_
          exact hj_53 μ_29 x1_9 h
        · have h := h.pos (Decidable.not_not.mp c_15)
          refine J.sub [] rfl ?_
          exact hj_51 μ_29 h
  have hj_24 : (∀ (μ_24 : Sto), Ok (f12_acts_j24 μ_24) Qf → J X K 3 False QQ 0 0 2055 (jw K σ μ_24 o) 24 [(0, .ref (K.2.2 + 2017))] []) := by
    intro μ_24 h
    unfold f12_acts_j24 at h
    refine J_iconst (v := 1) C (by decide) dX12_acts_24 rfl ?_
    refine J_goto (t := 29) C dX12_acts_25 (by decide) ?_
    exact hj_29 μ_24 (1 : Int32) h
  unfold f12_acts at h
  refine J_aload_n (i := 0) (p := 0) C dX12_acts_0 rfl rfl rfl ?_
  refine Jm_getI C fp_RX12_155 rfl rfl dX12_acts_1 rfl ?_
  refine J_if_ne (t := 9) C dX12_acts_4 (by decide) rfl (fun c_16 => ?_) (fun c_16 => ?_)
  · have h := h.neg c_16
    refine J_aload_n (i := 0) (p := 0) C dX12_acts_9 rfl rfl rfl ?_
    refine Jm_getI C fp_RX12_174 rfl rfl dX12_acts_10 rfl ?_
    refine J_if_eq (t := 24) C dX12_acts_13 (by decide) rfl (fun c_17 => ?_) (fun c_17 => ?_)
    · have h := h.pos c_17
      exact hj_24 μ h
    · have h := h.neg c_17
      refine J_aload_n (i := 0) (p := 0) C dX12_acts_16 rfl rfl rfl ?_
      refine Jm_getI C fp_RX12_72 rfl rfl dX12_acts_17 rfl ?_
      refine J_iconst (v := -1) C (by decide) dX12_acts_20 rfl ?_
      refine J_icmp_ne (t := 28) C dX12_acts_21 (by decide) rfl (fun c_18 => ?_) (fun c_18 => ?_)
      · have h := h.neg c_18
        refine J_iconst (v := 0) C (by decide) dX12_acts_28 rfl ?_
        exact hj_29 μ (0 : Int32) h
      · have h := h.pos (Decidable.not_not.mp c_18)
        exact hj_24 μ h
  · have h := h.pos (Decidable.not_not.mp c_16)
    refine J_iconst (v := 1) C (by decide) dX12_acts_7 rfl ?_
    rw [← hQQ]
    exact J_zret C hret rfl (Nat.le_of_ble_eq_true rfl) (Nat.le_of_ble_eq_true rfl) ⟨_, h.osome, rfl, rfl, rfl⟩ dX12_acts_8
def f12_feed_j151 (l1 : Int64) (μ_151 : Sto) (l5_151 : Int32) : Option ((Sto × Int32) ⊕ Sto) :=
  stp (l5_151 + (-1 : Int32)) fun x5_1 =>
  some (.inl (μ_151, x5_1))
def f12_feed_b106 (l1 : Int64) (μ_106 : Sto) (l5_106 : Int32) : Option ((Sto × Int32) ⊕ Sto) :=
  if l5_106 < 0 then
    some (.inr μ_106)
  else
    stp (Int64.toInt32 ((UInt64.toInt64 (Int64.toUInt64 l1 >>> (Int64.toUInt64 (Int32.toInt64 ((8 : Int32) * l5_106)) &&& Int64.toUInt64 63))) &&& (255 : Int64))) fun x6_2 =>
    if x6_2 = 0 then
      f12_feed_j151 l1 μ_106 l5_106
    else
      gd (inb (fI μ_106 2017 11) 200) <|
      stp (uA μ_106 2023 (Int32.toNatClampNeg (fI μ_106 2017 11)) x6_2) fun μx_3 =>
      stp (uI μx_3 2017 11 ((fI μx_3 2017 11) + (1 : Int32))) fun μx_4 =>
      f12_feed_j151 l1 μx_4 l5_106
def f12_feed_j106 (l1 : Int64) (μ_106 : Sto) (l5_106 : Int32) : Option (Int32 × Sto) :=
  bnd (loopF (fun s_106 => f12_feed_b106 l1 s_106.1 s_106.2) FU (μ_106, l5_106)) fun r_106 =>
    bnd (f12_told r_106 (fI r_106 2017 11)) fun p_5 =>
    some (p_5.1, p_5.2)
def f12_feed_j65 (l1 : Int64) (μ_8 : Sto) (l3_65 : Int32) (l5_65 : Int32) (s0_65 : Int32) : Option ((Int32 × Int32 × Int32) ⊕ (Int32 × Int32)) :=
  stp s0_65 fun x4_5 =>
  stp (l5_65 + (1 : Int32)) fun x5_6 =>
  some (.inl (l3_65, x4_5, x5_6))
def f12_feed_j64 (l1 : Int64) (μ_8 : Sto) (l3_64 : Int32) (l5_64 : Int32) : Option ((Int32 × Int32 × Int32) ⊕ (Int32 × Int32)) :=
  f12_feed_j65 l1 μ_8 l3_64 l5_64 (0 : Int32)
def f12_feed_j60 (l1 : Int64) (μ_8 : Sto) (l3_60 : Int32) (l5_60 : Int32) : Option ((Int32 × Int32 × Int32) ⊕ (Int32 × Int32)) :=
  f12_feed_j65 l1 μ_8 l3_60 l5_60 (1 : Int32)
def f12_feed_j40 (l1 : Int64) (μ_8 : Sto) (l4_40 : Int32) (l5_40 : Int32) (l6_40 : Int32) (s0_40 : Int32) (s1_40 : Int32) : Option ((Int32 × Int32 × Int32) ⊕ (Int32 × Int32)) :=
  stp (s0_40 + s1_40) fun x3_7 =>
  if l4_40 = 0 then
    f12_feed_j64 l1 μ_8 x3_7 l5_40
  else
    if l6_40 = 0 then
      f12_feed_j60 l1 μ_8 x3_7 l5_40
    else
      bnd (f12_isLetter l6_40) fun p_8 =>
      if p_8 = 0 then
        f12_feed_j64 l1 μ_8 x3_7 l5_40
      else
        f12_feed_j60 l1 μ_8 x3_7 l5_40
def f12_feed_b8 (l1 : Int64) (μ_8 : Sto) (l3_8 : Int32) (l4_8 : Int32) (l5_8 : Int32) : Option ((Int32 × Int32 × Int32) ⊕ (Int32 × Int32)) :=
  if (8 : Int32) ≤ l5_8 then
    some (.inr (l3_8, l4_8))
  else
    stp (Int64.toInt32 ((UInt64.toInt64 (Int64.toUInt64 l1 >>> (Int64.toUInt64 (Int32.toInt64 ((8 : Int32) * l5_8)) &&& Int64.toUInt64 63))) &&& (255 : Int64))) fun x6_9 =>
    if x6_9 = 0 then
      f12_feed_j40 l1 μ_8 l4_8 l5_8 x6_9 l3_8 (0 : Int32)
    else
      f12_feed_j40 l1 μ_8 l4_8 l5_8 x6_9 l3_8 (1 : Int32)
def f12_feed_j8 (l1 : Int64) (μ_8 : Sto) (l3_8 : Int32) (l4_8 : Int32) (l5_8 : Int32) : Option (Int32 × Sto) :=
  bnd (loopF (fun s_8 => f12_feed_b8 l1 μ_8 s_8.1 s_8.2.1 s_8.2.2) FU (l3_8, l4_8, l5_8)) fun r_8 =>
    if r_8.2 = 0 then
      bnd (f12_refuse μ_8 (1 : Int32)) fun p_19 =>
      some (p_19.1, p_19.2)
    else
      if ((fI μ_8 2017 11) + r_8.1) ≤ (200 : Int32) then
        stp (7 : Int32) fun x5_10 =>
        f12_feed_j106 l1 μ_8 x5_10
      else
        bnd (f12_refuse μ_8 (2 : Int32)) fun p_18 =>
        some (p_18.1, p_18.2)
def f12_feed (μ : Sto) (l1 : Int64) : Option (Int32 × Sto) :=
  stp (0 : Int32) fun x3_11 =>
  stp (1 : Int32) fun x4_12 =>
  stp (0 : Int32) fun x5_13 =>
  f12_feed_j8 l1 μ x3_11 x4_12 x5_13
set_option maxHeartbeats 4000000 in
set_option maxRecDepth 100000 in
theorem k12_feed {l : Launch} {K : JK} (hl : l.stackTraces = false) {σ μ : Sto} {o : Int64} {l1 : Int64}  {Qf : Int32 × Sto → Prop} (h : Ok (f12_feed μ l1) Qf) : Con l K yX12_feed (.code yX12_feed cX12_feed 7 (some .int) :: TB) 2 0 0 False [.ref (K.2.2 + 2017), .long l1] 2055 (jw K σ μ o) (PR Qf (fun p => some (.int p.1)) (fun p => jw K σ p.2 o)) PN := by
  refine Con.enter (own := RX12) hl (by decide) rfl (Nat.le_of_ble_eq_true rfl) ?_
  intro X hX hR C hret hnt
  generalize hQQ : jQ X K 0 0 (PR Qf (fun p => some (.int p.1)) (fun p => jw K σ p.2 o)) PN False = QQ
  change J X K 7 False QQ 0 0 2055 (jw K σ μ o) 0 [(0, .ref (K.2.2 + 2017)), (1, .long l1)] []
  have hj_106 : (∀ (μ_106 : Sto) (l5_106 : Int32), Ok (f12_feed_j106 l1 μ_106 l5_106) Qf → J X K 7 False QQ 0 0 2055 (jw K σ μ_106 o) 106 [(0, .ref (K.2.2 + 2017)), (1, .long l1), (5, .int l5_106)] []) := by
    intro μ_106 l5_106 h
    unfold f12_feed_j106 at h
    refine loop_gen (S := Sto × Int32) (P := fun s_106 => J X K 7 False QQ 0 0 2055 (jw K σ s_106.1 o) 106 [(0, .ref (K.2.2 + 2017)), (1, .long l1), (5, .int s_106.2)] []) ?_ FU (μ_106, l5_106) (Ok.ofbnd h)
    intro B_106 hB_106 hE_106 s_106 h
    obtain ⟨μ_106, l5_106⟩ := s_106
    have h : Ok (f12_feed_b106 l1 μ_106 l5_106) B_106 := h
    change J X K 7 False QQ 0 0 2055 (jw K σ μ_106 o) 106 [(0, .ref (K.2.2 + 2017)), (1, .long l1), (5, .int l5_106)] []
    have hj_151 : (∀ (μ_151 : Sto) (l5_151 : Int32), Ok (f12_feed_j151 l1 μ_151 l5_151) B_106 → J X K 7 False QQ 0 0 2055 (jw K σ μ_151 o) 151 [(0, .ref (K.2.2 + 2017)), (1, .long l1), (5, .int l5_151)] []) := by
      intro μ_151 l5_151 h
      unfold f12_feed_j151 at h
      obtain ⟨x5_1, e_x5_1, h⟩ := Ok.nm h
      refine J_iincE (i := 5) (p := 2) (lv' := [(5, .int x5_1), (0, .ref (K.2.2 + 2017)), (1, .long l1)]) C e_x5_1 dX12_feed_151 rfl (by decide) (Nat.le_of_ble_eq_true rfl) rfl rfl ?_
      refine J_goto (t := 106) C dX12_feed_154 (by decide) ?_
      refine J.sub [1, 2, 0] rfl ?_
      exact hB_106 (μ_151, x5_1) h.osome
    unfold f12_feed_b106 at h
    refine J_iload (i := 5) (p := 2) C dX12_feed_106 rfl rfl ?_
    refine J_if_lt (t := 157) C dX12_feed_108 (by decide) rfl (fun c_1 => ?_) (fun c_1 => ?_)
    · have h := h.pos c_1
      have h := hE_106 μ_106 h.osome
      try dsimp only at h
      refine J_aload_n (i := 0) (p := 0) C dX12_feed_157 rfl rfl rfl ?_
      refine J_aload_n (i := 0) (p := 0) C dX12_feed_158 rfl rfl rfl ?_
      refine Jm_getI C fp_RX12_161 rfl rfl dX12_feed_159 rfl ?_
      refine Jm_cV (rest := []) (st9 := fun p_2 => [.int p_2.1]) C hR hX cv_RX12_209 rfl (Nat.le_of_ble_eq_true rfl) (k12_told hl  (Ok.ofbnd h)) rfl rfl (Nat.le_of_ble_eq_true rfl) (Nat.le_of_ble_eq_true rfl) (Nat.le_of_ble_eq_true rfl) ⟨(Nat.le_of_ble_eq_true rfl), (Nat.le_of_ble_eq_true rfl)⟩ dX12_feed_162 rfl (fun E n9 w9 hx => JT_n hx) (fun _ => rfl) (fun p_2 h => ?_)
      have h : Ok _ _ := h
      change J X K 7 False QQ 0 0 2055 (jw K σ p_2.2 o) 165 [(0, .ref (K.2.2 + 2017)), (1, .long l1), (5, .int l5_106)] [.int p_2.1]
      rw [← hQQ]
      exact J_iret C hret (Nat.le_of_ble_eq_true rfl) (Nat.le_of_ble_eq_true rfl) ⟨_, h.osome, rfl, rfl, rfl⟩ dX12_feed_165
    · have h := h.neg c_1
      refine J_lload_n (i := 1) (p := 1) C dX12_feed_111 rfl rfl rfl ?_
      refine J_bipush (v := 8) C (by decide) dX12_feed_112 rfl ?_
      refine J_iload (i := 5) (p := 2) C dX12_feed_114 rfl rfl ?_
      refine J_imul C dX12_feed_116 rfl ?_
      refine J_lushr C dX12_feed_117 rfl ?_
      refine J_ldc2 (v := 255) C cl_RX12_200 dX12_feed_118 rfl ?_
      refine J_land C dX12_feed_121 rfl ?_
      refine J_l2i C dX12_feed_122 rfl ?_
      obtain ⟨x6_2, e_x6_2, h⟩ := Ok.nm h
      refine J_istoreE (i := 6) (lv' := [(6, .int x6_2), (0, .ref (K.2.2 + 2017)), (1, .long l1), (5, .int l5_106)]) C e_x6_2 dX12_feed_123 (Nat.le_of_ble_eq_true rfl) rfl rfl ?_
      refine J_iload (i := 6) (p := 0) C dX12_feed_125 rfl rfl ?_
      refine J_if_eq (t := 151) C dX12_feed_127 (by decide) rfl (fun c_3 => ?_) (fun c_3 => ?_)
      · have h := h.pos c_3
        refine J.sub [1, 2, 3] rfl ?_
        exact hj_151 μ_106 l5_106 h
      · have h := h.neg c_3
        refine J_aload_n (i := 0) (p := 1) C dX12_feed_130 rfl rfl rfl ?_
        refine Jm_getS (o2 := 6) (r2 := 2023) C fp_RX12_30 rfl rfl rfl dX12_feed_131 rfl ?_
        refine J_aload_n (i := 0) (p := 1) C dX12_feed_134 rfl rfl rfl ?_
        refine Jm_getI C fp_RX12_161 rfl rfl dX12_feed_135 rfl ?_
        refine J_iload (i := 6) (p := 0) C dX12_feed_138 rfl rfl ?_
        obtain ⟨g_4, h⟩ := Ok.ofgd h
        obtain ⟨μx_3, e_μx_3, h⟩ := Ok.nm h
        refine Jm_iast C id rfl rfl g_4 e_μx_3 dX12_feed_140 rfl ?_
        refine J_aload_n (i := 0) (p := 1) C dX12_feed_141 rfl rfl rfl ?_
        refine J_dup C rfl dX12_feed_142 rfl ?_
        refine Jm_getI C fp_RX12_161 rfl rfl dX12_feed_143 rfl ?_
        refine J_iconst (v := 1) C (by decide) dX12_feed_146 rfl ?_
        refine J_iadd C dX12_feed_147 rfl ?_
        obtain ⟨μx_4, e_μx_4, h⟩ := Ok.nm h
        refine Jm_putI C id fp_RX12_161 fw_11_11 rfl rfl rfl e_μx_4 dX12_feed_148 rfl ?_
        refine J.sub [1, 2, 3] rfl ?_
        exact hj_151 μx_4 l5_106 h
  have hj_8 : (∀ (μ_8 : Sto) (l3_8 : Int32) (l4_8 : Int32) (l5_8 : Int32), Ok (f12_feed_j8 l1 μ_8 l3_8 l4_8 l5_8) Qf → J X K 7 False QQ 0 0 2055 (jw K σ μ_8 o) 8 [(0, .ref (K.2.2 + 2017)), (1, .long l1), (3, .int l3_8), (4, .int l4_8), (5, .int l5_8)] []) := by
    intro μ_8 l3_8 l4_8 l5_8 h
    unfold f12_feed_j8 at h
    refine loop_gen (S := Int32 × Int32 × Int32) (P := fun s_8 => J X K 7 False QQ 0 0 2055 (jw K σ μ_8 o) 8 [(0, .ref (K.2.2 + 2017)), (1, .long l1), (3, .int s_8.1), (4, .int s_8.2.1), (5, .int s_8.2.2)] []) ?_ FU (l3_8, l4_8, l5_8) (Ok.ofbnd h)
    intro B_8 hB_8 hE_8 s_8 h
    obtain ⟨l3_8, l4_8, l5_8⟩ := s_8
    have h : Ok (f12_feed_b8 l1 μ_8 l3_8 l4_8 l5_8) B_8 := h
    change J X K 7 False QQ 0 0 2055 (jw K σ μ_8 o) 8 [(0, .ref (K.2.2 + 2017)), (1, .long l1), (3, .int l3_8), (4, .int l4_8), (5, .int l5_8)] []
    have hj_65 : (∀ (l3_65 : Int32) (l5_65 : Int32) (s0_65 : Int32), Ok (f12_feed_j65 l1 μ_8 l3_65 l5_65 s0_65) B_8 → J X K 7 False QQ 0 0 2055 (jw K σ μ_8 o) 65 [(0, .ref (K.2.2 + 2017)), (1, .long l1), (3, .int l3_65), (5, .int l5_65)] [.int s0_65]) := by
      intro l3_65 l5_65 s0_65 h
      unfold f12_feed_j65 at h
      obtain ⟨x4_5, e_x4_5, h⟩ := Ok.nm h
      refine J_istoreE (i := 4) (lv' := [(4, .int x4_5), (0, .ref (K.2.2 + 2017)), (1, .long l1), (3, .int l3_65), (5, .int l5_65)]) C e_x4_5 dX12_feed_65 (Nat.le_of_ble_eq_true rfl) rfl rfl ?_
      obtain ⟨x5_6, e_x5_6, h⟩ := Ok.nm h
      refine J_iincE (i := 5) (p := 4) (lv' := [(5, .int x5_6), (4, .int x4_5), (0, .ref (K.2.2 + 2017)), (1, .long l1), (3, .int l3_65)]) C e_x5_6 dX12_feed_67 rfl (by decide) (Nat.le_of_ble_eq_true rfl) rfl rfl ?_
      refine J_goto (t := 8) C dX12_feed_70 (by decide) ?_
      refine J.sub [2, 3, 4, 1, 0] rfl ?_
      exact hB_8 (l3_65, x4_5, x5_6) h.osome
    have hj_64 : (∀ (l3_64 : Int32) (l5_64 : Int32), Ok (f12_feed_j64 l1 μ_8 l3_64 l5_64) B_8 → J X K 7 False QQ 0 0 2055 (jw K σ μ_8 o) 64 [(0, .ref (K.2.2 + 2017)), (1, .long l1), (3, .int l3_64), (5, .int l5_64)] []) := by
      intro l3_64 l5_64 h
      unfold f12_feed_j64 at h
      refine J_iconst (v := 0) C (by decide) dX12_feed_64 rfl ?_
      exact hj_65 l3_64 l5_64 (0 : Int32) h
    have hj_60 : (∀ (l3_60 : Int32) (l5_60 : Int32), Ok (f12_feed_j60 l1 μ_8 l3_60 l5_60) B_8 → J X K 7 False QQ 0 0 2055 (jw K σ μ_8 o) 60 [(0, .ref (K.2.2 + 2017)), (1, .long l1), (3, .int l3_60), (5, .int l5_60)] []) := by
      intro l3_60 l5_60 h
      unfold f12_feed_j60 at h
      refine J_iconst (v := 1) C (by decide) dX12_feed_60 rfl ?_
      refine J_goto (t := 65) C dX12_feed_61 (by decide) ?_
      exact hj_65 l3_60 l5_60 (1 : Int32) h
    have hj_40 : (∀ (l4_40 : Int32) (l5_40 : Int32) (l6_40 : Int32) (s0_40 : Int32) (s1_40 : Int32), Ok (f12_feed_j40 l1 μ_8 l4_40 l5_40 l6_40 s0_40 s1_40) B_8 → J X K 7 False QQ 0 0 2055 (jw K σ μ_8 o) 40 [(0, .ref (K.2.2 + 2017)), (1, .long l1), (4, .int l4_40), (5, .int l5_40), (6, .int l6_40)] [.int s1_40, .int s0_40]) := by
      intro l4_40 l5_40 l6_40 s0_40 s1_40 h
      unfold f12_feed_j40 at h
      refine J_iadd C dX12_feed_40 rfl ?_
      obtain ⟨x3_7, e_x3_7, h⟩ := Ok.nm h
      refine J_istoreE_n (i := 3) (lv' := [(3, .int x3_7), (0, .ref (K.2.2 + 2017)), (1, .long l1), (4, .int l4_40), (5, .int l5_40), (6, .int l6_40)]) C e_x3_7 dX12_feed_41 rfl (Nat.le_of_ble_eq_true rfl) rfl rfl ?_
      refine J_iload (i := 4) (p := 3) C dX12_feed_42 rfl rfl ?_
      refine J_if_eq (t := 64) C dX12_feed_44 (by decide) rfl (fun c_6 => ?_) (fun c_6 => ?_)
      · have h := h.pos c_6
        refine J.sub [1, 2, 0, 4] rfl ?_
        exact hj_64 x3_7 l5_40 h
      · have h := h.neg c_6
        refine J_iload (i := 6) (p := 5) C dX12_feed_47 rfl rfl ?_
        refine J_if_eq (t := 60) C dX12_feed_49 (by decide) rfl (fun c_7 => ?_) (fun c_7 => ?_)
        · have h := h.pos c_7
          refine J.sub [1, 2, 0, 4] rfl ?_
          exact hj_60 x3_7 l5_40 h
        · have h := h.neg c_7
          refine J_iload (i := 6) (p := 5) C dX12_feed_52 rfl rfl ?_
          refine J_cS (rest := []) (st9 := fun p_8 => [.int p_8]) C hR hX cs_RX12_202 (k12_isLetter hl  (Ok.ofbnd h)) rfl rfl (Nat.le_of_ble_eq_true rfl) (Nat.le_of_ble_eq_true rfl) (Nat.le_of_ble_eq_true rfl) ⟨(Nat.le_of_ble_eq_true rfl), (Nat.le_of_ble_eq_true rfl)⟩ dX12_feed_54 rfl (fun E n9 w9 hx => JT_n hx) (fun _ => rfl) (fun p_8 h => ?_)
          have h : Ok _ _ := h
          change J X K 7 False QQ 0 0 2055 (jw K σ μ_8 o) 57 [(3, .int x3_7), (0, .ref (K.2.2 + 2017)), (1, .long l1), (4, .int l4_40), (5, .int l5_40), (6, .int l6_40)] [.int p_8]
          refine J_if_eq (t := 64) C dX12_feed_57 (by decide) rfl (fun c_9 => ?_) (fun c_9 => ?_)
          · have h := h.pos c_9
            refine J.sub [1, 2, 0, 4] rfl ?_
            exact hj_64 x3_7 l5_40 h
          · have h := h.neg c_9
            refine J.sub [1, 2, 0, 4] rfl ?_
            exact hj_60 x3_7 l5_40 h
    unfold f12_feed_b8 at h
    refine J_iload (i := 5) (p := 4) C dX12_feed_8 rfl rfl ?_
    refine J_bipush (v := 8) C (by decide) dX12_feed_10 rfl ?_
    refine J_icmp_ge (t := 73) C dX12_feed_12 (by decide) rfl (fun c_10 => ?_) (fun c_10 => ?_)
    · have h := h.pos c_10
      have h := hE_8 (l3_8, l4_8) h.osome
      try dsimp only at h
      refine J_iload (i := 4) (p := 3) C dX12_feed_73 rfl rfl ?_
      refine J_if_ne (t := 84) C dX12_feed_75 (by decide) rfl (fun c_11 => ?_) (fun c_11 => ?_)
      · have h := h.neg c_11
        refine J_aload_n (i := 0) (p := 0) C dX12_feed_84 rfl rfl rfl ?_
        refine Jm_getI C fp_RX12_161 rfl rfl dX12_feed_85 rfl ?_
        refine J_iload_n (i := 3) (p := 2) C dX12_feed_88 rfl rfl rfl ?_
        refine J_iadd C dX12_feed_89 rfl ?_
        refine J_sipush (v := 200) C (by decide) dX12_feed_90 rfl ?_
        refine J_icmp_le (t := 102) C dX12_feed_93 (by decide) rfl (fun c_12 => ?_) (fun c_12 => ?_)
        · have h := h.pos c_12
          refine J_bipush (v := 7) C (by decide) dX12_feed_102 rfl ?_
          obtain ⟨x5_8, e_x5_8, h⟩ := Ok.nm h
          refine J_istoreE (i := 5) (lv' := [(5, .int x5_8), (0, .ref (K.2.2 + 2017)), (1, .long l1), (3, .int l3_8), (4, .int l4_8)]) C e_x5_8 dX12_feed_104 (Nat.le_of_ble_eq_true rfl) rfl rfl ?_
          refine J.sub [1, 2, 0] rfl ?_
          exact hj_106 μ_8 x5_8 h
        · have h := h.neg c_12
          refine J_aload_n (i := 0) (p := 0) C dX12_feed_96 rfl rfl rfl ?_
          refine J_iconst (v := 2) C (by decide) dX12_feed_97 rfl ?_
          refine Jm_cV (rest := []) (st9 := fun p_13 => [.int p_13.1]) C hR hX cv_RX12_206 rfl (Nat.le_of_ble_eq_true rfl) (k12_refuse hl  (Ok.ofbnd h)) rfl rfl (Nat.le_of_ble_eq_true rfl) (Nat.le_of_ble_eq_true rfl) (Nat.le_of_ble_eq_true rfl) ⟨(Nat.le_of_ble_eq_true rfl), (Nat.le_of_ble_eq_true rfl)⟩ dX12_feed_98 rfl (fun E n9 w9 hx => JT_n hx) (fun _ => rfl) (fun p_13 h => ?_)
          have h : Ok _ _ := h
          change J X K 7 False QQ 0 0 2055 (jw K σ p_13.2 o) 101 [(0, .ref (K.2.2 + 2017)), (1, .long l1), (3, .int l3_8), (4, .int l4_8), (5, .int l5_8)] [.int p_13.1]
          rw [← hQQ]
          exact J_iret C hret (Nat.le_of_ble_eq_true rfl) (Nat.le_of_ble_eq_true rfl) ⟨_, h.osome, rfl, rfl, rfl⟩ dX12_feed_101
      · have h := h.pos (Decidable.not_not.mp c_11)
        refine J_aload_n (i := 0) (p := 0) C dX12_feed_78 rfl rfl rfl ?_
        refine J_iconst (v := 1) C (by decide) dX12_feed_79 rfl ?_
        refine Jm_cV (rest := []) (st9 := fun p_14 => [.int p_14.1]) C hR hX cv_RX12_206 rfl (Nat.le_of_ble_eq_true rfl) (k12_refuse hl  (Ok.ofbnd h)) rfl rfl (Nat.le_of_ble_eq_true rfl) (Nat.le_of_ble_eq_true rfl) (Nat.le_of_ble_eq_true rfl) ⟨(Nat.le_of_ble_eq_true rfl), (Nat.le_of_ble_eq_true rfl)⟩ dX12_feed_80 rfl (fun E n9 w9 hx => JT_n hx) (fun _ => rfl) (fun p_14 h => ?_)
        have h : Ok _ _ := h
        change J X K 7 False QQ 0 0 2055 (jw K σ p_14.2 o) 83 [(0, .ref (K.2.2 + 2017)), (1, .long l1), (3, .int l3_8), (4, .int l4_8), (5, .int l5_8)] [.int p_14.1]
        rw [← hQQ]
        exact J_iret C hret (Nat.le_of_ble_eq_true rfl) (Nat.le_of_ble_eq_true rfl) ⟨_, h.osome, rfl, rfl, rfl⟩ dX12_feed_83
    · have h := h.neg c_10
      refine J_lload_n (i := 1) (p := 1) C dX12_feed_15 rfl rfl rfl ?_
      refine J_bipush (v := 8) C (by decide) dX12_feed_16 rfl ?_
      refine J_iload (i := 5) (p := 4) C dX12_feed_18 rfl rfl ?_
      refine J_imul C dX12_feed_20 rfl ?_
      refine J_lushr C dX12_feed_21 rfl ?_
      refine J_ldc2 (v := 255) C cl_RX12_200 dX12_feed_22 rfl ?_
      refine J_land C dX12_feed_25 rfl ?_
      refine J_l2i C dX12_feed_26 rfl ?_
      obtain ⟨x6_9, e_x6_9, h⟩ := Ok.nm h
      refine J_istoreE (i := 6) (lv' := [(6, .int x6_9), (0, .ref (K.2.2 + 2017)), (1, .long l1), (3, .int l3_8), (4, .int l4_8), (5, .int l5_8)]) C e_x6_9 dX12_feed_27 (Nat.le_of_ble_eq_true rfl) rfl rfl ?_
      refine J_iload_n (i := 3) (p := 3) C dX12_feed_29 rfl rfl rfl ?_
      refine J_iload (i := 6) (p := 0) C dX12_feed_30 rfl rfl ?_
      refine J_if_ne (t := 39) C dX12_feed_32 (by decide) rfl (fun c_15 => ?_) (fun c_15 => ?_)
      · have h := h.neg c_15
        refine J_iconst (v := 1) C (by decide) dX12_feed_39 rfl ?_
        refine J.sub [1, 2, 4, 5, 0] rfl ?_
        exact hj_40 l4_8 l5_8 x6_9 l3_8 (1 : Int32) h
      · have h := h.pos (Decidable.not_not.mp c_15)
        refine J_iconst (v := 0) C (by decide) dX12_feed_35 rfl ?_
        refine J_goto (t := 40) C dX12_feed_36 (by decide) ?_
        refine J.sub [1, 2, 4, 5, 0] rfl ?_
        exact hj_40 l4_8 l5_8 x6_9 l3_8 (0 : Int32) h
  unfold f12_feed at h
  refine J_iconst (v := 0) C (by decide) dX12_feed_0 rfl ?_
  obtain ⟨x3_11, e_x3_11, h⟩ := Ok.nm h
  refine J_istoreE_n (i := 3) (lv' := [(3, .int x3_11), (0, .ref (K.2.2 + 2017)), (1, .long l1)]) C e_x3_11 dX12_feed_1 rfl (Nat.le_of_ble_eq_true rfl) rfl rfl ?_
  refine J_iconst (v := 1) C (by decide) dX12_feed_2 rfl ?_
  obtain ⟨x4_12, e_x4_12, h⟩ := Ok.nm h
  refine J_istoreE (i := 4) (lv' := [(4, .int x4_12), (3, .int x3_11), (0, .ref (K.2.2 + 2017)), (1, .long l1)]) C e_x4_12 dX12_feed_3 (Nat.le_of_ble_eq_true rfl) rfl rfl ?_
  refine J_iconst (v := 0) C (by decide) dX12_feed_5 rfl ?_
  obtain ⟨x5_13, e_x5_13, h⟩ := Ok.nm h
  refine J_istoreE (i := 5) (lv' := [(5, .int x5_13), (4, .int x4_12), (3, .int x3_11), (0, .ref (K.2.2 + 2017)), (1, .long l1)]) C e_x5_13 dX12_feed_6 (Nat.le_of_ble_eq_true rfl) rfl rfl ?_
  refine J.sub [3, 4, 2, 1, 0] rfl ?_
  exact hj_8 μ x3_11 x4_12 x5_13 h
def f12_clearTape (μ : Sto) : Option (Int32 × Sto) :=
  stp (fI μ 2017 11) fun x1_1 =>
  stp (uI μ 2017 11 (0 : Int32)) fun μx_2 =>
  bnd (f12_told μx_2 x1_1) fun p_1 =>
  some (p_1.1, p_1.2)
set_option maxHeartbeats 4000000 in
set_option maxRecDepth 100000 in
theorem k12_clearTape {l : Launch} {K : JK} (hl : l.stackTraces = false) {σ μ : Sto} {o : Int64}   {Qf : Int32 × Sto → Prop} (h : Ok (f12_clearTape μ) Qf) : Con l K yX12_clearTape (.code yX12_clearTape cX12_clearTape 2 (some .int) :: TB) 1 0 0 False [.ref (K.2.2 + 2017)] 2055 (jw K σ μ o) (PR Qf (fun p => some (.int p.1)) (fun p => jw K σ p.2 o)) PN := by
  refine Con.enter (own := RX12) hl (by decide) rfl (Nat.le_of_ble_eq_true rfl) ?_
  intro X hX hR C hret hnt
  generalize hQQ : jQ X K 0 0 (PR Qf (fun p => some (.int p.1)) (fun p => jw K σ p.2 o)) PN False = QQ
  change J X K 2 False QQ 0 0 2055 (jw K σ μ o) 0 [(0, .ref (K.2.2 + 2017))] []
  unfold f12_clearTape at h
  refine J_aload_n (i := 0) (p := 0) C dX12_clearTape_0 rfl rfl rfl ?_
  refine Jm_getI C fp_RX12_161 rfl rfl dX12_clearTape_1 rfl ?_
  obtain ⟨x1_1, e_x1_1, h⟩ := Ok.nm h
  refine J_istoreE_n (i := 1) (lv' := [(1, .int x1_1), (0, .ref (K.2.2 + 2017))]) C e_x1_1 dX12_clearTape_4 rfl (Nat.le_of_ble_eq_true rfl) rfl rfl ?_
  refine J_aload_n (i := 0) (p := 1) C dX12_clearTape_5 rfl rfl rfl ?_
  refine J_iconst (v := 0) C (by decide) dX12_clearTape_6 rfl ?_
  obtain ⟨μx_2, e_μx_2, h⟩ := Ok.nm h
  refine Jm_putI C id fp_RX12_161 fw_11_11 rfl rfl rfl e_μx_2 dX12_clearTape_7 rfl ?_
  refine J_aload_n (i := 0) (p := 1) C dX12_clearTape_10 rfl rfl rfl ?_
  refine J_iload_n (i := 1) (p := 0) C dX12_clearTape_11 rfl rfl rfl ?_
  refine Jm_cV (rest := []) (st9 := fun p_1 => [.int p_1.1]) C hR hX cv_RX12_209 rfl (Nat.le_of_ble_eq_true rfl) (k12_told hl  (Ok.ofbnd h)) rfl rfl (Nat.le_of_ble_eq_true rfl) (Nat.le_of_ble_eq_true rfl) (Nat.le_of_ble_eq_true rfl) ⟨(Nat.le_of_ble_eq_true rfl), (Nat.le_of_ble_eq_true rfl)⟩ dX12_clearTape_12 rfl (fun E n9 w9 hx => JT_n hx) (fun _ => rfl) (fun p_1 h => ?_)
  have h : Ok _ _ := h
  change J X K 2 False QQ 0 0 2055 (jw K σ p_1.2 o) 15 [(1, .int x1_1), (0, .ref (K.2.2 + 2017))] [.int p_1.1]
  rw [← hQQ]
  exact J_iret C hret (Nat.le_of_ble_eq_true rfl) (Nat.le_of_ble_eq_true rfl) ⟨_, h.osome, rfl, rfl, rfl⟩ dX12_clearTape_15
def f12_clips_b14 (l1 : Int32) (l2 : Int32) (μ_14 : Sto) (l3_14 : Int32) : Option ((Sto × Int32) ⊕ Sto) :=
  if l2 ≤ l3_14 then
    some (.inr μ_14)
  else
    gd (inb l3_14 3000) <|
    gd (inb (l3_14 - l1) 12000) <|
    stp (uA μ_14 2024 (Int32.toNatClampNeg (l3_14 - l1)) (aI μ_14 2018 (Int32.toNatClampNeg l3_14))) fun μx_1 =>
    stp (l3_14 + (1 : Int32)) fun x3_2 =>
    some (.inl (μx_1, x3_2))
def f12_clips_j14 (l1 : Int32) (l2 : Int32) (μ_14 : Sto) (l3_14 : Int32) : Option (Sto) :=
  bnd (loopF (fun s_14 => f12_clips_b14 l1 l2 s_14.1 s_14.2) FU (μ_14, l3_14)) fun r_14 =>
    some r_14
def f12_clips (μ : Sto) (l1 : Int32) (l2 : Int32) : Option (Sto) :=
  stp (uI μ 2017 13 (0 : Int32)) fun μx_3 =>
  stp (uI μx_3 2017 12 (l2 - l1)) fun μx_4 =>
  stp l1 fun x3_5 =>
  f12_clips_j14 l1 l2 μx_4 x3_5
set_option maxHeartbeats 4000000 in
set_option maxRecDepth 100000 in
theorem k12_clips {l : Launch} {K : JK} (hl : l.stackTraces = false) {σ μ : Sto} {o : Int64} {l1 : Int32} {l2 : Int32}  {Qf : Sto → Prop} (h : Ok (f12_clips μ l1 l2) Qf) : Con l K yX12_clips (.code yX12_clips cX12_clips 4 none :: TB) 0 0 0 False [.ref (K.2.2 + 2017), .int l1, .int l2] 2055 (jw K σ μ o) (PR Qf (fun p => none) (fun p => jw K σ p o)) PN := by
  refine Con.enter (own := RX12) hl (by decide) rfl (Nat.le_of_ble_eq_true rfl) ?_
  intro X hX hR C hret hnt
  generalize hQQ : jQ X K 0 0 (PR Qf (fun p => none) (fun p => jw K σ p o)) PN False = QQ
  change J X K 4 False QQ 0 0 2055 (jw K σ μ o) 0 [(0, .ref (K.2.2 + 2017)), (1, .int l1), (2, .int l2)] []
  have hj_14 : (∀ (μ_14 : Sto) (l3_14 : Int32), Ok (f12_clips_j14 l1 l2 μ_14 l3_14) Qf → J X K 4 False QQ 0 0 2055 (jw K σ μ_14 o) 14 [(0, .ref (K.2.2 + 2017)), (1, .int l1), (2, .int l2), (3, .int l3_14)] []) := by
    intro μ_14 l3_14 h
    unfold f12_clips_j14 at h
    refine loop_gen (S := Sto × Int32) (P := fun s_14 => J X K 4 False QQ 0 0 2055 (jw K σ s_14.1 o) 14 [(0, .ref (K.2.2 + 2017)), (1, .int l1), (2, .int l2), (3, .int s_14.2)] []) ?_ FU (μ_14, l3_14) (Ok.ofbnd h)
    intro B_14 hB_14 hE_14 s_14 h
    obtain ⟨μ_14, l3_14⟩ := s_14
    have h : Ok (f12_clips_b14 l1 l2 μ_14 l3_14) B_14 := h
    change J X K 4 False QQ 0 0 2055 (jw K σ μ_14 o) 14 [(0, .ref (K.2.2 + 2017)), (1, .int l1), (2, .int l2), (3, .int l3_14)] []
    unfold f12_clips_b14 at h
    refine J_iload_n (i := 3) (p := 3) C dX12_clips_14 rfl rfl rfl ?_
    refine J_iload_n (i := 2) (p := 2) C dX12_clips_15 rfl rfl rfl ?_
    refine J_icmp_ge (t := 39) C dX12_clips_16 (by decide) rfl (fun c_1 => ?_) (fun c_1 => ?_)
    · have h := h.pos c_1
      have h := hE_14 μ_14 h.osome
      try dsimp only at h
      rw [← hQQ]
      exact J_vret C hret (Nat.le_of_ble_eq_true rfl) (Nat.le_of_ble_eq_true rfl) ⟨_, h.osome, rfl, rfl, rfl⟩ dX12_clips_39
    · have h := h.neg c_1
      refine J_aload_n (i := 0) (p := 0) C dX12_clips_19 rfl rfl rfl ?_
      refine Jm_getS (o2 := 7) (r2 := 2024) C fp_RX12_33 rfl rfl rfl dX12_clips_20 rfl ?_
      refine J_iload_n (i := 3) (p := 3) C dX12_clips_23 rfl rfl rfl ?_
      refine J_iload_n (i := 1) (p := 1) C dX12_clips_24 rfl rfl rfl ?_
      refine J_isub C dX12_clips_25 rfl ?_
      refine J_aload_n (i := 0) (p := 0) C dX12_clips_26 rfl rfl rfl ?_
      refine Jm_getS (o2 := 1) (r2 := 2018) C fp_RX12_7 rfl rfl rfl dX12_clips_27 rfl ?_
      refine J_iload_n (i := 3) (p := 3) C dX12_clips_30 rfl rfl rfl ?_
      obtain ⟨g_2, h⟩ := Ok.ofgd h
      refine Jm_iald C rfl rfl g_2 dX12_clips_31 rfl ?_
      obtain ⟨g_3, h⟩ := Ok.ofgd h
      obtain ⟨μx_1, e_μx_1, h⟩ := Ok.nm h
      refine Jm_iast C id rfl rfl g_3 e_μx_1 dX12_clips_32 rfl ?_
      obtain ⟨x3_2, e_x3_2, h⟩ := Ok.nm h
      refine J_iincE (i := 3) (p := 3) (lv' := [(3, .int x3_2), (0, .ref (K.2.2 + 2017)), (1, .int l1), (2, .int l2)]) C e_x3_2 dX12_clips_33 rfl (by decide) (Nat.le_of_ble_eq_true rfl) rfl rfl ?_
      refine J_goto (t := 14) C dX12_clips_36 (by decide) ?_
      refine J.sub [1, 2, 3, 0] rfl ?_
      exact hB_14 (μx_1, x3_2) h.osome
  unfold f12_clips at h
  refine J_aload_n (i := 0) (p := 0) C dX12_clips_0 rfl rfl rfl ?_
  refine J_iconst (v := 0) C (by decide) dX12_clips_1 rfl ?_
  obtain ⟨μx_3, e_μx_3, h⟩ := Ok.nm h
  refine Jm_putI C id fp_RX12_212 fw_11_13 rfl rfl rfl e_μx_3 dX12_clips_2 rfl ?_
  refine J_aload_n (i := 0) (p := 0) C dX12_clips_5 rfl rfl rfl ?_
  refine J_iload_n (i := 2) (p := 2) C dX12_clips_6 rfl rfl rfl ?_
  refine J_iload_n (i := 1) (p := 1) C dX12_clips_7 rfl rfl rfl ?_
  refine J_isub C dX12_clips_8 rfl ?_
  obtain ⟨μx_4, e_μx_4, h⟩ := Ok.nm h
  refine Jm_putI C id fp_RX12_215 fw_11_12 rfl rfl rfl e_μx_4 dX12_clips_9 rfl ?_
  refine J_iload_n (i := 1) (p := 1) C dX12_clips_12 rfl rfl rfl ?_
  obtain ⟨x3_5, e_x3_5, h⟩ := Ok.nm h
  refine J_istoreE_n (i := 3) (lv' := [(3, .int x3_5), (0, .ref (K.2.2 + 2017)), (1, .int l1), (2, .int l2)]) C e_x3_5 dX12_clips_13 rfl (Nat.le_of_ble_eq_true rfl) rfl rfl ?_
  refine J.sub [1, 2, 3, 0] rfl ?_
  exact hj_14 μx_4 x3_5 h
def f12_copy_j16 (l1 : Int32) (l2 : Int32) (μ_16 : Sto) : Option (Int32 × Sto) :=
  bnd (f12_refuse μ_16 (1 : Int32)) fun p_1 =>
  some (p_1.1, p_1.2)
def f12_copy (μ : Sto) (l1 : Int32) (l2 : Int32) : Option (Int32 × Sto) :=
  bnd (f12_isPlace μ l1) fun p_2 =>
  if p_2 = 0 then
    f12_copy_j16 l1 l2 μ
  else
    bnd (f12_isPlace μ l2) fun p_4 =>
    if p_4 = 0 then
      f12_copy_j16 l1 l2 μ
    else
      if l1 ≤ l2 then
        bnd (f12_clips μ l1 l2) fun p_7 =>
        bnd (f12_told p_7 (fI p_7 2017 12)) fun p_8 =>
        some (p_8.1, p_8.2)
      else
        bnd (f12_refuse μ (2 : Int32)) fun p_9 =>
        some (p_9.1, p_9.2)
set_option maxHeartbeats 4000000 in
set_option maxRecDepth 100000 in
theorem k12_copy {l : Launch} {K : JK} (hl : l.stackTraces = false) {σ μ : Sto} {o : Int64} {l1 : Int32} {l2 : Int32}  {Qf : Int32 × Sto → Prop} (h : Ok (f12_copy μ l1 l2) Qf) : Con l K yX12_copy (.code yX12_copy cX12_copy 3 (some .int) :: TB) 2 0 0 False [.ref (K.2.2 + 2017), .int l1, .int l2] 2055 (jw K σ μ o) (PR Qf (fun p => some (.int p.1)) (fun p => jw K σ p.2 o)) PN := by
  refine Con.enter (own := RX12) hl (by decide) rfl (Nat.le_of_ble_eq_true rfl) ?_
  intro X hX hR C hret hnt
  generalize hQQ : jQ X K 0 0 (PR Qf (fun p => some (.int p.1)) (fun p => jw K σ p.2 o)) PN False = QQ
  change J X K 3 False QQ 0 0 2055 (jw K σ μ o) 0 [(0, .ref (K.2.2 + 2017)), (1, .int l1), (2, .int l2)] []
  have hj_16 : (∀ (μ_16 : Sto), Ok (f12_copy_j16 l1 l2 μ_16) Qf → J X K 3 False QQ 0 0 2055 (jw K σ μ_16 o) 16 [(0, .ref (K.2.2 + 2017))] []) := by
    intro μ_16 h
    unfold f12_copy_j16 at h
    refine J_aload_n (i := 0) (p := 0) C dX12_copy_16 rfl rfl rfl ?_
    refine J_iconst (v := 1) C (by decide) dX12_copy_17 rfl ?_
    refine Jm_cV (rest := []) (st9 := fun p_1 => [.int p_1.1]) C hR hX cv_RX12_206 rfl (Nat.le_of_ble_eq_true rfl) (k12_refuse hl  (Ok.ofbnd h)) rfl rfl (Nat.le_of_ble_eq_true rfl) (Nat.le_of_ble_eq_true rfl) (Nat.le_of_ble_eq_true rfl) ⟨(Nat.le_of_ble_eq_true rfl), (Nat.le_of_ble_eq_true rfl)⟩ dX12_copy_18 rfl (fun E n9 w9 hx => JT_n hx) (fun _ => rfl) (fun p_1 h => ?_)
    have h : Ok _ _ := h
    change J X K 3 False QQ 0 0 2055 (jw K σ p_1.2 o) 21 [(0, .ref (K.2.2 + 2017))] [.int p_1.1]
    rw [← hQQ]
    exact J_iret C hret (Nat.le_of_ble_eq_true rfl) (Nat.le_of_ble_eq_true rfl) ⟨_, h.osome, rfl, rfl, rfl⟩ dX12_copy_21
  unfold f12_copy at h
  refine J_aload_n (i := 0) (p := 0) C dX12_copy_0 rfl rfl rfl ?_
  refine J_iload_n (i := 1) (p := 1) C dX12_copy_1 rfl rfl rfl ?_
  refine Jm_cV (rest := []) (st9 := fun p_2 => [.int p_2]) C hR hX cv_RX12_218 rfl (Nat.le_of_ble_eq_true rfl) (k12_isPlace hl  (Ok.ofbnd h)) rfl rfl (Nat.le_of_ble_eq_true rfl) (Nat.le_of_ble_eq_true rfl) (Nat.le_of_ble_eq_true rfl) ⟨(Nat.le_of_ble_eq_true rfl), (Nat.le_of_ble_eq_true rfl)⟩ dX12_copy_2 rfl (fun E n9 w9 hx => JT_n hx) (fun _ => rfl) (fun p_2 h => ?_)
  have h : Ok _ _ := h
  change J X K 3 False QQ 0 0 2055 (jw K σ μ o) 5 [(0, .ref (K.2.2 + 2017)), (1, .int l1), (2, .int l2)] [.int p_2]
  refine J_if_eq (t := 16) C dX12_copy_5 (by decide) rfl (fun c_3 => ?_) (fun c_3 => ?_)
  · have h := h.pos c_3
    refine J.sub [0] rfl ?_
    exact hj_16 μ h
  · have h := h.neg c_3
    refine J_aload_n (i := 0) (p := 0) C dX12_copy_8 rfl rfl rfl ?_
    refine J_iload_n (i := 2) (p := 2) C dX12_copy_9 rfl rfl rfl ?_
    refine Jm_cV (rest := []) (st9 := fun p_4 => [.int p_4]) C hR hX cv_RX12_218 rfl (Nat.le_of_ble_eq_true rfl) (k12_isPlace hl  (Ok.ofbnd h)) rfl rfl (Nat.le_of_ble_eq_true rfl) (Nat.le_of_ble_eq_true rfl) (Nat.le_of_ble_eq_true rfl) ⟨(Nat.le_of_ble_eq_true rfl), (Nat.le_of_ble_eq_true rfl)⟩ dX12_copy_10 rfl (fun E n9 w9 hx => JT_n hx) (fun _ => rfl) (fun p_4 h => ?_)
    have h : Ok _ _ := h
    change J X K 3 False QQ 0 0 2055 (jw K σ μ o) 13 [(0, .ref (K.2.2 + 2017)), (1, .int l1), (2, .int l2)] [.int p_4]
    refine J_if_ne (t := 22) C dX12_copy_13 (by decide) rfl (fun c_5 => ?_) (fun c_5 => ?_)
    · have h := h.neg c_5
      refine J_iload_n (i := 1) (p := 1) C dX12_copy_22 rfl rfl rfl ?_
      refine J_iload_n (i := 2) (p := 2) C dX12_copy_23 rfl rfl rfl ?_
      refine J_icmp_le (t := 33) C dX12_copy_24 (by decide) rfl (fun c_6 => ?_) (fun c_6 => ?_)
      · have h := h.pos c_6
        refine J_aload_n (i := 0) (p := 0) C dX12_copy_33 rfl rfl rfl ?_
        refine J_iload_n (i := 1) (p := 1) C dX12_copy_34 rfl rfl rfl ?_
        refine J_iload_n (i := 2) (p := 2) C dX12_copy_35 rfl rfl rfl ?_
        refine Jm_cV (rest := []) (st9 := fun p_7 => []) C hR hX cv_RX12_221 rfl (Nat.le_of_ble_eq_true rfl) (k12_clips hl  (Ok.ofbnd h)) rfl rfl (Nat.le_of_ble_eq_true rfl) (Nat.le_of_ble_eq_true rfl) (Nat.le_of_ble_eq_true rfl) ⟨(Nat.le_of_ble_eq_true rfl), (Nat.le_of_ble_eq_true rfl)⟩ dX12_copy_36 rfl (fun E n9 w9 hx => JT_n hx) (fun _ => rfl) (fun p_7 h => ?_)
        have h : Ok _ _ := h
        change J X K 3 False QQ 0 0 2055 (jw K σ p_7 o) 39 [(0, .ref (K.2.2 + 2017)), (1, .int l1), (2, .int l2)] []
        refine J_aload_n (i := 0) (p := 0) C dX12_copy_39 rfl rfl rfl ?_
        refine J_aload_n (i := 0) (p := 0) C dX12_copy_40 rfl rfl rfl ?_
        refine Jm_getI C fp_RX12_215 rfl rfl dX12_copy_41 rfl ?_
        refine Jm_cV (rest := []) (st9 := fun p_8 => [.int p_8.1]) C hR hX cv_RX12_209 rfl (Nat.le_of_ble_eq_true rfl) (k12_told hl  (Ok.ofbnd h)) rfl rfl (Nat.le_of_ble_eq_true rfl) (Nat.le_of_ble_eq_true rfl) (Nat.le_of_ble_eq_true rfl) ⟨(Nat.le_of_ble_eq_true rfl), (Nat.le_of_ble_eq_true rfl)⟩ dX12_copy_44 rfl (fun E n9 w9 hx => JT_n hx) (fun _ => rfl) (fun p_8 h => ?_)
        have h : Ok _ _ := h
        change J X K 3 False QQ 0 0 2055 (jw K σ p_8.2 o) 47 [(0, .ref (K.2.2 + 2017)), (1, .int l1), (2, .int l2)] [.int p_8.1]
        rw [← hQQ]
        exact J_iret C hret (Nat.le_of_ble_eq_true rfl) (Nat.le_of_ble_eq_true rfl) ⟨_, h.osome, rfl, rfl, rfl⟩ dX12_copy_47
      · have h := h.neg c_6
        refine J_aload_n (i := 0) (p := 0) C dX12_copy_27 rfl rfl rfl ?_
        refine J_iconst (v := 2) C (by decide) dX12_copy_28 rfl ?_
        refine Jm_cV (rest := []) (st9 := fun p_9 => [.int p_9.1]) C hR hX cv_RX12_206 rfl (Nat.le_of_ble_eq_true rfl) (k12_refuse hl  (Ok.ofbnd h)) rfl rfl (Nat.le_of_ble_eq_true rfl) (Nat.le_of_ble_eq_true rfl) (Nat.le_of_ble_eq_true rfl) ⟨(Nat.le_of_ble_eq_true rfl), (Nat.le_of_ble_eq_true rfl)⟩ dX12_copy_29 rfl (fun E n9 w9 hx => JT_n hx) (fun _ => rfl) (fun p_9 h => ?_)
        have h : Ok _ _ := h
        change J X K 3 False QQ 0 0 2055 (jw K σ p_9.2 o) 32 [(0, .ref (K.2.2 + 2017)), (1, .int l1), (2, .int l2)] [.int p_9.1]
        rw [← hQQ]
        exact J_iret C hret (Nat.le_of_ble_eq_true rfl) (Nat.le_of_ble_eq_true rfl) ⟨_, h.osome, rfl, rfl, rfl⟩ dX12_copy_32
    · have h := h.pos (Decidable.not_not.mp c_5)
      refine J.sub [0] rfl ?_
      exact hj_16 μ h
def f12_copyBlock_j165 (l1 : Int32) (l2 : Int32) (l3 : Int32) (l4 : Int32) (l6_92 : Int32) (l7_92 : Int32) (l8_92 : Int32) (μ_165 : Sto) (l9_165 : Int32) (s0_165 : Int32) (s1_165 : Int32) : Option ((Sto × Int32 × Int32) ⊕ (Sto × Int32)) :=
  stp (s0_165 + s1_165) fun x5_1 =>
  stp (l9_165 + (1 : Int32)) fun x9_2 =>
  some (.inl (μ_165, x5_1, x9_2))
def f12_copyBlock_j152 (l1 : Int32) (l2 : Int32) (l3 : Int32) (l4 : Int32) (l6_92 : Int32) (l7_92 : Int32) (l8_92 : Int32) (μ_152 : Sto) (l5_152 : Int32) (l9_152 : Int32) (l10_152 : Int32) (s1_152 : Int32) (s2_152 : Int32) : Option ((Sto × Int32 × Int32) ⊕ (Sto × Int32)) :=
  gd (inb s1_152 12000) <|
  stp (uA μ_152 2024 (Int32.toNatClampNeg s1_152) s2_152) fun μx_3 =>
  if l10_152 = 0 then
    f12_copyBlock_j165 l1 l2 l3 l4 l6_92 l7_92 l8_92 μx_3 l9_152 l5_152 (0 : Int32)
  else
    f12_copyBlock_j165 l1 l2 l3 l4 l6_92 l7_92 l8_92 μx_3 l9_152 l5_152 (1 : Int32)
def f12_copyBlock_j116 (l1 : Int32) (l2 : Int32) (l3 : Int32) (l4 : Int32) (l6_92 : Int32) (l7_92 : Int32) (l8_92 : Int32) (μ_116 : Sto) (l5_116 : Int32) (l9_116 : Int32) (s0_116 : Int32) : Option ((Sto × Int32 × Int32) ⊕ (Sto × Int32)) :=
  stp s0_116 fun x10_4 =>
  if x10_4 = 0 then
    f12_copyBlock_j152 l1 l2 l3 l4 l6_92 l7_92 l8_92 μ_116 l5_116 l9_116 x10_4 ((l4 * l6_92) + l9_116) (32 : Int32)
  else
    gd (inb ((l7_92 + l3) + l9_116) 3000) <|
    f12_copyBlock_j152 l1 l2 l3 l4 l6_92 l7_92 l8_92 μ_116 l5_116 l9_116 x10_4 ((l4 * l6_92) + l9_116) (aI μ_116 2018 (Int32.toNatClampNeg ((l7_92 + l3) + l9_116)))
def f12_copyBlock_b92 (l1 : Int32) (l2 : Int32) (l3 : Int32) (l4 : Int32) (μ_92 : Sto) (l5_92 : Int32) (l6_92 : Int32) (l7_92 : Int32) (l8_92 : Int32) (l9_92 : Int32) : Option ((Sto × Int32 × Int32) ⊕ (Sto × Int32)) :=
  if l4 ≤ l9_92 then
    some (.inr (μ_92, l5_92))
  else
    if l8_92 ≤ ((l7_92 + l3) + l9_92) then
      f12_copyBlock_j116 l1 l2 l3 l4 l6_92 l7_92 l8_92 μ_92 l5_92 l9_92 (0 : Int32)
    else
      f12_copyBlock_j116 l1 l2 l3 l4 l6_92 l7_92 l8_92 μ_92 l5_92 l9_92 (1 : Int32)
def f12_copyBlock_j92 (l1 : Int32) (l2 : Int32) (l3 : Int32) (l4 : Int32) (μ_92 : Sto) (l5_92 : Int32) (l6_92 : Int32) (l7_92 : Int32) (l8_92 : Int32) (l9_92 : Int32) : Option ((Sto × Int32 × Int32) ⊕ (Sto × Int32)) :=
  bnd (loopF (fun s_92 => f12_copyBlock_b92 l1 l2 l3 l4 s_92.1 s_92.2.1 l6_92 l7_92 l8_92 s_92.2.2) FU (μ_92, l5_92, l9_92)) fun r_92 =>
    stp (l6_92 + (1 : Int32)) fun x6_6 =>
    some (.inl (r_92.1, r_92.2, x6_6))
def f12_copyBlock_b63 (l1 : Int32) (l2 : Int32) (l3 : Int32) (l4 : Int32) (μ_63 : Sto) (l5_63 : Int32) (l6_63 : Int32) : Option ((Sto × Int32 × Int32) ⊕ (Sto × Int32)) :=
  if l2 ≤ l6_63 then
    some (.inr (μ_63, l5_63))
  else
    bnd (f12_beginOf μ_63 (l1 + l6_63)) fun p_9 =>
    stp p_9 fun x7_10 =>
    bnd (f12_endOf μ_63 (l1 + l6_63)) fun p_10 =>
    stp p_10 fun x8_11 =>
    stp (0 : Int32) fun x9_12 =>
    f12_copyBlock_j92 l1 l2 l3 l4 μ_63 l5_63 l6_63 x7_10 x8_11 x9_12
def f12_copyBlock_j63 (l1 : Int32) (l2 : Int32) (l3 : Int32) (l4 : Int32) (μ_63 : Sto) (l5_63 : Int32) (l6_63 : Int32) : Option (Int32 × Sto) :=
  bnd (loopF (fun s_63 => f12_copyBlock_b63 l1 l2 l3 l4 s_63.1 s_63.2.1 s_63.2.2) FU (μ_63, l5_63, l6_63)) fun r_63 =>
    stp (uI r_63.1 2017 13 l2) fun μx_13 =>
    stp (uI μx_13 2017 14 l4) fun μx_14 =>
    stp (uI μx_14 2017 12 (l2 * l4)) fun μx_15 =>
    bnd (f12_told μx_15 r_63.2) fun p_11 =>
    some (p_11.1, p_11.2)
def f12_copyBlock_j51 (l1 : Int32) (l2 : Int32) (l3 : Int32) (l4 : Int32) (μ_51 : Sto) : Option (Int32 × Sto) :=
  bnd (f12_refuse μ_51 (2 : Int32)) fun p_12 =>
  some (p_12.1, p_12.2)
def f12_copyBlock_j18 (l1 : Int32) (l2 : Int32) (l3 : Int32) (l4 : Int32) (μ_18 : Sto) : Option (Int32 × Sto) :=
  bnd (f12_refuse μ_18 (1 : Int32)) fun p_13 =>
  some (p_13.1, p_13.2)
def f12_copyBlock (μ : Sto) (l1 : Int32) (l2 : Int32) (l3 : Int32) (l4 : Int32) : Option (Int32 × Sto) :=
  bnd (f12_isLine μ l1) fun p_14 =>
  if p_14 = 0 then
    f12_copyBlock_j18 l1 l2 l3 l4 μ
  else
    bnd (f12_lines μ) fun p_16 =>
    if l2 ≤ (p_16 - l1) then
      if l2 < (1 : Int32) then
        f12_copyBlock_j51 l1 l2 l3 l4 μ
      else
        bnd (f12_in l3 (0 : Int32) (200 : Int32)) fun p_19 =>
        if p_19 = 0 then
          f12_copyBlock_j51 l1 l2 l3 l4 μ
        else
          bnd (f12_in l4 (1 : Int32) (40 : Int32)) fun p_21 =>
          if p_21 = 0 then
            f12_copyBlock_j51 l1 l2 l3 l4 μ
          else
            stp (0 : Int32) fun x5_16 =>
            stp (0 : Int32) fun x6_17 =>
            f12_copyBlock_j63 l1 l2 l3 l4 μ x5_16 x6_17
    else
      f12_copyBlock_j18 l1 l2 l3 l4 μ
set_option maxHeartbeats 4000000 in
set_option maxRecDepth 100000 in
theorem k12_copyBlock {l : Launch} {K : JK} (hl : l.stackTraces = false) {σ μ : Sto} {o : Int64} {l1 : Int32} {l2 : Int32} {l3 : Int32} {l4 : Int32}  {Qf : Int32 × Sto → Prop} (h : Ok (f12_copyBlock μ l1 l2 l3 l4) Qf) : Con l K yX12_copyBlock (.code yX12_copyBlock cX12_copyBlock 11 (some .int) :: TB) 2 0 0 False [.ref (K.2.2 + 2017), .int l1, .int l2, .int l3, .int l4] 2055 (jw K σ μ o) (PR Qf (fun p => some (.int p.1)) (fun p => jw K σ p.2 o)) PN := by
  refine Con.enter (own := RX12) hl (by decide) rfl (Nat.le_of_ble_eq_true rfl) ?_
  intro X hX hR C hret hnt
  generalize hQQ : jQ X K 0 0 (PR Qf (fun p => some (.int p.1)) (fun p => jw K σ p.2 o)) PN False = QQ
  change J X K 11 False QQ 0 0 2055 (jw K σ μ o) 0 [(0, .ref (K.2.2 + 2017)), (1, .int l1), (2, .int l2), (3, .int l3), (4, .int l4)] []
  have hj_63 : (∀ (μ_63 : Sto) (l5_63 : Int32) (l6_63 : Int32), Ok (f12_copyBlock_j63 l1 l2 l3 l4 μ_63 l5_63 l6_63) Qf → J X K 11 False QQ 0 0 2055 (jw K σ μ_63 o) 63 [(0, .ref (K.2.2 + 2017)), (1, .int l1), (2, .int l2), (3, .int l3), (4, .int l4), (5, .int l5_63), (6, .int l6_63)] []) := by
    intro μ_63 l5_63 l6_63 h
    unfold f12_copyBlock_j63 at h
    refine loop_gen (S := Sto × Int32 × Int32) (P := fun s_63 => J X K 11 False QQ 0 0 2055 (jw K σ s_63.1 o) 63 [(0, .ref (K.2.2 + 2017)), (1, .int l1), (2, .int l2), (3, .int l3), (4, .int l4), (5, .int s_63.2.1), (6, .int s_63.2.2)] []) ?_ FU (μ_63, l5_63, l6_63) (Ok.ofbnd h)
    intro B_63 hB_63 hE_63 s_63 h
    obtain ⟨μ_63, l5_63, l6_63⟩ := s_63
    have h : Ok (f12_copyBlock_b63 l1 l2 l3 l4 μ_63 l5_63 l6_63) B_63 := h
    change J X K 11 False QQ 0 0 2055 (jw K σ μ_63 o) 63 [(0, .ref (K.2.2 + 2017)), (1, .int l1), (2, .int l2), (3, .int l3), (4, .int l4), (5, .int l5_63), (6, .int l6_63)] []
    have hj_92 : (∀ (μ_92 : Sto) (l5_92 : Int32) (l6_92 : Int32) (l7_92 : Int32) (l8_92 : Int32) (l9_92 : Int32), Ok (f12_copyBlock_j92 l1 l2 l3 l4 μ_92 l5_92 l6_92 l7_92 l8_92 l9_92) B_63 → J X K 11 False QQ 0 0 2055 (jw K σ μ_92 o) 92 [(0, .ref (K.2.2 + 2017)), (1, .int l1), (2, .int l2), (3, .int l3), (4, .int l4), (5, .int l5_92), (6, .int l6_92), (7, .int l7_92), (8, .int l8_92), (9, .int l9_92)] []) := by
      intro μ_92 l5_92 l6_92 l7_92 l8_92 l9_92 h
      unfold f12_copyBlock_j92 at h
      refine loop_gen (S := Sto × Int32 × Int32) (P := fun s_92 => J X K 11 False QQ 0 0 2055 (jw K σ s_92.1 o) 92 [(0, .ref (K.2.2 + 2017)), (1, .int l1), (2, .int l2), (3, .int l3), (4, .int l4), (5, .int s_92.2.1), (6, .int l6_92), (7, .int l7_92), (8, .int l8_92), (9, .int s_92.2.2)] []) ?_ FU (μ_92, l5_92, l9_92) (Ok.ofbnd h)
      intro B_92 hB_92 hE_92 s_92 h
      obtain ⟨μ_92, l5_92, l9_92⟩ := s_92
      have h : Ok (f12_copyBlock_b92 l1 l2 l3 l4 μ_92 l5_92 l6_92 l7_92 l8_92 l9_92) B_92 := h
      change J X K 11 False QQ 0 0 2055 (jw K σ μ_92 o) 92 [(0, .ref (K.2.2 + 2017)), (1, .int l1), (2, .int l2), (3, .int l3), (4, .int l4), (5, .int l5_92), (6, .int l6_92), (7, .int l7_92), (8, .int l8_92), (9, .int l9_92)] []
      have hj_165 : (∀ (μ_165 : Sto) (l9_165 : Int32) (s0_165 : Int32) (s1_165 : Int32), Ok (f12_copyBlock_j165 l1 l2 l3 l4 l6_92 l7_92 l8_92 μ_165 l9_165 s0_165 s1_165) B_92 → J X K 11 False QQ 0 0 2055 (jw K σ μ_165 o) 165 [(0, .ref (K.2.2 + 2017)), (1, .int l1), (2, .int l2), (3, .int l3), (4, .int l4), (6, .int l6_92), (7, .int l7_92), (8, .int l8_92), (9, .int l9_165)] [.int s1_165, .int s0_165]) := by
        intro μ_165 l9_165 s0_165 s1_165 h
        unfold f12_copyBlock_j165 at h
        refine J_iadd C dX12_copyBlock_165 rfl ?_
        obtain ⟨x5_1, e_x5_1, h⟩ := Ok.nm h
        refine J_istoreE (i := 5) (lv' := [(5, .int x5_1), (0, .ref (K.2.2 + 2017)), (1, .int l1), (2, .int l2), (3, .int l3), (4, .int l4), (6, .int l6_92), (7, .int l7_92), (8, .int l8_92), (9, .int l9_165)]) C e_x5_1 dX12_copyBlock_166 (Nat.le_of_ble_eq_true rfl) rfl rfl ?_
        obtain ⟨x9_2, e_x9_2, h⟩ := Ok.nm h
        refine J_iincE (i := 9) (p := 9) (lv' := [(9, .int x9_2), (5, .int x5_1), (0, .ref (K.2.2 + 2017)), (1, .int l1), (2, .int l2), (3, .int l3), (4, .int l4), (6, .int l6_92), (7, .int l7_92), (8, .int l8_92)]) C e_x9_2 dX12_copyBlock_168 rfl (by decide) (Nat.le_of_ble_eq_true rfl) rfl rfl ?_
        refine J_goto (t := 92) C dX12_copyBlock_171 (by decide) ?_
        refine J.sub [2, 3, 4, 5, 6, 1, 7, 8, 9, 0] rfl ?_
        exact hB_92 (μ_165, x5_1, x9_2) h.osome
      have hj_152 : (∀ (μ_152 : Sto) (l5_152 : Int32) (l9_152 : Int32) (l10_152 : Int32) (s1_152 : Int32) (s2_152 : Int32), Ok (f12_copyBlock_j152 l1 l2 l3 l4 l6_92 l7_92 l8_92 μ_152 l5_152 l9_152 l10_152 s1_152 s2_152) B_92 → J X K 11 False QQ 0 0 2055 (jw K σ μ_152 o) 152 [(0, .ref (K.2.2 + 2017)), (1, .int l1), (2, .int l2), (3, .int l3), (4, .int l4), (5, .int l5_152), (6, .int l6_92), (7, .int l7_92), (8, .int l8_92), (9, .int l9_152), (10, .int l10_152)] [.int s2_152, .int s1_152, .ref (K.2.2 + 2024)]) := by
        intro μ_152 l5_152 l9_152 l10_152 s1_152 s2_152 h
        unfold f12_copyBlock_j152 at h
        obtain ⟨g_1, h⟩ := Ok.ofgd h
        obtain ⟨μx_3, e_μx_3, h⟩ := Ok.nm h
        refine Jm_iast C id rfl rfl g_1 e_μx_3 dX12_copyBlock_152 rfl ?_
        refine J_iload (i := 5) (p := 5) C dX12_copyBlock_153 rfl rfl ?_
        refine J_iload (i := 10) (p := 10) C dX12_copyBlock_155 rfl rfl ?_
        refine J_if_eq (t := 164) C dX12_copyBlock_157 (by decide) rfl (fun c_2 => ?_) (fun c_2 => ?_)
        · have h := h.pos c_2
          refine J_iconst (v := 0) C (by decide) dX12_copyBlock_164 rfl ?_
          refine J.sub [0, 1, 2, 3, 4, 6, 7, 8, 9] rfl ?_
          exact hj_165 μx_3 l9_152 l5_152 (0 : Int32) h
        · have h := h.neg c_2
          refine J_iconst (v := 1) C (by decide) dX12_copyBlock_160 rfl ?_
          refine J_goto (t := 165) C dX12_copyBlock_161 (by decide) ?_
          refine J.sub [0, 1, 2, 3, 4, 6, 7, 8, 9] rfl ?_
          exact hj_165 μx_3 l9_152 l5_152 (1 : Int32) h
      have hj_116 : (∀ (μ_116 : Sto) (l5_116 : Int32) (l9_116 : Int32) (s0_116 : Int32), Ok (f12_copyBlock_j116 l1 l2 l3 l4 l6_92 l7_92 l8_92 μ_116 l5_116 l9_116 s0_116) B_92 → J X K 11 False QQ 0 0 2055 (jw K σ μ_116 o) 116 [(0, .ref (K.2.2 + 2017)), (1, .int l1), (2, .int l2), (3, .int l3), (4, .int l4), (5, .int l5_116), (6, .int l6_92), (7, .int l7_92), (8, .int l8_92), (9, .int l9_116)] [.int s0_116]) := by
        intro μ_116 l5_116 l9_116 s0_116 h
        unfold f12_copyBlock_j116 at h
        obtain ⟨x10_4, e_x10_4, h⟩ := Ok.nm h
        refine J_istoreE (i := 10) (lv' := [(10, .int x10_4), (0, .ref (K.2.2 + 2017)), (1, .int l1), (2, .int l2), (3, .int l3), (4, .int l4), (5, .int l5_116), (6, .int l6_92), (7, .int l7_92), (8, .int l8_92), (9, .int l9_116)]) C e_x10_4 dX12_copyBlock_116 (Nat.le_of_ble_eq_true rfl) rfl rfl ?_
        refine J_aload_n (i := 0) (p := 1) C dX12_copyBlock_118 rfl rfl rfl ?_
        refine Jm_getS (o2 := 7) (r2 := 2024) C fp_RX12_33 rfl rfl rfl dX12_copyBlock_119 rfl ?_
        refine J_iload (i := 4) (p := 5) C dX12_copyBlock_122 rfl rfl ?_
        refine J_iload (i := 6) (p := 7) C dX12_copyBlock_124 rfl rfl ?_
        refine J_imul C dX12_copyBlock_126 rfl ?_
        refine J_iload (i := 9) (p := 10) C dX12_copyBlock_127 rfl rfl ?_
        refine J_iadd C dX12_copyBlock_129 rfl ?_
        refine J_iload (i := 10) (p := 0) C dX12_copyBlock_130 rfl rfl ?_
        refine J_if_eq (t := 150) C dX12_copyBlock_132 (by decide) rfl (fun c_3 => ?_) (fun c_3 => ?_)
        · have h := h.pos c_3
          refine J_bipush (v := 32) C (by decide) dX12_copyBlock_150 rfl ?_
          refine J.sub [1, 2, 3, 4, 5, 6, 7, 8, 9, 10, 0] rfl ?_
          exact hj_152 μ_116 l5_116 l9_116 x10_4 ((l4 * l6_92) + l9_116) (32 : Int32) h
        · have h := h.neg c_3
          refine J_aload_n (i := 0) (p := 1) C dX12_copyBlock_135 rfl rfl rfl ?_
          refine Jm_getS (o2 := 1) (r2 := 2018) C fp_RX12_7 rfl rfl rfl dX12_copyBlock_136 rfl ?_
          refine J_iload (i := 7) (p := 8) C dX12_copyBlock_139 rfl rfl ?_
          refine J_iload_n (i := 3) (p := 4) C dX12_copyBlock_141 rfl rfl rfl ?_
          refine J_iadd C dX12_copyBlock_142 rfl ?_
          refine J_iload (i := 9) (p := 10) C dX12_copyBlock_143 rfl rfl ?_
          refine J_iadd C dX12_copyBlock_145 rfl ?_
          obtain ⟨g_4, h⟩ := Ok.ofgd h
          refine Jm_iald C rfl rfl g_4 dX12_copyBlock_146 rfl ?_
          refine J_goto (t := 152) C dX12_copyBlock_147 (by decide) ?_
          refine J.sub [1, 2, 3, 4, 5, 6, 7, 8, 9, 10, 0] rfl ?_
          exact hj_152 μ_116 l5_116 l9_116 x10_4 ((l4 * l6_92) + l9_116) (aI μ_116 2018 (Int32.toNatClampNeg ((l7_92 + l3) + l9_116))) h
      unfold f12_copyBlock_b92 at h
      refine J_iload (i := 9) (p := 9) C dX12_copyBlock_92 rfl rfl ?_
      refine J_iload (i := 4) (p := 4) C dX12_copyBlock_94 rfl rfl ?_
      refine J_icmp_ge (t := 174) C dX12_copyBlock_96 (by decide) rfl (fun c_5 => ?_) (fun c_5 => ?_)
      · have h := h.pos c_5
        have h := hE_92 (μ_92, l5_92) h.osome
        try dsimp only at h
        obtain ⟨x6_5, e_x6_5, h⟩ := Ok.nm h
        refine J_iincE (i := 6) (p := 6) (lv' := [(6, .int x6_5), (0, .ref (K.2.2 + 2017)), (1, .int l1), (2, .int l2), (3, .int l3), (4, .int l4), (5, .int l5_92), (7, .int l7_92), (8, .int l8_92), (9, .int l9_92)]) C e_x6_5 dX12_copyBlock_174 rfl (by decide) (Nat.le_of_ble_eq_true rfl) rfl rfl ?_
        refine J_goto (t := 63) C dX12_copyBlock_177 (by decide) ?_
        refine J.sub [1, 2, 3, 4, 5, 6, 0] rfl ?_
        exact hB_63 (μ_92, l5_92, x6_5) h.osome
      · have h := h.neg c_5
        refine J_iload (i := 7) (p := 7) C dX12_copyBlock_99 rfl rfl ?_
        refine J_iload_n (i := 3) (p := 3) C dX12_copyBlock_101 rfl rfl rfl ?_
        refine J_iadd C dX12_copyBlock_102 rfl ?_
        refine J_iload (i := 9) (p := 9) C dX12_copyBlock_103 rfl rfl ?_
        refine J_iadd C dX12_copyBlock_105 rfl ?_
        refine J_iload (i := 8) (p := 8) C dX12_copyBlock_106 rfl rfl ?_
        refine J_icmp_ge (t := 115) C dX12_copyBlock_108 (by decide) rfl (fun c_6 => ?_) (fun c_6 => ?_)
        · have h := h.pos c_6
          refine J_iconst (v := 0) C (by decide) dX12_copyBlock_115 rfl ?_
          exact hj_116 μ_92 l5_92 l9_92 (0 : Int32) h
        · have h := h.neg c_6
          refine J_iconst (v := 1) C (by decide) dX12_copyBlock_111 rfl ?_
          refine J_goto (t := 116) C dX12_copyBlock_112 (by decide) ?_
          exact hj_116 μ_92 l5_92 l9_92 (1 : Int32) h
    unfold f12_copyBlock_b63 at h
    refine J_iload (i := 6) (p := 6) C dX12_copyBlock_63 rfl rfl ?_
    refine J_iload_n (i := 2) (p := 2) C dX12_copyBlock_65 rfl rfl rfl ?_
    refine J_icmp_ge (t := 180) C dX12_copyBlock_66 (by decide) rfl (fun c_7 => ?_) (fun c_7 => ?_)
    · have h := h.pos c_7
      have h := hE_63 (μ_63, l5_63) h.osome
      try dsimp only at h
      refine J_aload_n (i := 0) (p := 0) C dX12_copyBlock_180 rfl rfl rfl ?_
      refine J_iload_n (i := 2) (p := 2) C dX12_copyBlock_181 rfl rfl rfl ?_
      obtain ⟨μx_7, e_μx_7, h⟩ := Ok.nm h
      refine Jm_putI C id fp_RX12_212 fw_11_13 rfl rfl rfl e_μx_7 dX12_copyBlock_182 rfl ?_
      refine J_aload_n (i := 0) (p := 0) C dX12_copyBlock_185 rfl rfl rfl ?_
      refine J_iload (i := 4) (p := 4) C dX12_copyBlock_186 rfl rfl ?_
      obtain ⟨μx_8, e_μx_8, h⟩ := Ok.nm h
      refine Jm_putI C id fp_RX12_231 fw_11_14 rfl rfl rfl e_μx_8 dX12_copyBlock_188 rfl ?_
      refine J_aload_n (i := 0) (p := 0) C dX12_copyBlock_191 rfl rfl rfl ?_
      refine J_iload_n (i := 2) (p := 2) C dX12_copyBlock_192 rfl rfl rfl ?_
      refine J_iload (i := 4) (p := 4) C dX12_copyBlock_193 rfl rfl ?_
      refine J_imul C dX12_copyBlock_195 rfl ?_
      obtain ⟨μx_9, e_μx_9, h⟩ := Ok.nm h
      refine Jm_putI C id fp_RX12_215 fw_11_12 rfl rfl rfl e_μx_9 dX12_copyBlock_196 rfl ?_
      refine J_aload_n (i := 0) (p := 0) C dX12_copyBlock_199 rfl rfl rfl ?_
      refine J_iload (i := 5) (p := 5) C dX12_copyBlock_200 rfl rfl ?_
      refine Jm_cV (rest := []) (st9 := fun p_8 => [.int p_8.1]) C hR hX cv_RX12_209 rfl (Nat.le_of_ble_eq_true rfl) (k12_told hl  (Ok.ofbnd h)) rfl rfl (Nat.le_of_ble_eq_true rfl) (Nat.le_of_ble_eq_true rfl) (Nat.le_of_ble_eq_true rfl) ⟨(Nat.le_of_ble_eq_true rfl), (Nat.le_of_ble_eq_true rfl)⟩ dX12_copyBlock_202 rfl (fun E n9 w9 hx => JT_n hx) (fun _ => rfl) (fun p_8 h => ?_)
      have h : Ok _ _ := h
      change J X K 11 False QQ 0 0 2055 (jw K σ p_8.2 o) 205 [(0, .ref (K.2.2 + 2017)), (1, .int l1), (2, .int l2), (3, .int l3), (4, .int l4), (5, .int l5_63), (6, .int l6_63)] [.int p_8.1]
      rw [← hQQ]
      exact J_iret C hret (Nat.le_of_ble_eq_true rfl) (Nat.le_of_ble_eq_true rfl) ⟨_, h.osome, rfl, rfl, rfl⟩ dX12_copyBlock_205
    · have h := h.neg c_7
      refine J_aload_n (i := 0) (p := 0) C dX12_copyBlock_69 rfl rfl rfl ?_
      refine J_iload_n (i := 1) (p := 1) C dX12_copyBlock_70 rfl rfl rfl ?_
      refine J_iload (i := 6) (p := 6) C dX12_copyBlock_71 rfl rfl ?_
      refine J_iadd C dX12_copyBlock_73 rfl ?_
      refine Jm_cV (rest := []) (st9 := fun p_9 => [.int p_9]) C hR hX cv_RX12_145 rfl (Nat.le_of_ble_eq_true rfl) (k12_beginOf hl  (Ok.ofbnd h)) rfl rfl (Nat.le_of_ble_eq_true rfl) (Nat.le_of_ble_eq_true rfl) (Nat.le_of_ble_eq_true rfl) ⟨(Nat.le_of_ble_eq_true rfl), (Nat.le_of_ble_eq_true rfl)⟩ dX12_copyBlock_74 rfl (fun E n9 w9 hx => JT_n hx) (fun _ => rfl) (fun p_9 h => ?_)
      have h : Ok _ _ := h
      change J X K 11 False QQ 0 0 2055 (jw K σ μ_63 o) 77 [(0, .ref (K.2.2 + 2017)), (1, .int l1), (2, .int l2), (3, .int l3), (4, .int l4), (5, .int l5_63), (6, .int l6_63)] [.int p_9]
      obtain ⟨x7_10, e_x7_10, h⟩ := Ok.nm h
      refine J_istoreE (i := 7) (lv' := [(7, .int x7_10), (0, .ref (K.2.2 + 2017)), (1, .int l1), (2, .int l2), (3, .int l3), (4, .int l4), (5, .int l5_63), (6, .int l6_63)]) C e_x7_10 dX12_copyBlock_77 (Nat.le_of_ble_eq_true rfl) rfl rfl ?_
      refine J_aload_n (i := 0) (p := 1) C dX12_copyBlock_79 rfl rfl rfl ?_
      refine J_iload_n (i := 1) (p := 2) C dX12_copyBlock_80 rfl rfl rfl ?_
      refine J_iload (i := 6) (p := 7) C dX12_copyBlock_81 rfl rfl ?_
      refine J_iadd C dX12_copyBlock_83 rfl ?_
      refine Jm_cV (rest := []) (st9 := fun p_10 => [.int p_10]) C hR hX cv_RX12_228 rfl (Nat.le_of_ble_eq_true rfl) (k12_endOf hl  (Ok.ofbnd h)) rfl rfl (Nat.le_of_ble_eq_true rfl) (Nat.le_of_ble_eq_true rfl) (Nat.le_of_ble_eq_true rfl) ⟨(Nat.le_of_ble_eq_true rfl), (Nat.le_of_ble_eq_true rfl)⟩ dX12_copyBlock_84 rfl (fun E n9 w9 hx => JT_n hx) (fun _ => rfl) (fun p_10 h => ?_)
      have h : Ok _ _ := h
      change J X K 11 False QQ 0 0 2055 (jw K σ μ_63 o) 87 [(7, .int x7_10), (0, .ref (K.2.2 + 2017)), (1, .int l1), (2, .int l2), (3, .int l3), (4, .int l4), (5, .int l5_63), (6, .int l6_63)] [.int p_10]
      obtain ⟨x8_11, e_x8_11, h⟩ := Ok.nm h
      refine J_istoreE (i := 8) (lv' := [(8, .int x8_11), (7, .int x7_10), (0, .ref (K.2.2 + 2017)), (1, .int l1), (2, .int l2), (3, .int l3), (4, .int l4), (5, .int l5_63), (6, .int l6_63)]) C e_x8_11 dX12_copyBlock_87 (Nat.le_of_ble_eq_true rfl) rfl rfl ?_
      refine J_iconst (v := 0) C (by decide) dX12_copyBlock_89 rfl ?_
      obtain ⟨x9_12, e_x9_12, h⟩ := Ok.nm h
      refine J_istoreE (i := 9) (lv' := [(9, .int x9_12), (8, .int x8_11), (7, .int x7_10), (0, .ref (K.2.2 + 2017)), (1, .int l1), (2, .int l2), (3, .int l3), (4, .int l4), (5, .int l5_63), (6, .int l6_63)]) C e_x9_12 dX12_copyBlock_90 (Nat.le_of_ble_eq_true rfl) rfl rfl ?_
      refine J.sub [3, 4, 5, 6, 7, 8, 9, 2, 1, 0] rfl ?_
      exact hj_92 μ_63 l5_63 l6_63 x7_10 x8_11 x9_12 h
  have hj_51 : (∀ (μ_51 : Sto), Ok (f12_copyBlock_j51 l1 l2 l3 l4 μ_51) Qf → J X K 11 False QQ 0 0 2055 (jw K σ μ_51 o) 51 [(0, .ref (K.2.2 + 2017))] []) := by
    intro μ_51 h
    unfold f12_copyBlock_j51 at h
    refine J_aload_n (i := 0) (p := 0) C dX12_copyBlock_51 rfl rfl rfl ?_
    refine J_iconst (v := 2) C (by decide) dX12_copyBlock_52 rfl ?_
    refine Jm_cV (rest := []) (st9 := fun p_12 => [.int p_12.1]) C hR hX cv_RX12_206 rfl (Nat.le_of_ble_eq_true rfl) (k12_refuse hl  (Ok.ofbnd h)) rfl rfl (Nat.le_of_ble_eq_true rfl) (Nat.le_of_ble_eq_true rfl) (Nat.le_of_ble_eq_true rfl) ⟨(Nat.le_of_ble_eq_true rfl), (Nat.le_of_ble_eq_true rfl)⟩ dX12_copyBlock_53 rfl (fun E n9 w9 hx => JT_n hx) (fun _ => rfl) (fun p_12 h => ?_)
    have h : Ok _ _ := h
    change J X K 11 False QQ 0 0 2055 (jw K σ p_12.2 o) 56 [(0, .ref (K.2.2 + 2017))] [.int p_12.1]
    rw [← hQQ]
    exact J_iret C hret (Nat.le_of_ble_eq_true rfl) (Nat.le_of_ble_eq_true rfl) ⟨_, h.osome, rfl, rfl, rfl⟩ dX12_copyBlock_56
  have hj_18 : (∀ (μ_18 : Sto), Ok (f12_copyBlock_j18 l1 l2 l3 l4 μ_18) Qf → J X K 11 False QQ 0 0 2055 (jw K σ μ_18 o) 18 [(0, .ref (K.2.2 + 2017))] []) := by
    intro μ_18 h
    unfold f12_copyBlock_j18 at h
    refine J_aload_n (i := 0) (p := 0) C dX12_copyBlock_18 rfl rfl rfl ?_
    refine J_iconst (v := 1) C (by decide) dX12_copyBlock_19 rfl ?_
    refine Jm_cV (rest := []) (st9 := fun p_13 => [.int p_13.1]) C hR hX cv_RX12_206 rfl (Nat.le_of_ble_eq_true rfl) (k12_refuse hl  (Ok.ofbnd h)) rfl rfl (Nat.le_of_ble_eq_true rfl) (Nat.le_of_ble_eq_true rfl) (Nat.le_of_ble_eq_true rfl) ⟨(Nat.le_of_ble_eq_true rfl), (Nat.le_of_ble_eq_true rfl)⟩ dX12_copyBlock_20 rfl (fun E n9 w9 hx => JT_n hx) (fun _ => rfl) (fun p_13 h => ?_)
    have h : Ok _ _ := h
    change J X K 11 False QQ 0 0 2055 (jw K σ p_13.2 o) 23 [(0, .ref (K.2.2 + 2017))] [.int p_13.1]
    rw [← hQQ]
    exact J_iret C hret (Nat.le_of_ble_eq_true rfl) (Nat.le_of_ble_eq_true rfl) ⟨_, h.osome, rfl, rfl, rfl⟩ dX12_copyBlock_23
  unfold f12_copyBlock at h
  refine J_aload_n (i := 0) (p := 0) C dX12_copyBlock_0 rfl rfl rfl ?_
  refine J_iload_n (i := 1) (p := 1) C dX12_copyBlock_1 rfl rfl rfl ?_
  refine Jm_cV (rest := []) (st9 := fun p_14 => [.int p_14]) C hR hX cv_RX12_225 rfl (Nat.le_of_ble_eq_true rfl) (k12_isLine hl  (Ok.ofbnd h)) rfl rfl (Nat.le_of_ble_eq_true rfl) (Nat.le_of_ble_eq_true rfl) (Nat.le_of_ble_eq_true rfl) ⟨(Nat.le_of_ble_eq_true rfl), (Nat.le_of_ble_eq_true rfl)⟩ dX12_copyBlock_2 rfl (fun E n9 w9 hx => JT_n hx) (fun _ => rfl) (fun p_14 h => ?_)
  have h : Ok _ _ := h
  change J X K 11 False QQ 0 0 2055 (jw K σ μ o) 5 [(0, .ref (K.2.2 + 2017)), (1, .int l1), (2, .int l2), (3, .int l3), (4, .int l4)] [.int p_14]
  refine J_if_eq (t := 18) C dX12_copyBlock_5 (by decide) rfl (fun c_15 => ?_) (fun c_15 => ?_)
  · have h := h.pos c_15
    refine J.sub [0] rfl ?_
    exact hj_18 μ h
  · have h := h.neg c_15
    refine J_iload_n (i := 2) (p := 2) C dX12_copyBlock_8 rfl rfl rfl ?_
    refine J_aload_n (i := 0) (p := 0) C dX12_copyBlock_9 rfl rfl rfl ?_
    refine Jm_cV (rest := [.int l2]) (st9 := fun p_16 => [.int p_16, .int l2]) C hR hX cv_RX12_141 rfl (Nat.le_of_ble_eq_true rfl) (k12_lines hl  (Ok.ofbnd h)) rfl rfl (Nat.le_of_ble_eq_true rfl) (Nat.le_of_ble_eq_true rfl) (Nat.le_of_ble_eq_true rfl) ⟨(Nat.le_of_ble_eq_true rfl), (Nat.le_of_ble_eq_true rfl)⟩ dX12_copyBlock_10 rfl (fun E n9 w9 hx => JT_n hx) (fun _ => rfl) (fun p_16 h => ?_)
    have h : Ok _ _ := h
    change J X K 11 False QQ 0 0 2055 (jw K σ μ o) 13 [(0, .ref (K.2.2 + 2017)), (1, .int l1), (2, .int l2), (3, .int l3), (4, .int l4)] [.int p_16, .int l2]
    refine J_iload_n (i := 1) (p := 1) C dX12_copyBlock_13 rfl rfl rfl ?_
    refine J_isub C dX12_copyBlock_14 rfl ?_
    refine J_icmp_le (t := 24) C dX12_copyBlock_15 (by decide) rfl (fun c_17 => ?_) (fun c_17 => ?_)
    · have h := h.pos c_17
      refine J_iload_n (i := 2) (p := 2) C dX12_copyBlock_24 rfl rfl rfl ?_
      refine J_iconst (v := 1) C (by decide) dX12_copyBlock_25 rfl ?_
      refine J_icmp_lt (t := 51) C dX12_copyBlock_26 (by decide) rfl (fun c_18 => ?_) (fun c_18 => ?_)
      · have h := h.pos c_18
        refine J.sub [0] rfl ?_
        exact hj_51 μ h
      · have h := h.neg c_18
        refine J_iload_n (i := 3) (p := 3) C dX12_copyBlock_29 rfl rfl rfl ?_
        refine J_iconst (v := 0) C (by decide) dX12_copyBlock_30 rfl ?_
        refine J_sipush (v := 200) C (by decide) dX12_copyBlock_31 rfl ?_
        refine J_cS (rest := []) (st9 := fun p_19 => [.int p_19]) C hR hX cs_RX12_134 (k12_in hl  (Ok.ofbnd h)) rfl rfl (Nat.le_of_ble_eq_true rfl) (Nat.le_of_ble_eq_true rfl) (Nat.le_of_ble_eq_true rfl) ⟨(Nat.le_of_ble_eq_true rfl), (Nat.le_of_ble_eq_true rfl)⟩ dX12_copyBlock_34 rfl (fun E n9 w9 hx => JT_n hx) (fun _ => rfl) (fun p_19 h => ?_)
        have h : Ok _ _ := h
        change J X K 11 False QQ 0 0 2055 (jw K σ μ o) 37 [(0, .ref (K.2.2 + 2017)), (1, .int l1), (2, .int l2), (3, .int l3), (4, .int l4)] [.int p_19]
        refine J_if_eq (t := 51) C dX12_copyBlock_37 (by decide) rfl (fun c_20 => ?_) (fun c_20 => ?_)
        · have h := h.pos c_20
          refine J.sub [0] rfl ?_
          exact hj_51 μ h
        · have h := h.neg c_20
          refine J_iload (i := 4) (p := 4) C dX12_copyBlock_40 rfl rfl ?_
          refine J_iconst (v := 1) C (by decide) dX12_copyBlock_42 rfl ?_
          refine J_bipush (v := 40) C (by decide) dX12_copyBlock_43 rfl ?_
          refine J_cS (rest := []) (st9 := fun p_21 => [.int p_21]) C hR hX cs_RX12_134 (k12_in hl  (Ok.ofbnd h)) rfl rfl (Nat.le_of_ble_eq_true rfl) (Nat.le_of_ble_eq_true rfl) (Nat.le_of_ble_eq_true rfl) ⟨(Nat.le_of_ble_eq_true rfl), (Nat.le_of_ble_eq_true rfl)⟩ dX12_copyBlock_45 rfl (fun E n9 w9 hx => JT_n hx) (fun _ => rfl) (fun p_21 h => ?_)
          have h : Ok _ _ := h
          change J X K 11 False QQ 0 0 2055 (jw K σ μ o) 48 [(0, .ref (K.2.2 + 2017)), (1, .int l1), (2, .int l2), (3, .int l3), (4, .int l4)] [.int p_21]
          refine J_if_ne (t := 57) C dX12_copyBlock_48 (by decide) rfl (fun c_22 => ?_) (fun c_22 => ?_)
          · have h := h.neg c_22
            refine J_iconst (v := 0) C (by decide) dX12_copyBlock_57 rfl ?_
            obtain ⟨x5_16, e_x5_16, h⟩ := Ok.nm h
            refine J_istoreE (i := 5) (lv' := [(5, .int x5_16), (0, .ref (K.2.2 + 2017)), (1, .int l1), (2, .int l2), (3, .int l3), (4, .int l4)]) C e_x5_16 dX12_copyBlock_58 (Nat.le_of_ble_eq_true rfl) rfl rfl ?_
            refine J_iconst (v := 0) C (by decide) dX12_copyBlock_60 rfl ?_
            obtain ⟨x6_17, e_x6_17, h⟩ := Ok.nm h
            refine J_istoreE (i := 6) (lv' := [(6, .int x6_17), (5, .int x5_16), (0, .ref (K.2.2 + 2017)), (1, .int l1), (2, .int l2), (3, .int l3), (4, .int l4)]) C e_x6_17 dX12_copyBlock_61 (Nat.le_of_ble_eq_true rfl) rfl rfl ?_
            refine J.sub [2, 3, 4, 5, 6, 1, 0] rfl ?_
            exact hj_63 μ x5_16 x6_17 h
          · have h := h.pos (Decidable.not_not.mp c_22)
            refine J.sub [0] rfl ?_
            exact hj_51 μ h
    · have h := h.neg c_17
      refine J.sub [0] rfl ?_
      exact hj_18 μ h
def f12_types_b10 (μ_10 : Sto) (l1_10 : Int32) : Option ((Sto × Int32) ⊕ Sto) :=
  if (fI μ_10 2017 6) ≤ l1_10 then
    some (.inr μ_10)
  else
    gd (inb l1_10 8) <|
    gd (inb l1_10 8) <|
    bnd (f12_adds μ_10 (aI μ_10 2019 (Int32.toNatClampNeg l1_10)) (aI μ_10 2019 (Int32.toNatClampNeg l1_10)) (0 : Int32) (fI μ_10 2017 28)) fun p_6 =>
    stp (l1_10 + (1 : Int32)) fun x1_1 =>
    some (.inl (p_6, x1_1))
def f12_types_j10 (μ_10 : Sto) (l1_10 : Int32) : Option (Int32 × Sto) :=
  bnd (loopF (fun s_10 => f12_types_b10 s_10.1 s_10.2) FU (μ_10, l1_10)) fun r_10 =>
    bnd (f12_acts r_10) fun p_7 =>
    gd (isB p_7.1) <|
    some (p_7.1, p_7.2)
def f12_types (μ : Sto) : Option (Int32 × Sto) :=
  bnd (f12_begins μ) fun p_9 =>
  bnd (f12_putsTape p_9) fun p_10 =>
  stp (0 : Int32) fun x1_2 =>
  f12_types_j10 p_10 x1_2
set_option maxHeartbeats 4000000 in
set_option maxRecDepth 100000 in
theorem k12_types {l : Launch} {K : JK} (hl : l.stackTraces = false) {σ μ : Sto} {o : Int64}   {Qf : Int32 × Sto → Prop} (h : Ok (f12_types μ) Qf) : Con l K yX12_types (.code yX12_types cX12_types 2 (some .boolean) :: TB) 3 0 0 False [.ref (K.2.2 + 2017)] 2055 (jw K σ μ o) (PR Qf (fun p => some (.int p.1)) (fun p => jw K σ p.2 o)) PN := by
  refine Con.enter (own := RX12) hl (by decide) rfl (Nat.le_of_ble_eq_true rfl) ?_
  intro X hX hR C hret hnt
  generalize hQQ : jQ X K 0 0 (PR Qf (fun p => some (.int p.1)) (fun p => jw K σ p.2 o)) PN False = QQ
  change J X K 2 False QQ 0 0 2055 (jw K σ μ o) 0 [(0, .ref (K.2.2 + 2017))] []
  have hj_10 : (∀ (μ_10 : Sto) (l1_10 : Int32), Ok (f12_types_j10 μ_10 l1_10) Qf → J X K 2 False QQ 0 0 2055 (jw K σ μ_10 o) 10 [(0, .ref (K.2.2 + 2017)), (1, .int l1_10)] []) := by
    intro μ_10 l1_10 h
    unfold f12_types_j10 at h
    refine loop_gen (S := Sto × Int32) (P := fun s_10 => J X K 2 False QQ 0 0 2055 (jw K σ s_10.1 o) 10 [(0, .ref (K.2.2 + 2017)), (1, .int s_10.2)] []) ?_ FU (μ_10, l1_10) (Ok.ofbnd h)
    intro B_10 hB_10 hE_10 s_10 h
    obtain ⟨μ_10, l1_10⟩ := s_10
    have h : Ok (f12_types_b10 μ_10 l1_10) B_10 := h
    change J X K 2 False QQ 0 0 2055 (jw K σ μ_10 o) 10 [(0, .ref (K.2.2 + 2017)), (1, .int l1_10)] []
    unfold f12_types_b10 at h
    refine J_iload_n (i := 1) (p := 1) C dX12_types_10 rfl rfl rfl ?_
    refine J_aload_n (i := 0) (p := 0) C dX12_types_11 rfl rfl rfl ?_
    refine Jm_getI C fp_RX12_26 rfl rfl dX12_types_12 rfl ?_
    refine J_icmp_ge (t := 45) C dX12_types_15 (by decide) rfl (fun c_1 => ?_) (fun c_1 => ?_)
    · have h := h.pos c_1
      have h := hE_10 μ_10 h.osome
      try dsimp only at h
      refine J_aload_n (i := 0) (p := 0) C dX12_types_45 rfl rfl rfl ?_
      refine Jm_cV (rest := []) (st9 := fun p_2 => [.int p_2.1]) C hR hX cv_RX12_244 rfl (Nat.le_of_ble_eq_true rfl) (k12_acts hl  (Ok.ofbnd h)) rfl rfl (Nat.le_of_ble_eq_true rfl) (Nat.le_of_ble_eq_true rfl) (Nat.le_of_ble_eq_true rfl) ⟨(Nat.le_of_ble_eq_true rfl), (Nat.le_of_ble_eq_true rfl)⟩ dX12_types_46 rfl (fun E n9 w9 hx => JT_n hx) (fun _ => rfl) (fun p_2 h => ?_)
      have h : Ok _ _ := h
      change J X K 2 False QQ 0 0 2055 (jw K σ p_2.2 o) 49 [(0, .ref (K.2.2 + 2017)), (1, .int l1_10)] [.int p_2.1]
      obtain ⟨g_3, h⟩ := Ok.ofgd h
      rw [← hQQ]
      exact J_zret C hret (narB g_3).1 (Nat.le_of_ble_eq_true rfl) (Nat.le_of_ble_eq_true rfl) ⟨_, h.osome, rfl, rfl, rfl⟩ dX12_types_49
    · have h := h.neg c_1
      refine J_aload_n (i := 0) (p := 0) C dX12_types_18 rfl rfl rfl ?_
      refine J_aload_n (i := 0) (p := 0) C dX12_types_19 rfl rfl rfl ?_
      refine Jm_getS (o2 := 2) (r2 := 2019) C fp_RX12_13 rfl rfl rfl dX12_types_20 rfl ?_
      refine J_iload_n (i := 1) (p := 1) C dX12_types_23 rfl rfl rfl ?_
      obtain ⟨g_4, h⟩ := Ok.ofgd h
      refine Jm_iald C rfl rfl g_4 dX12_types_24 rfl ?_
      refine J_aload_n (i := 0) (p := 0) C dX12_types_25 rfl rfl rfl ?_
      refine Jm_getS (o2 := 2) (r2 := 2019) C fp_RX12_13 rfl rfl rfl dX12_types_26 rfl ?_
      refine J_iload_n (i := 1) (p := 1) C dX12_types_29 rfl rfl rfl ?_
      obtain ⟨g_5, h⟩ := Ok.ofgd h
      refine Jm_iald C rfl rfl g_5 dX12_types_30 rfl ?_
      refine J_iconst (v := 0) C (by decide) dX12_types_31 rfl ?_
      refine J_aload_n (i := 0) (p := 0) C dX12_types_32 rfl rfl rfl ?_
      refine Jm_getI C fp_RX12_158 rfl rfl dX12_types_33 rfl ?_
      refine Jm_cV (rest := []) (st9 := fun p_6 => []) C hR hX cv_RX12_240 rfl (Nat.le_of_ble_eq_true rfl) (k12_adds hl  (Ok.ofbnd h)) rfl rfl (Nat.le_of_ble_eq_true rfl) (Nat.le_of_ble_eq_true rfl) (Nat.le_of_ble_eq_true rfl) ⟨(Nat.le_of_ble_eq_true rfl), (Nat.le_of_ble_eq_true rfl)⟩ dX12_types_36 rfl (fun E n9 w9 hx => JT_n hx) (fun _ => rfl) (fun p_6 h => ?_)
      have h : Ok _ _ := h
      change J X K 2 False QQ 0 0 2055 (jw K σ p_6 o) 39 [(0, .ref (K.2.2 + 2017)), (1, .int l1_10)] []
      obtain ⟨x1_1, e_x1_1, h⟩ := Ok.nm h
      refine J_iincE (i := 1) (p := 1) (lv' := [(1, .int x1_1), (0, .ref (K.2.2 + 2017))]) C e_x1_1 dX12_types_39 rfl (by decide) (Nat.le_of_ble_eq_true rfl) rfl rfl ?_
      refine J_goto (t := 10) C dX12_types_42 (by decide) ?_
      refine J.sub [1, 0] rfl ?_
      exact hB_10 (p_6, x1_1) h.osome
  unfold f12_types at h
  refine J_aload_n (i := 0) (p := 0) C dX12_types_0 rfl rfl rfl ?_
  refine Jm_cV (rest := []) (st9 := fun p_9 => []) C hR hX cv_RX12_234 rfl (Nat.le_of_ble_eq_true rfl) (k12_begins hl  (Ok.ofbnd h)) rfl rfl (Nat.le_of_ble_eq_true rfl) (Nat.le_of_ble_eq_true rfl) (Nat.le_of_ble_eq_true rfl) ⟨(Nat.le_of_ble_eq_true rfl), (Nat.le_of_ble_eq_true rfl)⟩ dX12_types_1 rfl (fun E n9 w9 hx => JT_n hx) (fun _ => rfl) (fun p_9 h => ?_)
  have h : Ok _ _ := h
  change J X K 2 False QQ 0 0 2055 (jw K σ p_9 o) 4 [(0, .ref (K.2.2 + 2017))] []
  refine J_aload_n (i := 0) (p := 0) C dX12_types_4 rfl rfl rfl ?_
  refine Jm_cV (rest := []) (st9 := fun p_10 => []) C hR hX cv_RX12_237 rfl (Nat.le_of_ble_eq_true rfl) (k12_putsTape hl  (Ok.ofbnd h)) rfl rfl (Nat.le_of_ble_eq_true rfl) (Nat.le_of_ble_eq_true rfl) (Nat.le_of_ble_eq_true rfl) ⟨(Nat.le_of_ble_eq_true rfl), (Nat.le_of_ble_eq_true rfl)⟩ dX12_types_5 rfl (fun E n9 w9 hx => JT_n hx) (fun _ => rfl) (fun p_10 h => ?_)
  have h : Ok _ _ := h
  change J X K 2 False QQ 0 0 2055 (jw K σ p_10 o) 8 [(0, .ref (K.2.2 + 2017))] []
  refine J_iconst (v := 0) C (by decide) dX12_types_8 rfl ?_
  obtain ⟨x1_2, e_x1_2, h⟩ := Ok.nm h
  refine J_istoreE_n (i := 1) (lv' := [(1, .int x1_2), (0, .ref (K.2.2 + 2017))]) C e_x1_2 dX12_types_9 rfl (Nat.le_of_ble_eq_true rfl) rfl rfl ?_
  refine J.sub [1, 0] rfl ?_
  exact hj_10 p_10 x1_2 h
