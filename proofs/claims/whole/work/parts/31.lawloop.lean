def sAll (xs : Nat → Int32) (i : Nat) (σ μ : Sto) (o : Int64) (Q : Sto → Sto → Int64 → Prop) : Nat → Prop
  | 0 => s_0 xs i σ μ o Q
  | 1 => s_1 xs i σ μ o Q
  | 2 => s_2 xs i σ μ o Q
  | 3 => s_3 xs i σ μ o Q
  | 4 => s_4 xs i σ μ o Q
  | 5 => s_5 xs i σ μ o Q
  | 6 => s_6 xs i σ μ o Q
  | 7 => s_7 xs i σ μ o Q
  | 8 => s_8 xs i σ μ o Q
  | 9 => s_9 xs i σ μ o Q
  | 10 => s_10 xs i σ μ o Q
  | 11 => s_11 xs i σ μ o Q
  | 12 => s_12 xs i σ μ o Q
  | 13 => s_13 xs i σ μ o Q
  | 14 => s_14 xs i σ μ o Q
  | 15 => s_15 xs i σ μ o Q
  | 16 => s_16 xs i σ μ o Q
  | 17 => s_17 xs i σ μ o Q
  | 18 => s_18 xs i σ μ o Q
  | 19 => s_19 xs i σ μ o Q
  | 20 => s_20 xs i σ μ o Q
  | 21 => s_21 xs i σ μ o Q
  | 22 => s_22 xs i σ μ o Q
  | 23 => s_23 xs i σ μ o Q
  | 24 => s_24 xs i σ μ o Q
  | 25 => s_25 xs i σ μ o Q
  | 26 => s_26 xs i σ μ o Q
  | 27 => s_27 xs i σ μ o Q
  | 28 => s_28 xs i σ μ o Q
  | 29 => s_29 xs i σ μ o Q
  | 30 => s_30 xs i σ μ o Q
  | 31 => s_31 xs i σ μ o Q
  | 32 => s_32 xs i σ μ o Q
  | 33 => s_33 xs i σ μ o Q
  | 34 => s_34 xs i σ μ o Q
  | 35 => s_35 xs i σ μ o Q
  | 36 => s_36 xs i σ μ o Q
  | 37 => s_37 xs i σ μ o Q
  | 38 => s_38 xs i σ μ o Q
  | 39 => s_39 xs i σ μ o Q
  | 40 => s_40 xs i σ μ o Q
  | 41 => s_41 xs i σ μ o Q
  | 42 => s_42 xs i σ μ o Q
  | 43 => s_43 xs i σ μ o Q
  | 44 => s_44 xs i σ μ o Q
  | 45 => s_45 xs i σ μ o Q
  | 46 => s_46 xs i σ μ o Q
  | 47 => s_47 xs i σ μ o Q
  | _ => True
set_option maxHeartbeats 4000000 in
theorem law_tab {X : JX} {K : JK} {b L : Nat} {xs : Nat → Int32} {Q : State → Prop} {k sl : Nat} {σ μ : Sto} {o : Int64} {i : Nat} {I : Sto → Sto → Int64 → Prop} {x : Int32} (c : LC X K b L xs) (hi : i + 5 ≤ L) (hk : k + 8 ≤ X.2.2.2.1.cells) (hs : sl + 48 ≤ X.2.2.2.1.slots) (hI : I σ μ o) (h : ∀ n : Nat, n < 48 → sAll xs i σ μ o I n) (kont : ∀ σ9 μ9 o9, I σ9 μ9 o9 → J X K 9 False Q (k + 8) (sl + 48) 2055 (jw K σ9 μ9 o9) 2954 [(4, .int (Int32.ofNat i)), (0, .ref b), (1, .ref (K.2.2 + 0)), (2, .ref (K.2.2 + 2017)), (3, .ref (K.2.2 + 2054))] []) : J X K 9 False Q k sl 2055 (jw K σ μ o) 39 [(4, .int (Int32.ofNat i)), (0, .ref b), (1, .ref (K.2.2 + 0)), (2, .ref (K.2.2 + 2017)), (3, .ref (K.2.2 + 2054))] [.int x] := by
  have C := c.1
  by_cases h0 : x.toInt = 0
  · exact J_tab (t := 244) C 0 h0 dL_law_39 (by decide) (by decide) rfl (by decide) (case_0 c hi hk hs (h 0 (by decide)) kont)
  by_cases h1 : x.toInt = 1
  · exact J_tab (t := 332) C 1 h1 dL_law_39 (by decide) (by decide) rfl (by decide) (case_1 c hi hk hs (h 1 (by decide)) kont)
  by_cases h2 : x.toInt = 2
  · exact J_tab (t := 345) C 2 h2 dL_law_39 (by decide) (by decide) rfl (by decide) (case_2 c hi hk hs (h 2 (by decide)) kont)
  by_cases h3 : x.toInt = 3
  · exact J_tab (t := 413) C 3 h3 dL_law_39 (by decide) (by decide) rfl (by decide) (case_3 c hi hk hs (h 3 (by decide)) kont)
  by_cases h4 : x.toInt = 4
  · exact J_tab (t := 505) C 4 h4 dL_law_39 (by decide) (by decide) rfl (by decide) (case_4 c hi hk hs (h 4 (by decide)) kont)
  by_cases h5 : x.toInt = 5
  · exact J_tab (t := 549) C 5 h5 dL_law_39 (by decide) (by decide) rfl (by decide) (case_5 c hi hk hs (h 5 (by decide)) kont)
  by_cases h6 : x.toInt = 6
  · exact J_tab (t := 605) C 6 h6 dL_law_39 (by decide) (by decide) rfl (by decide) (case_6 c hi hk hs (h 6 (by decide)) kont)
  by_cases h7 : x.toInt = 7
  · exact J_tab (t := 673) C 7 h7 dL_law_39 (by decide) (by decide) rfl (by decide) (case_7 c hi hk hs (h 7 (by decide)) kont)
  by_cases h8 : x.toInt = 8
  · exact J_tab (t := 741) C 8 h8 dL_law_39 (by decide) (by decide) rfl (by decide) (case_8 c hi hk hs (h 8 (by decide)) kont)
  by_cases h9 : x.toInt = 9
  · exact J_tab (t := 785) C 9 h9 dL_law_39 (by decide) (by decide) rfl (by decide) (case_9 c hi hk hs (h 9 (by decide)) kont)
  by_cases h10 : x.toInt = 10
  · exact J_tab (t := 865) C 10 h10 dL_law_39 (by decide) (by decide) rfl (by decide) (case_10 c hi hk hs (h 10 (by decide)) kont)
  by_cases h11 : x.toInt = 11
  · exact J_tab (t := 933) C 11 h11 dL_law_39 (by decide) (by decide) rfl (by decide) (case_11 c hi hk hs (h 11 (by decide)) kont)
  by_cases h12 : x.toInt = 12
  · exact J_tab (t := 1001) C 12 h12 dL_law_39 (by decide) (by decide) rfl (by decide) (case_12 c hi hk hs (h 12 (by decide)) kont)
  by_cases h13 : x.toInt = 13
  · exact J_tab (t := 1045) C 13 h13 dL_law_39 (by decide) (by decide) rfl (by decide) (case_13 c hi hk hs (h 13 (by decide)) kont)
  by_cases h14 : x.toInt = 14
  · exact J_tab (t := 1089) C 14 h14 dL_law_39 (by decide) (by decide) rfl (by decide) (case_14 c hi hk hs (h 14 (by decide)) kont)
  by_cases h15 : x.toInt = 15
  · exact J_tab (t := 1145) C 15 h15 dL_law_39 (by decide) (by decide) rfl (by decide) (case_15 c hi hk hs (h 15 (by decide)) kont)
  by_cases h16 : x.toInt = 16
  · exact J_tab (t := 1201) C 16 h16 dL_law_39 (by decide) (by decide) rfl (by decide) (case_16 c hi hk hs (h 16 (by decide)) kont)
  by_cases h17 : x.toInt = 17
  · exact J_tab (t := 1257) C 17 h17 dL_law_39 (by decide) (by decide) rfl (by decide) (case_17 c hi hk hs (h 17 (by decide)) kont)
  by_cases h18 : x.toInt = 18
  · exact J_tab (t := 1298) C 18 h18 dL_law_39 (by decide) (by decide) rfl (by decide) (case_18 c hi hk hs (h 18 (by decide)) kont)
  by_cases h19 : x.toInt = 19
  · exact J_tab (t := 1354) C 19 h19 dL_law_39 (by decide) (by decide) rfl (by decide) (case_19 c hi hk hs (h 19 (by decide)) kont)
  by_cases h20 : x.toInt = 20
  · exact J_tab (t := 1410) C 20 h20 dL_law_39 (by decide) (by decide) rfl (by decide) (case_20 c hi hk hs (h 20 (by decide)) kont)
  by_cases h21 : x.toInt = 21
  · exact J_tab (t := 1466) C 21 h21 dL_law_39 (by decide) (by decide) rfl (by decide) (case_21 c hi hk hs (h 21 (by decide)) kont)
  by_cases h22 : x.toInt = 22
  · exact J_tab (t := 1534) C 22 h22 dL_law_39 (by decide) (by decide) rfl (by decide) (case_22 c hi hk hs (h 22 (by decide)) kont)
  by_cases h23 : x.toInt = 23
  · exact J_tab (t := 1590) C 23 h23 dL_law_39 (by decide) (by decide) rfl (by decide) (case_23 c hi hk hs (h 23 (by decide)) kont)
  by_cases h24 : x.toInt = 24
  · exact J_tab (t := 1686) C 24 h24 dL_law_39 (by decide) (by decide) rfl (by decide) (case_24 c hi hk hs (h 24 (by decide)) kont)
  by_cases h25 : x.toInt = 25
  · exact J_tab (t := 1742) C 25 h25 dL_law_39 (by decide) (by decide) rfl (by decide) (case_25 c hi hk hs (h 25 (by decide)) kont)
  by_cases h26 : x.toInt = 26
  · exact J_tab (t := 1798) C 26 h26 dL_law_39 (by decide) (by decide) rfl (by decide) (case_26 c hi hk hs (h 26 (by decide)) kont)
  by_cases h27 : x.toInt = 27
  · exact J_tab (t := 1882) C 27 h27 dL_law_39 (by decide) (by decide) rfl (by decide) (case_27 c hi hk hs (h 27 (by decide)) kont)
  by_cases h28 : x.toInt = 28
  · exact J_tab (t := 1954) C 28 h28 dL_law_39 (by decide) (by decide) rfl (by decide) (case_28 c hi hk hs (h 28 (by decide)) kont)
  by_cases h29 : x.toInt = 29
  · exact J_tab (t := 2038) C 29 h29 dL_law_39 (by decide) (by decide) rfl (by decide) (case_29 c hi hk hs (h 29 (by decide)) kont)
  by_cases h30 : x.toInt = 30
  · exact J_tab (t := 2106) C 30 h30 dL_law_39 (by decide) (by decide) rfl (by decide) (case_30 c hi hk hs (h 30 (by decide)) kont)
  by_cases h31 : x.toInt = 31
  · exact J_tab (t := 2162) C 31 h31 dL_law_39 (by decide) (by decide) rfl (by decide) (case_31 c hi hk hs (h 31 (by decide)) kont)
  by_cases h32 : x.toInt = 32
  · exact J_tab (t := 2225) C 32 h32 dL_law_39 (by decide) (by decide) rfl (by decide) (case_32 c hi hk hs (h 32 (by decide)) kont)
  by_cases h33 : x.toInt = 33
  · exact J_tab (t := 2305) C 33 h33 dL_law_39 (by decide) (by decide) rfl (by decide) (case_33 c hi hk hs (h 33 (by decide)) kont)
  by_cases h34 : x.toInt = 34
  · exact J_tab (t := 2373) C 34 h34 dL_law_39 (by decide) (by decide) rfl (by decide) (case_34 c hi hk hs (h 34 (by decide)) kont)
  by_cases h35 : x.toInt = 35
  · exact J_tab (t := 2414) C 35 h35 dL_law_39 (by decide) (by decide) rfl (by decide) (case_35 c hi hk hs (h 35 (by decide)) kont)
  by_cases h36 : x.toInt = 36
  · exact J_tab (t := 2470) C 36 h36 dL_law_39 (by decide) (by decide) rfl (by decide) (case_36 c hi hk hs (h 36 (by decide)) kont)
  by_cases h37 : x.toInt = 37
  · exact J_tab (t := 2526) C 37 h37 dL_law_39 (by decide) (by decide) rfl (by decide) (case_37 c hi hk hs (h 37 (by decide)) kont)
  by_cases h38 : x.toInt = 38
  · exact J_tab (t := 2582) C 38 h38 dL_law_39 (by decide) (by decide) rfl (by decide) (case_38 c hi hk hs (h 38 (by decide)) kont)
  by_cases h39 : x.toInt = 39
  · exact J_tab (t := 2638) C 39 h39 dL_law_39 (by decide) (by decide) rfl (by decide) (case_39 c hi hk hs (h 39 (by decide)) kont)
  by_cases h40 : x.toInt = 40
  · exact J_tab (t := 2694) C 40 h40 dL_law_39 (by decide) (by decide) rfl (by decide) (case_40 c hi hk hs (h 40 (by decide)) kont)
  by_cases h41 : x.toInt = 41
  · exact J_tab (t := 2762) C 41 h41 dL_law_39 (by decide) (by decide) rfl (by decide) (case_41 c hi hk hs (h 41 (by decide)) kont)
  by_cases h42 : x.toInt = 42
  · exact J_tab (t := 2818) C 42 h42 dL_law_39 (by decide) (by decide) rfl (by decide) (case_42 c hi hk hs (h 42 (by decide)) kont)
  by_cases h43 : x.toInt = 43
  · exact J_tab (t := 2831) C 43 h43 dL_law_39 (by decide) (by decide) rfl (by decide) (case_43 c hi hk hs (h 43 (by decide)) kont)
  by_cases h44 : x.toInt = 44
  · exact J_tab (t := 2872) C 44 h44 dL_law_39 (by decide) (by decide) rfl (by decide) (case_44 c hi hk hs (h 44 (by decide)) kont)
  by_cases h45 : x.toInt = 45
  · exact J_tab (t := 2885) C 45 h45 dL_law_39 (by decide) (by decide) rfl (by decide) (case_45 c hi hk hs (h 45 (by decide)) kont)
  by_cases h46 : x.toInt = 46
  · exact J_tab (t := 2898) C 46 h46 dL_law_39 (by decide) (by decide) rfl (by decide) (case_46 c hi hk hs (h 46 (by decide)) kont)
  by_cases h47 : x.toInt = 47
  · exact J_tab (t := 2941) C 47 h47 dL_law_39 (by decide) (by decide) rfl (by decide) (case_47 c hi hk hs (h 47 (by decide)) kont)
  refine J_tabO (t := 2954) C dL_law_39 (tab_o (m := 47) (fun n hn e => ?_)) (by decide) (J.widen (by omega) (by omega) (kont _ _ _ hI))
  by_cases g0 : n = 0
  · exact h0 (by rw [e, g0]; rfl)
  by_cases g1 : n = 1
  · exact h1 (by rw [e, g1]; rfl)
  by_cases g2 : n = 2
  · exact h2 (by rw [e, g2]; rfl)
  by_cases g3 : n = 3
  · exact h3 (by rw [e, g3]; rfl)
  by_cases g4 : n = 4
  · exact h4 (by rw [e, g4]; rfl)
  by_cases g5 : n = 5
  · exact h5 (by rw [e, g5]; rfl)
  by_cases g6 : n = 6
  · exact h6 (by rw [e, g6]; rfl)
  by_cases g7 : n = 7
  · exact h7 (by rw [e, g7]; rfl)
  by_cases g8 : n = 8
  · exact h8 (by rw [e, g8]; rfl)
  by_cases g9 : n = 9
  · exact h9 (by rw [e, g9]; rfl)
  by_cases g10 : n = 10
  · exact h10 (by rw [e, g10]; rfl)
  by_cases g11 : n = 11
  · exact h11 (by rw [e, g11]; rfl)
  by_cases g12 : n = 12
  · exact h12 (by rw [e, g12]; rfl)
  by_cases g13 : n = 13
  · exact h13 (by rw [e, g13]; rfl)
  by_cases g14 : n = 14
  · exact h14 (by rw [e, g14]; rfl)
  by_cases g15 : n = 15
  · exact h15 (by rw [e, g15]; rfl)
  by_cases g16 : n = 16
  · exact h16 (by rw [e, g16]; rfl)
  by_cases g17 : n = 17
  · exact h17 (by rw [e, g17]; rfl)
  by_cases g18 : n = 18
  · exact h18 (by rw [e, g18]; rfl)
  by_cases g19 : n = 19
  · exact h19 (by rw [e, g19]; rfl)
  by_cases g20 : n = 20
  · exact h20 (by rw [e, g20]; rfl)
  by_cases g21 : n = 21
  · exact h21 (by rw [e, g21]; rfl)
  by_cases g22 : n = 22
  · exact h22 (by rw [e, g22]; rfl)
  by_cases g23 : n = 23
  · exact h23 (by rw [e, g23]; rfl)
  by_cases g24 : n = 24
  · exact h24 (by rw [e, g24]; rfl)
  by_cases g25 : n = 25
  · exact h25 (by rw [e, g25]; rfl)
  by_cases g26 : n = 26
  · exact h26 (by rw [e, g26]; rfl)
  by_cases g27 : n = 27
  · exact h27 (by rw [e, g27]; rfl)
  by_cases g28 : n = 28
  · exact h28 (by rw [e, g28]; rfl)
  by_cases g29 : n = 29
  · exact h29 (by rw [e, g29]; rfl)
  by_cases g30 : n = 30
  · exact h30 (by rw [e, g30]; rfl)
  by_cases g31 : n = 31
  · exact h31 (by rw [e, g31]; rfl)
  by_cases g32 : n = 32
  · exact h32 (by rw [e, g32]; rfl)
  by_cases g33 : n = 33
  · exact h33 (by rw [e, g33]; rfl)
  by_cases g34 : n = 34
  · exact h34 (by rw [e, g34]; rfl)
  by_cases g35 : n = 35
  · exact h35 (by rw [e, g35]; rfl)
  by_cases g36 : n = 36
  · exact h36 (by rw [e, g36]; rfl)
  by_cases g37 : n = 37
  · exact h37 (by rw [e, g37]; rfl)
  by_cases g38 : n = 38
  · exact h38 (by rw [e, g38]; rfl)
  by_cases g39 : n = 39
  · exact h39 (by rw [e, g39]; rfl)
  by_cases g40 : n = 40
  · exact h40 (by rw [e, g40]; rfl)
  by_cases g41 : n = 41
  · exact h41 (by rw [e, g41]; rfl)
  by_cases g42 : n = 42
  · exact h42 (by rw [e, g42]; rfl)
  by_cases g43 : n = 43
  · exact h43 (by rw [e, g43]; rfl)
  by_cases g44 : n = 44
  · exact h44 (by rw [e, g44]; rfl)
  by_cases g45 : n = 45
  · exact h45 (by rw [e, g45]; rfl)
  by_cases g46 : n = 46
  · exact h46 (by rw [e, g46]; rfl)
  by_cases g47 : n = 47
  · exact h47 (by rw [e, g47]; rfl)
  omega
theorem i32_sub5 {L : Nat} (h : L ≤ 2560) : (Int32.ofNat L - 5).toInt = (L : Int) - 5 := by
  rw [Int32.toInt_sub, Int32.toInt_ofNat_of_lt (by omega)]
  have e : (5 : Int32).toInt = 5 := by decide
  rw [e]
  exact Int.bmod_eq_of_le (by omega) (by omega)
theorem law_loop {X : JX} {K : JK} {b L : Nat} {xs : Nat → Int32} {Q : State → Prop} {I : Sto → Sto → Int64 → Prop} (c : LC X K b L xs) {k0 s0 : Nat} (hk : k0 + 8 * 513 ≤ X.2.2.2.1.cells) (hs : s0 + 48 * 513 ≤ X.2.2.2.1.slots)
    (hstep : ∀ (i : Nat) (σ μ : Sto) (o : Int64), I σ μ o → ∀ n : Nat, n < 48 → sAll xs i σ μ o I n)
    (hend : ∀ (k sl : Nat) (σ μ : Sto) (o : Int64) (lv : List (Nat × Value)), k ≤ X.2.2.2.1.cells → sl ≤ X.2.2.2.1.slots → J X K 9 False Q k sl 2055 (jw K σ μ o) 2960 lv []) :
    ∀ (n t : Nat) (σ μ : Sto) (o : Int64), t + n = 513 → 5 * t ≤ L → I σ μ o → J X K 9 False Q (k0 + 8 * t) (s0 + 48 * t) 2055 (jw K σ μ o) 23 [(4, .int (Int32.ofNat (5 * t))), (0, .ref b), (1, .ref (K.2.2 + 0)), (2, .ref (K.2.2 + 2017)), (3, .ref (K.2.2 + 2054))] [] := by
  have C := c.1
  have hL : L ≤ 2560 := c.2.2.2.2.2.1
  intro n
  induction n with
  | zero =>
    intro t σ μ o h1 h2 _
    exact absurd h2 (by omega)
  | succ n ih =>
    intro t σ μ o h1 h2 hI
    refine J_iload (i := 4) (p := 0) C dL_law_23 rfl rfl ?_
    refine J_aload_n (i := 0) (p := 1) C dL_law_25 rfl rfl rfl ?_
    refine J_slen C c.2.2.1 c.2.2.2.1 c.2.2.2.2.1 dL_law_26 rfl ?_
    refine J_iconst (v := 5) C (by decide) dL_law_27 rfl ?_
    refine J_isub C dL_law_28 rfl ?_
    refine J_icmp_gt (t := 2960) C dL_law_29 (by decide) rfl (fun _ => ?_) (fun e => ?_)
    · exact hend _ _ _ _ _ _ (by omega) (by omega)
    · have hi : 5 * t + 5 ≤ L := by
        rw [Int32.lt_iff_toInt_lt, i32_sub5 hL, Int32.toInt_ofNat_of_lt (by omega)] at e
        omega
      have ix := ix_in (i := 5 * t) (j := 0) (L := L) (by omega) hL (by decide)
      have e0 : Int32.ofNat (5 * t) + Int32.ofNat 0 = Int32.ofNat (5 * t) := by
        rw [← Int32.ofNat_add, Nat.add_zero]
      rw [e0] at ix
      refine J_aload_n (i := 0) (p := 1) C dL_law_32 rfl rfl rfl ?_
      refine J_iload (i := 4) (p := 0) C dL_law_33 rfl rfl ?_
      refine J_sld C c.2.2.1 c.2.2.2.1 c.2.2.2.2.1 ix.1 dL_law_35 rfl ?_
      refine J_bipush (v := 63) C (by decide) dL_law_36 rfl ?_
      refine J_iand C dL_law_38 rfl ?_
      refine law_tab c hi (by omega) (by omega) hI (hstep _ _ _ _ hI) (fun σ9 μ9 o9 h9 => ?_)
      have e5 : Int32.ofNat (5 * t) + Int32.ofInt 5 = Int32.ofNat (5 * (t + 1)) := by
        rw [show Int32.ofInt 5 = Int32.ofNat 5 from by decide, ← Int32.ofNat_add, Nat.mul_succ]
      refine J_iinc (i := 4) (p := 0) C dL_law_2954 rfl e5 (by decide) rfl rfl ?_
      refine J_goto (t := 23) C dL_law_2957 (by decide) ?_
      exact ih (t + 1) σ9 μ9 o9 (by omega) (by omega) h9
