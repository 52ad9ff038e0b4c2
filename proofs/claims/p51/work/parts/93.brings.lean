/-! a state brought back by the reference -/
section R
variable {σ μ : Sto} {L B H : Nat} {f : Nat → Int32} {n c : Nat} {hd : Nat → Int32} {cu : Nat → Nat} {ma lf ml : Nat → Int32}
theorem c12_bring22 {q : Nat} (hq : q ≤ 300) (h5 : fI μ 2017 5 = Int32.ofNat n) (hn : n ≤ 3000) : ∃ r, loopF (fun s_22 => f12_brings_b22 (Int32.ofNat q) s_22.1 s_22.2) FU (μ, 0) = some (rA μ 2018 r) ∧ ∀ j, j < n → r j = aI μ 2036 (3000 * q + j) := by
  have key : Ok (loopF (fun s_22 => f12_brings_b22 (Int32.ofNat q) s_22.1 s_22.2) FU (μ, 0)) (fun t => ∃ r, t = rA μ 2018 r ∧ ∀ j, j < n → r j = aI μ 2036 (3000 * q + j)) := by
    refine Ok_count n (fun i t => ∃ r, t = (rA μ 2018 r, Int32.ofNat i) ∧ ∀ j, j < i → r j = aI μ 2036 (3000 * q + j)) ?_ 0 ⟨aI μ 2018, by rw [rA_self]; rfl, fun j hj => by omega⟩ (by omega) (by (show _ < FU; unfold FU; omega))
    rintro i t hi ⟨r, rfl, r1⟩
    have e1 : (3000 : Int32) * Int32.ofNat q + Int32.ofNat i = Int32.ofNat (3000 * q + i) := by grind
    have e2 : aI (rA μ 2018 r) 2036 = aI μ 2036 := rfl
    unfold f12_brings_b22
    simp only [fI_rA, h5, i32_le (show n < 2147483648 by omega) (show i < 2147483648 by omega), e1, e2, ofNat_clamp (show i < 2147483648 by omega), ofNat_clamp (show 3000 * q + i < 2147483648 by omega), rA_uA, stp, i32_succ]
    by_cases hq2 : n ≤ i
    · rw [if_pos hq2, Ok_some, lp_inr]
      exact ⟨r, rfl, fun j hj => r1 j (by omega)⟩
    · rw [if_neg hq2]
      simp only [inb_n (show i < 3000 by omega) (by omega), inb_n (show 3000 * q + i < 903000 by omega) (by omega), gd_true]
      rw [Ok_some, lp_inl]
      refine ⟨by omega, _, rfl, fun j hj => ?_⟩
      unfold up1
      by_cases e : j = i
      · rw [if_pos e, e]
      · rw [if_neg e]
        exact r1 j (by omega)
  obtain ⟨t, k1, r, rfl, k2⟩ := key
  exact ⟨r, k1, k2⟩
theorem c12_bring56 {q : Nat} (hq : q ≤ 300) : ∃ r, loopF (fun s_56 => f12_brings_b56 (Int32.ofNat q) s_56.1 s_56.2) FU (μ, 0) = some (rA μ 2019 r) ∧ ∀ j, j < 8 → r j = aI μ 2038 (8 * q + j) := by
  have key : Ok (loopF (fun s_56 => f12_brings_b56 (Int32.ofNat q) s_56.1 s_56.2) FU (μ, 0)) (fun t => ∃ r, t = rA μ 2019 r ∧ ∀ j, j < 8 → r j = aI μ 2038 (8 * q + j)) := by
    refine Ok_count 8 (fun i t => ∃ r, t = (rA μ 2019 r, Int32.ofNat i) ∧ ∀ j, j < i → r j = aI μ 2038 (8 * q + j)) ?_ 0 ⟨aI μ 2019, by rw [rA_self]; rfl, fun j hj => by omega⟩ (by omega) (by (show _ < FU; unfold FU; omega))
    rintro i t hi ⟨r, rfl, r1⟩
    have e0 : (8 : Int32) ≤ Int32.ofNat i ↔ 8 ≤ i := i32_le (a := 8) (by omega) (by omega)
    have e1 : (8 : Int32) * Int32.ofNat q + Int32.ofNat i = Int32.ofNat (8 * q + i) := by grind
    have e2 : aI (rA μ 2019 r) 2038 = aI μ 2038 := rfl
    unfold f12_brings_b56
    simp only [e0, e1, e2, ofNat_clamp (show i < 2147483648 by omega), ofNat_clamp (show 8 * q + i < 2147483648 by omega), rA_uA, stp, i32_succ]
    by_cases hq2 : 8 ≤ i
    · rw [if_pos hq2, Ok_some, lp_inr]
      exact ⟨r, rfl, fun j hj => r1 j (by omega)⟩
    · rw [if_neg hq2]
      simp only [inb_n (show i < 8 by omega) (by omega), inb_n (show 8 * q + i < 2408 by omega) (by omega), gd_true]
      rw [Ok_some, lp_inl]
      refine ⟨by omega, _, rfl, fun j hj => ?_⟩
      unfold up1
      by_cases e : j = i
      · rw [if_pos e, e]
      · rw [if_neg e]
        exact r1 j (by omega)
  obtain ⟨t, k1, r, rfl, k2⟩ := key
  exact ⟨r, k1, k2⟩
theorem c12_bring87 {q : Nat} (hq : q ≤ 300) (hz : ∀ i, i < 16 → aI μ 2041 (16 * q + i) = 0 ∨ aI μ 2041 (16 * q + i) = 1) : ∃ r r', loopF (fun s_87 => f12_brings_b87 (Int32.ofNat q) s_87.1 s_87.2) FU (μ, 0) = some (rA (rA μ 2020 r) 2021 r') ∧ ∀ j, j < 16 → r j = aI μ 2040 (16 * q + j) ∧ r' j = aI μ 2041 (16 * q + j) := by
  have key : Ok (loopF (fun s_87 => f12_brings_b87 (Int32.ofNat q) s_87.1 s_87.2) FU (μ, 0)) (fun t => ∃ r r', t = rA (rA μ 2020 r) 2021 r' ∧ ∀ j, j < 16 → r j = aI μ 2040 (16 * q + j) ∧ r' j = aI μ 2041 (16 * q + j)) := by
    refine Ok_count 16 (fun i t => ∃ r r', t = (rA (rA μ 2020 r) 2021 r', Int32.ofNat i) ∧ ∀ j, j < i → r j = aI μ 2040 (16 * q + j) ∧ r' j = aI μ 2041 (16 * q + j)) ?_ 0 ⟨aI μ 2020, aI μ 2021, by rw [rA_self]; show _ = (rA μ 2021 (aI μ 2021), _); rw [rA_self]; rfl, fun j hj => by omega⟩ (by omega) (by (show _ < FU; unfold FU; omega))
    rintro i t hi ⟨r, r', rfl, r1⟩
    have e0 : (16 : Int32) ≤ Int32.ofNat i ↔ 16 ≤ i := i32_le (a := 16) (by omega) (by omega)
    have e1 : (16 : Int32) * Int32.ofNat q + Int32.ofNat i = Int32.ofNat (16 * q + i) := by grind
    have e2 : aI (rA (rA μ 2020 r) 2021 r') 2040 = aI μ 2040 := rfl
    have e3 : ∀ v : Int32, uA (rA (rA μ 2020 r) 2021 r') 2020 i v = rA (rA μ 2020 (up1 r i v)) 2021 r' := fun v => by
      rw [rA_sw (show (2020 : Nat) ≠ 2021 by decide), rA_uA, rA_sw (show (2021 : Nat) ≠ 2020 by decide)]
    have e4 : ∀ r : Nat → Int32, aI (rA (rA μ 2020 r) 2021 r') 2041 = aI μ 2041 := fun _ => rfl
    unfold f12_brings_b87
    simp only [e0, e1, e2, ofNat_clamp (show i < 2147483648 by omega), ofNat_clamp (show 16 * q + i < 2147483648 by omega), stp, i32_succ, e3, e4]
    by_cases hq2 : 16 ≤ i
    · rw [if_pos hq2, Ok_some, lp_inr]
      exact ⟨r, r', rfl, fun j hj => r1 j (by omega)⟩
    · rw [if_neg hq2]
      simp only [inb_n (show i < 16 by omega) (by omega), inb_n (show 16 * q + i < 4816 by omega) (by omega), gd_true, nar_b (hz i (by omega)), rA_uA]
      rw [Ok_some, lp_inl]
      refine ⟨by omega, _, _, rfl, fun j hj => ?_⟩
      unfold up1
      by_cases e : j = i
      · rw [if_pos e, if_pos e, e]
        exact ⟨rfl, rfl⟩
      · rw [if_neg e, if_neg e]
        exact r1 j (by omega)
  obtain ⟨t, k1, r, r', rfl, k2⟩ := key
  exact ⟨r, r', k1, k2⟩
theorem c12_bring135 {q : Nat} (hq : q ≤ 300) (hz : ∀ i, i < 300 → aI μ 2042 (300 * q + i) = 0 ∨ aI μ 2042 (300 * q + i) = 1) : ∃ r, loopF (fun s_135 => f12_brings_b135 (Int32.ofNat q) s_135.1 s_135.2) FU (μ, 0) = some (rA μ 2022 r) ∧ (∀ j, j < 300 → r j = aI μ 2042 (300 * q + j)) ∧ r 300 = aI μ 2022 300 := by
  have key : Ok (loopF (fun s_135 => f12_brings_b135 (Int32.ofNat q) s_135.1 s_135.2) FU (μ, 0)) (fun t => ∃ r, t = rA μ 2022 r ∧ (∀ j, j < 300 → r j = aI μ 2042 (300 * q + j)) ∧ r 300 = aI μ 2022 300) := by
    refine Ok_count 300 (fun i t => ∃ r, t = (rA μ 2022 r, Int32.ofNat i) ∧ (∀ j, j < i → r j = aI μ 2042 (300 * q + j)) ∧ r 300 = aI μ 2022 300) ?_ 0 ⟨aI μ 2022, by rw [rA_self]; rfl, fun j hj => by omega, rfl⟩ (by omega) (by (show _ < FU; unfold FU; omega))
    rintro i t hi ⟨r, rfl, r1, r2⟩
    have e0 : (300 : Int32) ≤ Int32.ofNat i ↔ 300 ≤ i := i32_le (a := 300) (by omega) (by omega)
    have e1 : (300 : Int32) * Int32.ofNat q + Int32.ofNat i = Int32.ofNat (300 * q + i) := by grind
    have e2 : aI (rA μ 2022 r) 2042 = aI μ 2042 := rfl
    unfold f12_brings_b135
    simp only [e0, e1, e2, ofNat_clamp (show i < 2147483648 by omega), ofNat_clamp (show 300 * q + i < 2147483648 by omega), rA_uA, stp, i32_succ]
    by_cases hq2 : 300 ≤ i
    · rw [if_pos hq2, Ok_some, lp_inr]
      exact ⟨r, rfl, fun j hj => r1 j (by omega), r2⟩
    · rw [if_neg hq2]
      simp only [inb_n (show i < 301 by omega) (by omega), inb_n (show 300 * q + i < 90601 by omega) (by omega), gd_true, nar_b (hz i (by omega))]
      rw [Ok_some, lp_inl]
      refine ⟨by omega, _, rfl, fun j hj => ?_, ?_⟩
      · unfold up1
        by_cases e : j = i
        · rw [if_pos e, e]
        · rw [if_neg e]
          exact r1 j (by omega)
      · unfold up1
        rw [if_neg (by omega)]
        exact r2
  obtain ⟨t, k1, r, rfl, k2⟩ := key
  exact ⟨r, k1, k2⟩
theorem c12_brings {q : Nat} (st : ST μ q (f, n, hd, c, cu, ma, lf, ml)) (g : GD (f, n, hd, c, cu, ma, lf, ml)) (hq : q ≤ 300) (h300 : aI μ 2022 300 = 0) : ∃ μ', f12_brings μ (Int32.ofNat q) = some μ' ∧ SM μ' (f, n, hd, c, cu, ma, lf, ml) ∧ (∀ k, k ≠ 5 → k ≠ 6 → fI μ' 2017 k = fI μ 2017 k) ∧ (∀ a, a < 2018 ∨ 2022 < a → aI μ' a = aI μ a) ∧ fR μ' = fR μ := by
  obtain ⟨s1, s2, s3, s4, s5, s6⟩ := st
  obtain ⟨g1, g2, g3, g4, g5, g6, g7, g8, g9, g10, g11⟩ := g
  generalize h0 : uI (uI μ 2017 5 (Int32.ofNat n)) 2017 6 (Int32.ofNat c) = M0
  have M0A : aI M0 = aI μ := by rw [← h0]; rfl
  have M0R : fR M0 = fR μ := by rw [← h0]; rfl
  have M05 : fI M0 2017 5 = Int32.ofNat n := by rw [← h0, fI_uI, if_pos rfl, if_neg (by decide)]; rfl
  have M06 : fI M0 2017 6 = Int32.ofNat c := by rw [← h0]; rfl
  have M0I : ∀ k, k ≠ 5 → k ≠ 6 → fI M0 2017 k = fI μ 2017 k := fun k k1 k2 => by
    rw [← h0, fI_uI, if_pos rfl, if_neg k2, fI_uI, if_pos rfl, if_neg k1]
  obtain ⟨r1, k1, k2⟩ := c12_bring22 (μ := M0) hq M05 g1
  obtain ⟨r2, k3, k4⟩ := c12_bring56 (μ := rA M0 2018 r1) hq
  obtain ⟨r3, r3', k5, k6⟩ := c12_bring87 (μ := rA (rA M0 2018 r1) 2019 r2) hq (fun i hi => by
    rw [aI_rA' (by omega), aI_rA' (by omega), M0A, (s5 i hi).2]
    exact (g11 i hi).2.1)
  obtain ⟨r4, k7, k8, k9⟩ := c12_bring135 (μ := rA (rA (rA (rA M0 2018 r1) 2019 r2) 2020 r3) 2021 r3') hq (fun i hi => by
    rw [aI_rA' (by omega), aI_rA' (by omega), aI_rA' (by omega), aI_rA' (by omega), M0A, s6 i hi]
    split
    · exact g5 i ‹_›
    · exact Or.inl rfl)
  refine ⟨rA (rA (rA (rA (rA M0 2018 r1) 2019 r2) 2020 r3) 2021 r3') 2022 r4, ?_, ⟨⟨g1, M05, fun k hk => ?_⟩, fun j hj => ?_, ⟨M06, fun k hk => ?_⟩, fun k hk => ?_, fun k hk => ?_⟩, M0I, fun a ha => ?_, M0R⟩
  · unfold f12_brings
    have f2 : aI (uI μ 2017 5 (Int32.ofNat n)) 2039 = aI μ 2039 := rfl
    simp only [inb_n (show q < 301 by omega) (by omega), gd_true, ofNat_clamp (show q < 2147483648 by omega), s1, stp, f2, s2, h0]
    rw [f12_brings_j22, k1, bnd_some, stp, f12_brings_j56, k3, bnd_some, stp, f12_brings_j87, k5, bnd_some, stp, f12_brings_j135, k7, bnd_some]
  · show r1 k = f k
    rw [k2 k hk, M0A, s3 k hk]
  · show r4 j = _
    by_cases e : j = 300
    · rw [e, k9, if_neg (by omega)]
      show aI M0 2022 300 = 0
      rw [M0A]
      exact h300
    · rw [k8 j (by omega)]
      show aI M0 2042 _ = _
      rw [M0A, s6 j (by omega)]
  · show r2 k = _
    rw [k4 k (by omega)]
    show aI M0 2038 _ = _
    rw [M0A, s4 k hk]
  · show r3 k = _
    rw [(k6 k hk).1]
    show aI M0 2040 _ = _
    rw [M0A, (s5 k hk).1]
  · show r3' k = _
    rw [(k6 k hk).2]
    show aI M0 2041 _ = _
    rw [M0A, (s5 k hk).2]
  · rw [aI_rA' (by omega), aI_rA' (by omega), aI_rA' (by omega), aI_rA' (by omega), aI_rA' (by omega), M0A]
/-! a moment copied by the class -/
theorem c5_become {a0 a1 : Nat} (h : MO σ a1 (f, n, hd, c, cu, ma, lf, ml)) (g : GD (f, n, hd, c, cu, ma, lf, ml)) (hd1 : a0 + 5 < a1 ∨ a1 + 5 < a0) : ∃ σ', f5_become σ a0 a1 = some σ' ∧ MO σ' a0 (f, n, hd, c, cu, ma, lf, ml) ∧ Sm (fun b => b < a0 ∨ a0 + 5 < b) σ σ' ∧ fR σ' = fR σ := by
  obtain ⟨s1, s2, s3, ⟨s4, s5⟩, s6, s7⟩ := h
  obtain ⟨g1, g2, g3, g4, g5, g6, g7, g8, g9, g10, g11⟩ := g
  have p1 : cpok (0 : Int32) (0 : Int32) (Int32.ofNat 375) 375 375 = true := by decide
  have p2 : cpok (0 : Int32) (0 : Int32) (Int32.ofNat 5) 5 5 = true := by decide
  have p3 : cpok (0 : Int32) (0 : Int32) (8 : Int32) 8 8 = true := by decide
  have p4 : cpok (0 : Int32) (0 : Int32) (16 : Int32) 16 16 = true := by decide
  have z0 : (0 : Int32).toNatClampNeg = 0 := by decide
  have z1 : (Int32.ofNat 375).toNatClampNeg = 375 := by decide
  have z2 : (Int32.ofNat 5).toNatClampNeg = 5 := by decide
  have z3 : (8 : Int32).toNatClampNeg = 8 := by decide
  have z4 : (16 : Int32).toNatClampNeg = 16 := by decide
  unfold f5_become
  simp only [p1, p2, p3, p4, z0, z1, z2, z3, z4, gd_true, stp]
  generalize hA : rL σ (a0 + 1) (va_cpy (aL σ (a1 + 1)) (aL σ (a0 + 1)) 0 0 375) = A
  have A1 : aL A (a0 + 1) = va_cpy (aL σ (a1 + 1)) (aL σ (a0 + 1)) 0 0 375 := by rw [← hA, aL_rL, if_pos rfl]
  have A2 : ∀ b, b ≠ a0 + 1 → aL A b = aL σ b := fun b hb => by rw [← hA, aL_rL, if_neg hb]
  have A3 : aI A = aI σ ∧ fI A = fI σ ∧ fR A = fR σ := by rw [← hA]; exact ⟨rfl, rfl, rfl⟩
  generalize hB : rL A (a0 + 2) (va_cpy (aL A (a1 + 2)) (aL A (a0 + 2)) 0 0 5) = B
  have B1 : aL B (a0 + 2) = va_cpy (aL A (a1 + 2)) (aL A (a0 + 2)) 0 0 5 := by rw [← hB, aL_rL, if_pos rfl]
  have B2 : ∀ b, b ≠ a0 + 2 → aL B b = aL A b := fun b hb => by rw [← hB, aL_rL, if_neg hb]
  have B3 : aI B = aI A ∧ fI B = fI A ∧ fR B = fR A := by rw [← hB]; exact ⟨rfl, rfl, rfl⟩
  generalize hC : rA B (a0 + 3) (va_cpy (aI B (a1 + 3)) (aI B (a0 + 3)) 0 0 8) = C
  have C1 : aI C (a0 + 3) = va_cpy (aI B (a1 + 3)) (aI B (a0 + 3)) 0 0 8 := by rw [← hC, aI_rA, if_pos rfl]
  have C2 : ∀ b, b ≠ a0 + 3 → aI C b = aI B b := fun b hb => by rw [← hC, aI_rA' hb]
  have C3 : aL C = aL B ∧ fI C = fI B ∧ fR C = fR B := by rw [← hC]; exact ⟨rfl, rfl, rfl⟩
  generalize hD : rA C (a0 + 4) (va_cpy (aI C (a1 + 4)) (aI C (a0 + 4)) 0 0 16) = D
  have D1 : aI D (a0 + 4) = va_cpy (aI C (a1 + 4)) (aI C (a0 + 4)) 0 0 16 := by rw [← hD, aI_rA, if_pos rfl]
  have D2 : ∀ b, b ≠ a0 + 4 → aI D b = aI C b := fun b hb => by rw [← hD, aI_rA' hb]
  have D3 : aL D = aL C ∧ fI D = fI C ∧ fR D = fR C := by rw [← hD]; exact ⟨rfl, rfl, rfl⟩
  have hfit : fitZ (aI D (a1 + 5)) 0 16 = true := by
    unfold fitZ
    rw [decide_eq_true_eq]
    intro i hi
    rw [Nat.zero_add, D2 _ (by omega), C2 _ (by omega), B3.1, A3.1, s7 i hi]
    exact (g11 i hi).1
  rw [hfit, gd_true]
  generalize hE : rA D (a0 + 5) (va_cpy (aI D (a1 + 5)) (aI D (a0 + 5)) 0 0 16) = E
  have E1 : aI E (a0 + 5) = va_cpy (aI D (a1 + 5)) (aI D (a0 + 5)) 0 0 16 := by rw [← hE, aI_rA, if_pos rfl]
  have E2 : ∀ b, b ≠ a0 + 5 → aI E b = aI D b := fun b hb => by rw [← hE, aI_rA' hb]
  have E3 : aL E = aL D ∧ fI E = fI D ∧ fR E = fR D := by rw [← hE]; exact ⟨rfl, rfl, rfl⟩
  have fE : fI E = fI σ := by rw [E3.2.1, D3.2.1, C3.2.1, B3.2.1, A3.2.1]
  have fR' : fR E = fR σ := by rw [E3.2.2, D3.2.2, C3.2.2, B3.2.2, A3.2.2]
  refine ⟨_, rfl, ⟨?_, fun k hk => ?_, fun j hj => ?_, ⟨?_, fun k hk => ?_⟩, fun k hk => ?_, fun k hk => ?_⟩, fun b hb => ⟨?_, ?_, ?_, ?_⟩, fR'⟩
  · rw [fI_uI, if_pos rfl, if_neg (by decide), fI_uI, if_pos rfl, if_pos rfl, fE]
    exact s1
  · show bl (aL E (a0 + 1) (k / 8)) (k % 8) = f k
    rw [E3.1, D3.1, C3.1, B2 _ (by omega), A1]
    have : va_cpy (aL σ (a1 + 1)) (aL σ (a0 + 1)) 0 0 375 (k / 8) = aL σ (a1 + 1) (0 + k / 8) := by
      unfold va_cpy
      rw [if_pos (by omega), Nat.sub_zero]
    rw [this, Nat.zero_add]
    exact s2 k hk
  · show hb (aL E (a0 + 2) (j / 64)) (j % 64) = hd j
    rw [E3.1, D3.1, C3.1, B1]
    have : va_cpy (aL A (a1 + 2)) (aL A (a0 + 2)) 0 0 5 (j / 64) = aL A (a1 + 2) (0 + j / 64) := by
      unfold va_cpy
      rw [if_pos (by omega), Nat.sub_zero]
    rw [this, Nat.zero_add, A2 _ (by omega)]
    exact s3 j hj
  · rw [fI_uI, if_pos rfl, if_pos rfl, fI_uI' (by omega), fE]
    exact s4
  · show aI E (a0 + 3) k = _
    rw [E2 _ (by omega), D2 _ (by omega), C1, cpy_at (by omega), Nat.zero_add, B3.1, A3.1]
    exact s5 k hk
  · show aI E (a0 + 4) k = _
    rw [E2 _ (by omega), D1, cpy_at (by omega), Nat.zero_add, C2 _ (by omega), B3.1, A3.1]
    exact s6 k hk
  · show aI E (a0 + 5) k = _
    rw [E1, cpy_at (by omega), Nat.zero_add, D2 _ (by omega), C2 _ (by omega), B3.1, A3.1]
    exact s7 k hk
  · rw [fI_uI' (by omega), fI_uI' (by omega), fE]
  · show fR E b = _
    rw [fR']
  · show aI E b = _
    rw [E2 _ (by omega), D2 _ (by omega), C2 _ (by omega), B3.1, A3.1]
  · show aL E b = _
    rw [E3.1, D3.1, C3.1, B2 _ (by omega), A2 _ (by omega)]
end R
