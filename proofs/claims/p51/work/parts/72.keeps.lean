/-! a state kept by the reference -/
theorem rA_sw {μ : Sto} {p q : Nat} {r r' : Nat → Int32} (h : p ≠ q) : rA (rA μ p r) q r' = rA (rA μ q r') p r := by
  unfold rA
  congr 2
  congr 1
  funext a
  by_cases h1 : a = p
  · by_cases h2 : a = q
    · exact absurd (h1.symm.trans h2) h
    · simp [upr, h1, h]
  · by_cases h2 : a = q
    · simp [upr, h2, Ne.symm h]
    · simp [upr, h1, h2]
section R
variable {σ μ : Sto} {L B H : Nat} {f : Nat → Int32} {n c : Nat} {hd : Nat → Int32} {cu : Nat → Nat} {ma lf ml : Nat → Int32}
theorem c12_keep22 {q : Nat} (hq : q ≤ 300) (h5 : fI μ 2017 5 = Int32.ofNat n) (hn : n ≤ 3000) : ∃ r, loopF (fun s_22 => f12_keeps_b22 (Int32.ofNat q) s_22.1 s_22.2) FU (μ, 0) = some (rA μ 2036 r) ∧ ∀ j, r j = if 3000 * q ≤ j ∧ j < 3000 * q + n then aI μ 2018 (j - 3000 * q) else aI μ 2036 j := by
  have key : Ok (loopF (fun s_22 => f12_keeps_b22 (Int32.ofNat q) s_22.1 s_22.2) FU (μ, 0)) (fun t => ∃ r, t = rA μ 2036 r ∧ ∀ j, r j = if 3000 * q ≤ j ∧ j < 3000 * q + n then aI μ 2018 (j - 3000 * q) else aI μ 2036 j) := by
    refine Ok_count n (fun i t => ∃ r, t = (rA μ 2036 r, Int32.ofNat i) ∧ ∀ j, r j = if 3000 * q ≤ j ∧ j < 3000 * q + i then aI μ 2018 (j - 3000 * q) else aI μ 2036 j) ?_ 0 ⟨aI μ 2036, by rw [rA_self]; rfl, fun j => by rw [if_neg (by omega)]⟩ (by omega) (by (show _ < FU; unfold FU; omega))
    rintro i t hi ⟨r, rfl, r1⟩
    have e1 : (3000 : Int32) * Int32.ofNat q + Int32.ofNat i = Int32.ofNat (3000 * q + i) := by grind
    have e2 : aI (rA μ 2036 r) 2018 = aI μ 2018 := rfl
    unfold f12_keeps_b22
    simp only [fI_rA, h5, i32_le (show n < 2147483648 by omega) (show i < 2147483648 by omega), e1, e2, ofNat_clamp (show i < 2147483648 by omega), ofNat_clamp (show 3000 * q + i < 2147483648 by omega), rA_uA, stp, i32_succ]
    by_cases hq2 : n ≤ i
    · rw [if_pos hq2, Ok_some, lp_inr]
      refine ⟨r, rfl, fun j => ?_⟩
      rw [r1 j, show i = n by omega]
    · rw [if_neg hq2]
      simp only [inb_n (show i < 3000 by omega) (by omega), inb_n (show 3000 * q + i < 903000 by omega) (by omega), gd_true]
      rw [Ok_some, lp_inl]
      refine ⟨by omega, _, rfl, fun j => ?_⟩
      unfold up1
      by_cases e : j = 3000 * q + i
      · rw [if_pos e, if_pos (by omega), e, Nat.add_sub_cancel_left]
      · rw [if_neg e, r1 j]
        by_cases e2 : 3000 * q ≤ j ∧ j < 3000 * q + i
        · rw [if_pos e2, if_pos (by omega)]
        · rw [if_neg e2, if_neg (by omega)]
  obtain ⟨t, k1, r, rfl, k2⟩ := key
  exact ⟨r, k1, k2⟩
theorem c12_keep56 {q : Nat} (hq : q ≤ 300) : ∃ r, loopF (fun s_56 => f12_keeps_b56 (Int32.ofNat q) s_56.1 s_56.2) FU (μ, 0) = some (rA μ 2038 r) ∧ ∀ j, r j = if 8 * q ≤ j ∧ j < 8 * q + 8 then aI μ 2019 (j - 8 * q) else aI μ 2038 j := by
  have key : Ok (loopF (fun s_56 => f12_keeps_b56 (Int32.ofNat q) s_56.1 s_56.2) FU (μ, 0)) (fun t => ∃ r, t = rA μ 2038 r ∧ ∀ j, r j = if 8 * q ≤ j ∧ j < 8 * q + 8 then aI μ 2019 (j - 8 * q) else aI μ 2038 j) := by
    refine Ok_count 8 (fun i t => ∃ r, t = (rA μ 2038 r, Int32.ofNat i) ∧ ∀ j, r j = if 8 * q ≤ j ∧ j < 8 * q + i then aI μ 2019 (j - 8 * q) else aI μ 2038 j) ?_ 0 ⟨aI μ 2038, by rw [rA_self]; rfl, fun j => by rw [if_neg (by omega)]⟩ (by omega) (by (show _ < FU; unfold FU; omega))
    rintro i t hi ⟨r, rfl, r1⟩
    have e0 : (8 : Int32) ≤ Int32.ofNat i ↔ 8 ≤ i := i32_le (a := 8) (by omega) (by omega)
    have e1 : (8 : Int32) * Int32.ofNat q + Int32.ofNat i = Int32.ofNat (8 * q + i) := by grind
    have e2 : aI (rA μ 2038 r) 2019 = aI μ 2019 := rfl
    unfold f12_keeps_b56
    simp only [e0, e1, e2, ofNat_clamp (show i < 2147483648 by omega), ofNat_clamp (show 8 * q + i < 2147483648 by omega), rA_uA, stp, i32_succ]
    by_cases hq2 : 8 ≤ i
    · rw [if_pos hq2, Ok_some, lp_inr]
      refine ⟨r, rfl, fun j => ?_⟩
      rw [r1 j, show i = 8 by omega]
    · rw [if_neg hq2]
      simp only [inb_n (show i < 8 by omega) (by omega), inb_n (show 8 * q + i < 2408 by omega) (by omega), gd_true]
      rw [Ok_some, lp_inl]
      refine ⟨by omega, _, rfl, fun j => ?_⟩
      unfold up1
      by_cases e : j = 8 * q + i
      · rw [if_pos e, if_pos (by omega), e, Nat.add_sub_cancel_left]
      · rw [if_neg e, r1 j]
        by_cases e2 : 8 * q ≤ j ∧ j < 8 * q + i
        · rw [if_pos e2, if_pos (by omega)]
        · rw [if_neg e2, if_neg (by omega)]
  obtain ⟨t, k1, r, rfl, k2⟩ := key
  exact ⟨r, k1, k2⟩
theorem c12_keep87 {q : Nat} (hq : q ≤ 300) (hz : ∀ i, i < 16 → aI μ 2021 i = 0 ∨ aI μ 2021 i = 1) : ∃ r r', loopF (fun s_87 => f12_keeps_b87 (Int32.ofNat q) s_87.1 s_87.2) FU (μ, 0) = some (rA (rA μ 2040 r) 2041 r') ∧ (∀ j, r j = if 16 * q ≤ j ∧ j < 16 * q + 16 then aI μ 2020 (j - 16 * q) else aI μ 2040 j) ∧ ∀ j, r' j = if 16 * q ≤ j ∧ j < 16 * q + 16 then aI μ 2021 (j - 16 * q) else aI μ 2041 j := by
  have key : Ok (loopF (fun s_87 => f12_keeps_b87 (Int32.ofNat q) s_87.1 s_87.2) FU (μ, 0)) (fun t => ∃ r r', t = rA (rA μ 2040 r) 2041 r' ∧ (∀ j, r j = if 16 * q ≤ j ∧ j < 16 * q + 16 then aI μ 2020 (j - 16 * q) else aI μ 2040 j) ∧ ∀ j, r' j = if 16 * q ≤ j ∧ j < 16 * q + 16 then aI μ 2021 (j - 16 * q) else aI μ 2041 j) := by
    refine Ok_count 16 (fun i t => ∃ r r', t = (rA (rA μ 2040 r) 2041 r', Int32.ofNat i) ∧ (∀ j, r j = if 16 * q ≤ j ∧ j < 16 * q + i then aI μ 2020 (j - 16 * q) else aI μ 2040 j) ∧ ∀ j, r' j = if 16 * q ≤ j ∧ j < 16 * q + i then aI μ 2021 (j - 16 * q) else aI μ 2041 j) ?_ 0 ⟨aI μ 2040, aI μ 2041, by rw [rA_self]; show _ = (rA μ 2041 (aI μ 2041), _); rw [rA_self]; rfl, fun j => by rw [if_neg (by omega)], fun j => by rw [if_neg (by omega)]⟩ (by omega) (by (show _ < FU; unfold FU; omega))
    rintro i t hi ⟨r, r', rfl, r1, r2⟩
    have e0 : (16 : Int32) ≤ Int32.ofNat i ↔ 16 ≤ i := i32_le (a := 16) (by omega) (by omega)
    have e1 : (16 : Int32) * Int32.ofNat q + Int32.ofNat i = Int32.ofNat (16 * q + i) := by grind
    have e2 : aI (rA (rA μ 2040 r) 2041 r') 2020 = aI μ 2020 := rfl
    have e3 : ∀ v : Int32, uA (rA (rA μ 2040 r) 2041 r') 2040 (16 * q + i) v = rA (rA μ 2040 (up1 r (16 * q + i) v)) 2041 r' := fun v => by
      rw [rA_sw (show (2040 : Nat) ≠ 2041 by decide), rA_uA, rA_sw (show (2041 : Nat) ≠ 2040 by decide)]
    have e4 : ∀ r : Nat → Int32, aI (rA (rA μ 2040 r) 2041 r') 2021 = aI μ 2021 := fun _ => rfl
    unfold f12_keeps_b87
    simp only [e0, e1, e2, ofNat_clamp (show i < 2147483648 by omega), ofNat_clamp (show 16 * q + i < 2147483648 by omega), stp, i32_succ, e3, e4]
    by_cases hq2 : 16 ≤ i
    · rw [if_pos hq2, Ok_some, lp_inr]
      refine ⟨r, r', rfl, fun j => ?_, fun j => ?_⟩
      · rw [r1 j, show i = 16 by omega]
      · rw [r2 j, show i = 16 by omega]
    · rw [if_neg hq2]
      simp only [inb_n (show i < 16 by omega) (by omega), inb_n (show 16 * q + i < 4816 by omega) (by omega), gd_true, nar_b (hz i (by omega)), rA_uA]
      rw [Ok_some, lp_inl]
      refine ⟨by omega, _, _, rfl, fun j => ?_, fun j => ?_⟩
      · unfold up1
        by_cases e : j = 16 * q + i
        · rw [if_pos e, if_pos (by omega), e, Nat.add_sub_cancel_left]
        · rw [if_neg e, r1 j]
          by_cases e2 : 16 * q ≤ j ∧ j < 16 * q + i
          · rw [if_pos e2, if_pos (by omega)]
          · rw [if_neg e2, if_neg (by omega)]
      · unfold up1
        by_cases e : j = 16 * q + i
        · rw [if_pos e, if_pos (by omega), e, Nat.add_sub_cancel_left]
        · rw [if_neg e, r2 j]
          by_cases e2 : 16 * q ≤ j ∧ j < 16 * q + i
          · rw [if_pos e2, if_pos (by omega)]
          · rw [if_neg e2, if_neg (by omega)]
  obtain ⟨t, k1, r, r', rfl, k2⟩ := key
  exact ⟨r, r', k1, k2⟩
theorem c12_keep135 {q : Nat} (hq : q ≤ 300) (hz : ∀ i, i < 300 → aI μ 2022 i = 0 ∨ aI μ 2022 i = 1) : ∃ r, loopF (fun s_135 => f12_keeps_b135 (Int32.ofNat q) s_135.1 s_135.2) FU (μ, 0) = some (rA μ 2042 r) ∧ ∀ j, r j = if 300 * q ≤ j ∧ j < 300 * q + 300 then aI μ 2022 (j - 300 * q) else aI μ 2042 j := by
  have key : Ok (loopF (fun s_135 => f12_keeps_b135 (Int32.ofNat q) s_135.1 s_135.2) FU (μ, 0)) (fun t => ∃ r, t = rA μ 2042 r ∧ ∀ j, r j = if 300 * q ≤ j ∧ j < 300 * q + 300 then aI μ 2022 (j - 300 * q) else aI μ 2042 j) := by
    refine Ok_count 300 (fun i t => ∃ r, t = (rA μ 2042 r, Int32.ofNat i) ∧ ∀ j, r j = if 300 * q ≤ j ∧ j < 300 * q + i then aI μ 2022 (j - 300 * q) else aI μ 2042 j) ?_ 0 ⟨aI μ 2042, by rw [rA_self]; rfl, fun j => by rw [if_neg (by omega)]⟩ (by omega) (by (show _ < FU; unfold FU; omega))
    rintro i t hi ⟨r, rfl, r1⟩
    have e0 : (300 : Int32) ≤ Int32.ofNat i ↔ 300 ≤ i := i32_le (a := 300) (by omega) (by omega)
    have e1 : (300 : Int32) * Int32.ofNat q + Int32.ofNat i = Int32.ofNat (300 * q + i) := by grind
    have e2 : aI (rA μ 2042 r) 2022 = aI μ 2022 := rfl
    unfold f12_keeps_b135
    simp only [e0, e1, e2, ofNat_clamp (show i < 2147483648 by omega), ofNat_clamp (show 300 * q + i < 2147483648 by omega), rA_uA, stp, i32_succ]
    by_cases hq2 : 300 ≤ i
    · rw [if_pos hq2, Ok_some, lp_inr]
      refine ⟨r, rfl, fun j => ?_⟩
      rw [r1 j, show i = 300 by omega]
    · rw [if_neg hq2]
      simp only [inb_n (show i < 301 by omega) (by omega), inb_n (show 300 * q + i < 90601 by omega) (by omega), gd_true, nar_b (hz i (by omega))]
      rw [Ok_some, lp_inl]
      refine ⟨by omega, _, rfl, fun j => ?_⟩
      unfold up1
      by_cases e : j = 300 * q + i
      · rw [if_pos e, if_pos (by omega), e, Nat.add_sub_cancel_left]
      · rw [if_neg e, r1 j]
        by_cases e2 : 300 * q ≤ j ∧ j < 300 * q + i
        · rw [if_pos e2, if_pos (by omega)]
        · rw [if_neg e2, if_neg (by omega)]
  obtain ⟨t, k1, r, rfl, k2⟩ := key
  exact ⟨r, k1, k2⟩
theorem c12_keeps (m : SM μ (f, n, hd, c, cu, ma, lf, ml)) (g : GD (f, n, hd, c, cu, ma, lf, ml)) {q : Nat} (hq : q ≤ 300) : ∃ μ', f12_keeps μ (Int32.ofNat q) = some μ' ∧ ST μ' q (f, n, hd, c, cu, ma, lf, ml) ∧ (∀ q' D', q' ≠ q → GD D' → ST μ q' D' → ST μ' q' D') ∧ fI μ' = fI μ ∧ ∀ a, a < 2036 ∨ 2042 < a → aI μ' a = aI μ a := by
  obtain ⟨m1, m2, ⟨m3, m4⟩, m5, m6⟩ := m
  obtain ⟨g1, g2, g3, g4, g5, g6, g7, g8, g9, g10, g11⟩ := g
  generalize h0 : rA (rA μ 2037 (up1 (aI μ 2037) q (Int32.ofNat n))) 2039 (up1 (aI μ 2039) q (Int32.ofNat c)) = M0
  have M0I : fI M0 = fI μ := by rw [← h0]; rfl
  have M0A : ∀ a, a ≠ 2037 → a ≠ 2039 → aI M0 a = aI μ a := fun a a1 a2 => by rw [← h0, aI_rA' a2, aI_rA' a1]
  obtain ⟨r1, k1, k2⟩ := c12_keep22 (μ := M0) hq (by rw [M0I]; exact m1.2.1) g1
  obtain ⟨r2, k3, k4⟩ := c12_keep56 (μ := rA M0 2036 r1) hq
  obtain ⟨r3, r3', k5, k6, k7⟩ := c12_keep87 (μ := rA (rA M0 2036 r1) 2038 r2) hq (fun i hi => by
    rw [aI_rA' (by omega), aI_rA' (by omega), M0A _ (by omega) (by omega), m6 i hi]
    exact (g11 i hi).2.1)
  obtain ⟨r4, k8, k9⟩ := c12_keep135 (μ := rA (rA (rA (rA M0 2036 r1) 2038 r2) 2040 r3) 2041 r3') hq (fun i hi => by
    rw [aI_rA' (by omega), aI_rA' (by omega), aI_rA' (by omega), aI_rA' (by omega), M0A _ (by omega) (by omega), m2 i (by omega)]
    split
    · exact g5 i ‹_›
    · exact Or.inl rfl)
  have a36 : aI (rA (rA (rA (rA (rA M0 2036 r1) 2038 r2) 2040 r3) 2041 r3') 2042 r4) 2036 = r1 := rfl
  have a38 : aI (rA (rA (rA (rA (rA M0 2036 r1) 2038 r2) 2040 r3) 2041 r3') 2042 r4) 2038 = r2 := rfl
  have a40 : aI (rA (rA (rA (rA (rA M0 2036 r1) 2038 r2) 2040 r3) 2041 r3') 2042 r4) 2040 = r3 := rfl
  have a41 : aI (rA (rA (rA (rA (rA M0 2036 r1) 2038 r2) 2040 r3) 2041 r3') 2042 r4) 2041 = r3' := rfl
  have a42 : aI (rA (rA (rA (rA (rA M0 2036 r1) 2038 r2) 2040 r3) 2041 r3') 2042 r4) 2042 = r4 := rfl
  have a37 : aI (rA (rA (rA (rA (rA M0 2036 r1) 2038 r2) 2040 r3) 2041 r3') 2042 r4) 2037 = up1 (aI μ 2037) q (Int32.ofNat n) := by rw [← h0]; rfl
  have a39 : aI (rA (rA (rA (rA (rA M0 2036 r1) 2038 r2) 2040 r3) 2041 r3') 2042 r4) 2039 = up1 (aI μ 2039) q (Int32.ofNat c) := by rw [← h0]; rfl
  refine ⟨rA (rA (rA (rA (rA M0 2036 r1) 2038 r2) 2040 r3) 2041 r3') 2042 r4, ?_, ⟨?_, ?_, fun k hk => ?_, fun k hk => ?_, fun k hk => ⟨?_, ?_⟩, fun j hj => ?_⟩, ?_, by rw [← M0I]; rfl, fun a ha => ?_⟩
  · unfold f12_keeps
    have f1 : fI (rA μ 2037 (up1 (aI μ 2037) q (Int32.ofNat n))) 2017 6 = Int32.ofNat c := m3
    have f2 : aI (rA μ 2037 (up1 (aI μ 2037) q (Int32.ofNat n))) 2039 = aI μ 2039 := rfl
    simp only [inb_n (show q < 301 by omega) (by omega), gd_true, ofNat_clamp (show q < 2147483648 by omega), uA_up1, m1.2.1, stp, f1, f2, h0]
    rw [f12_keeps_j22, k1, bnd_some, stp, f12_keeps_j56, k3, bnd_some, stp, f12_keeps_j87, k5, bnd_some, stp, f12_keeps_j135, k8, bnd_some]
  · rw [a37]
    unfold up1
    rw [if_pos rfl]
  · rw [a39]
    unfold up1
    rw [if_pos rfl]
  · rw [a36, k2, if_pos (by omega), Nat.add_sub_cancel_left, M0A _ (by omega) (by omega)]
    exact m1.2.2 k hk
  · rw [a38, k4, if_pos (by omega), Nat.add_sub_cancel_left, aI_rA' (by omega), M0A _ (by omega) (by omega)]
    exact m4 k hk
  · rw [a40, k6, if_pos (by omega), Nat.add_sub_cancel_left, aI_rA' (by omega), aI_rA' (by omega), M0A _ (by omega) (by omega)]
    exact m5 k hk
  · rw [a41, k7, if_pos (by omega), Nat.add_sub_cancel_left, aI_rA' (by omega), aI_rA' (by omega), M0A _ (by omega) (by omega)]
    exact m6 k hk
  · rw [a42, k9, if_pos (by omega), Nat.add_sub_cancel_left, aI_rA' (by omega), aI_rA' (by omega), aI_rA' (by omega), aI_rA' (by omega), M0A _ (by omega) (by omega)]
    exact m2 j (by omega)
  · rintro q' ⟨f', n', hd', c', cu', ma', lf', ml'⟩ hne g' s'
    obtain ⟨s1, s2, s3, s4, s5, s6⟩ := s'
    have n3 : n' ≤ 3000 := g'.1
    have c8 : c' ≤ 8 := g'.2.2.2.2.2.1.2
    refine ⟨?_, ?_, fun k hk => ?_, fun k hk => ?_, fun k hk => ⟨?_, ?_⟩, fun j hj => ?_⟩
    · rw [a37]
      unfold up1
      rw [if_neg hne]
      exact s1
    · rw [a39]
      unfold up1
      rw [if_neg hne]
      exact s2
    · rw [a36, k2, if_neg (by omega), M0A _ (by omega) (by omega)]
      exact s3 k hk
    · rw [a38, k4, if_neg (by omega), aI_rA' (by omega), M0A _ (by omega) (by omega)]
      exact s4 k hk
    · rw [a40, k6, if_neg (by omega), aI_rA' (by omega), aI_rA' (by omega), M0A _ (by omega) (by omega)]
      exact (s5 k hk).1
    · rw [a41, k7, if_neg (by omega), aI_rA' (by omega), aI_rA' (by omega), M0A _ (by omega) (by omega)]
      exact (s5 k hk).2
    · rw [a42, k9, if_neg (by omega), aI_rA' (by omega), aI_rA' (by omega), aI_rA' (by omega), aI_rA' (by omega), M0A _ (by omega) (by omega)]
      exact s6 j hj
  · rw [aI_rA' (by omega), aI_rA' (by omega), aI_rA' (by omega), aI_rA' (by omega), aI_rA' (by omega), M0A _ (by omega) (by omega)]
end R
/-! the class: places moved, the new sheet taken -/
section R
variable {σ μ : Sto} {K : Nat} {a b l : Nat → Nat} {X : Nat → Nat → Int32} {L B H L' B' H' : Nat} {f : Nat → Int32} {n c : Nat} {hd : Nat → Int32} {cu : Nat → Nat} {ma lf ml : Nat → Int32}
theorem c1_moved (pc : PC σ K a b l X) (v : VP n K a b) (hn : n ≤ 3000) {x z : Int32} {p : Nat} (hx : x = Int32.ofNat p) (hp : p ≤ n) : f1_moved σ x z = some (Int32.ofNat (mvA K a b l z 0 p)) := by
  subst hx
  obtain ⟨p1, p2, s, p3⟩ := pc
  have hb : ∀ k, k ≤ K → nA n K a b l k < 2000000000 := fun k hk => by
    have h1 := nA_bound (n := n) (l := l) (w := 3000) v (fun k hk => by have := (p3 k hk).2.2.2.2.1; omega) k hk
    have : (K - k) * 3000 ≤ 3000 * 3000 := Nat.mul_le_mul (by omega) (Nat.le_refl _)
    omega
  have key : loopF (fun s_10 => f1_moved_b10 (Int32.ofNat p) z σ s_10.1 s_10.2) FU (Int32.ofNat p, Int32.ofNat K - 1) = some (Int32.ofNat (mvA K a b l z 0 p)) := by
    apply Ok_eq
    refine Ok_count K (fun i t => t = (Int32.ofNat (mvA K a b l z (K - i) p), Int32.ofNat (K - i) - 1)) ?_ 0 (by rw [Nat.sub_zero, mvA_K]) (by omega) (by (show _ < FU; unfold FU; omega))
    rintro i t hi rfl
    unfold f1_moved_b10
    simp only [i32_p0 (show K - i < 2147483648 by omega)]
    by_cases hq : K - i = 0
    · rw [if_pos hq, hq, Ok_some, lp_inr]
    · obtain ⟨k, hk⟩ : ∃ k, K - i = k + 1 := ⟨K - i - 1, by omega⟩
      have hkK : k < K := by omega
      obtain ⟨q1, q2, q3, q4, q5, q6⟩ := p3 k hkK
      have hv := v.1 k hkK
      have hle := mvA_le (l := l) (z := z) v hp (k + 1) (by omega)
      have hbk := hb (k + 1) (by omega)
      have e6 : K - (i + 1) = k := by omega
      rw [if_neg hq, hk]
      unfold f1_moved_j58 f1_moved_j96
      rw [e6, mvA_k hkK]
      generalize mvA K a b l z (k + 1) p = w at hle
      have e1 : Int32.ofNat w = Int32.ofNat (b k) ↔ w = b k := by
        have : w < 2147483648 := by omega
        have : b k < 2147483648 := by omega
        grind
      simp only [i32_pred.1, inb_n (show k < 3000 by omega) (by omega), gd_true, ofNat_clamp (show k < 2147483648 by omega), q1, q2, q4, e1, i32_le (show w < 2147483648 by omega) (show b k < 2147483648 by omega), i32_le (show w < 2147483648 by omega) (show a k < 2147483648 by omega), stp, i32_dec, i32_add]
      unfold mvp
      by_cases h1 : w = b k
      · rw [if_pos h1, if_neg (show ¬ w < a k by omega), if_pos h1]
        by_cases h2 : z = 0
        · rw [if_pos h2, if_pos h2, Ok_some, lp_inl]
          exact ⟨by omega, rfl⟩
        · rw [if_neg h2, if_neg h2, Ok_some, lp_inl]
          exact ⟨by omega, rfl⟩
      · rw [if_neg h1]
        by_cases h2 : w ≤ b k
        · rw [if_pos h2]
          by_cases h3 : w ≤ a k
          · rw [if_pos h3, Ok_some, lp_inl]
            refine ⟨by omega, ?_⟩
            by_cases h4 : w < a k
            · rw [if_pos h4]
            · rw [if_neg h4, if_neg h1, if_pos (show w < b k by omega), show w = a k by omega]
          · rw [if_neg h3, if_neg (show ¬ w < a k by omega), if_neg h1, if_pos (show w < b k by omega), Ok_some, lp_inl]
            exact ⟨by omega, rfl⟩
        · rw [if_neg h2, if_neg (show ¬ w < a k by omega), if_neg h1, if_neg (show ¬ w < b k by omega), Ok_some, lp_inl]
          refine ⟨by omega, ?_⟩
          have e7 : Int32.ofNat w + (Int32.ofNat (l k) - (Int32.ofNat (b k) - Int32.ofNat (a k))) = Int32.ofNat (w + l k - (b k - a k)) := by
            rw [i32_sub hv.1]
            have : Int32.ofNat w + Int32.ofNat (l k) = Int32.ofNat (w + l k - (b k - a k)) + Int32.ofNat (b k - a k) := by
              rw [i32_add, i32_add]
              congr 1
              omega
            grind
          rw [e7]
  rw [f1_moved, stp, p1, stp, f1_moved_j10, key, bnd_some]
theorem c1_cursors (pc : PC σ K a b l X) (v : VP n K a b) (hn : n ≤ 3000) (h6 : fI σ 1 6 = Int32.ofNat c) (hc : c ≤ 8) (hr : ∀ i, i < c → aI σ 5 i = Int32.ofNat (cu i)) (hcu : ∀ i, i < c → cu i ≤ n) : ∃ r, loopF (fun s_75 => f1_moveInto_b75 1 s_75.1 s_75.2) FU (σ, 0) = some (rA σ 5 r) ∧ ∀ i, i < c → r i = Int32.ofNat (mvA K a b l 0 0 (cu i)) := by
  have key : Ok (loopF (fun s_75 => f1_moveInto_b75 1 s_75.1 s_75.2) FU (σ, 0)) (fun t => ∃ r, t = rA σ 5 r ∧ ∀ i, i < c → r i = Int32.ofNat (mvA K a b l 0 0 (cu i))) := by
    refine Ok_count c (fun i t => ∃ r, t = (rA σ 5 r, Int32.ofNat i) ∧ (∀ j, j < i → r j = Int32.ofNat (mvA K a b l 0 0 (cu j))) ∧ ∀ j, i ≤ j → j < c → r j = Int32.ofNat (cu j)) ?_ 0 ⟨aI σ 5, by rw [rA_self]; rfl, fun j hj => by omega, fun j _ hj => hr j hj⟩ (by omega) (by (show _ < FU; unfold FU; omega))
    rintro i t hi ⟨r, rfl, r1, r2⟩
    have e5 : aI (rA σ 5 r) (1 + 4) = r := by show aI (rA σ 5 r) 5 = r; rw [aI_rA, if_pos rfl]
    have e6 : ∀ (j : Nat) (v : Int32), uA (rA σ 5 r) (1 + 4) j v = rA σ 5 (up1 r j v) := fun j v => rA_uA
    unfold f1_moveInto_b75
    simp only [fI_rA, h6, i32_le (show c < 2147483648 by omega) (show i < 2147483648 by omega), e5, e6, ofNat_clamp (show i < 2147483648 by omega), stp, i32_succ]
    by_cases hq : c ≤ i
    · rw [if_pos hq, Ok_some, lp_inr]
      exact ⟨r, rfl, fun j hj => r1 j (by omega)⟩
    · rw [if_neg hq]
      have pcr : PC (rA σ 5 r) K a b l X := pc.congr rfl (fun q q1 q2 => aI_rA' (by omega))
      simp only [inb_n (show i < 8 by omega) (by omega), gd_true, r2 i (Nat.le_refl _) (by omega), c1_moved pcr v hn rfl (hcu i (by omega)), bnd_some]
      rw [Ok_some, lp_inl]
      refine ⟨by omega, _, rfl, fun j hj => ?_, fun j h1 h2 => ?_⟩
      · unfold up1
        by_cases e : j = i
        · rw [if_pos e, e]
        · rw [if_neg e]
          exact r1 j (by omega)
      · unfold up1
        rw [if_neg (by omega)]
        exact r2 j (by omega) h2
  obtain ⟨t, k1, r, rfl, k2⟩ := key
  exact ⟨r, k1, k2⟩
theorem c1_marks (pc : PC σ K a b l X) (v : VP n K a b) (hn : n ≤ 3000) (hr : ∀ i, i < 16 → aI σ 6 i = ma i) (hz : ∀ i, i < 16 → aI σ 7 i = lf i) (hm : ∀ i, i < 16 → ma i = -1 ∨ ∃ p, p ≤ n ∧ ma i = Int32.ofNat p) : ∃ r, loopF (fun s_112 => f1_moveInto_b112 1 s_112.1 s_112.2) FU (σ, 0) = some (rA σ 6 r) ∧ ∀ i, i < 16 → r i = mvN' K a b l (lf i) (ma i) 0 := by
  have key : Ok (loopF (fun s_112 => f1_moveInto_b112 1 s_112.1 s_112.2) FU (σ, 0)) (fun t => ∃ r, t = rA σ 6 r ∧ ∀ i, i < 16 → r i = mvN' K a b l (lf i) (ma i) 0) := by
    refine Ok_count 16 (fun i t => ∃ r, t = (rA σ 6 r, Int32.ofNat i) ∧ (∀ j, j < i → r j = mvN' K a b l (lf j) (ma j) 0) ∧ ∀ j, i ≤ j → j < 16 → r j = ma j) ?_ 0 ⟨aI σ 6, by rw [rA_self]; rfl, fun j hj => by omega, fun j _ hj => hr j hj⟩ (by omega) (by (show _ < FU; unfold FU; omega))
    rintro i t hi ⟨r, rfl, r1, r2⟩
    have e0 : (16 : Int32) ≤ Int32.ofNat i ↔ 16 ≤ i := i32_le (a := 16) (by omega) (by omega)
    have e5 : aI (rA σ 6 r) (1 + 5) = r := by show aI (rA σ 6 r) 6 = r; rw [aI_rA, if_pos rfl]
    have e7 : aI (rA σ 6 r) (1 + 6) = aI σ 7 := rfl
    have e6 : ∀ (j : Nat) (v : Int32), uA (rA σ 6 r) (1 + 5) j v = rA σ 6 (up1 r j v) := fun j v => rA_uA
    unfold f1_moveInto_b112 f1_moveInto_j155
    simp only [e0, e5, e6, e7, ofNat_clamp (show i < 2147483648 by omega), stp, i32_succ]
    by_cases hq : 16 ≤ i
    · rw [if_pos hq, Ok_some, lp_inr]
      exact ⟨r, rfl, fun j hj => r1 j (by omega)⟩
    · rw [if_neg hq]
      have pcr : PC (rA σ 6 r) K a b l X := pc.congr rfl (fun q q1 q2 => aI_rA' (by omega))
      simp only [inb_n (show i < 16 by omega) (by omega), gd_true, r2 i (Nat.le_refl _) (by omega)]
      by_cases hmi : ma i = -1
      · rw [if_pos hmi, Ok_some, lp_inl]
        refine ⟨by omega, r, rfl, fun j hj => ?_, fun j h1 h2 => r2 j (by omega) h2⟩
        by_cases e : j = i
        · rw [e, r2 i (Nat.le_refl _) (by omega)]
          unfold mvN'
          rw [if_pos hmi, hmi]
        · exact r1 j (by omega)
      · rw [if_neg hmi]
        rcases hm i (by omega) with w | ⟨p, q1, q2⟩
        · exact absurd w hmi
        · have hmv : mvN' K a b l (lf i) (ma i) 0 = Int32.ofNat (mvA K a b l (lf i) 0 p) := by
            unfold mvN'
            rw [if_neg hmi, q2, ofNat_clamp (by omega)]
          rw [hz i (by omega), c1_moved pcr v hn q2 q1, bnd_some, Ok_some, lp_inl]
          refine ⟨by omega, _, rfl, fun j hj => ?_, fun j h1 h2 => ?_⟩
          · unfold up1
            by_cases e : j = i
            · rw [if_pos e, e, hmv]
            · rw [if_neg e]
              exact r1 j (by omega)
          · unfold up1
            rw [if_neg (by omega)]
            exact r2 j (by omega) h2
  obtain ⟨t, k1, r, rfl, k2⟩ := key
  exact ⟨r, k1, k2⟩
end R
