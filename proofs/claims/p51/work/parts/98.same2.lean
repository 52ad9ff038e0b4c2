/-! what is as it was is found so -/
section R
variable {σ μ : Sto} {L B H L' B' H' s' : Nat} {f : Nat → Int32} {n c : Nat} {hd : Nat → Int32} {cu : Nat → Nat} {ma lf ml : Nat → Int32}
theorem okr_ct {σ : Sto} {s k c : Nat} {X : Nat} (h : fR σ s k = X + 1) (h2 : kc X = c) : okr (fR σ s k) c = true := by rw [h]; exact okr_s.mpr h2
theorem c8_sameText (h : CT σ 1 L B f n) (h' : CT σ s' L' B' f n) : f8_hasTextOf σ 1 s' = some 1 := by
  have hn := h.1
  have key : Ok (loopF (fun s_19 => f8_hasTextOf_b19 1 s' σ s_19.1 s_19.2) FU (1, 0)) (fun v => v = 1) := by
    refine Ok_count n (fun k s => s = (1, Int32.ofNat k)) ?_ 0 rfl (by omega) (by (show _ < FU; unfold FU; omega))
    rintro k s hk rfl
    show Ok (f8_hasTextOf_b19 1 s' σ 1 (Int32.ofNat k)) _
    unfold f8_hasTextOf_b19 f8_hasTextOf_j51
    rw [if_neg (by decide), h.2.2.1]
    simp only [i32_le (show n < 2147483648 by omega) (show k < 2147483648 by omega)]
    by_cases hq : n ≤ k
    · rw [if_pos hq, Ok_some, lp_inr]
    · rw [if_neg hq, h.2.2.2.2.1.1, h'.2.2.2.2.1.1, okr_s.mpr h.2.2.2.2.1.2.1, okr_s.mpr h'.2.2.2.2.1.2.1, gd_true, gd_true, Nat.add_sub_cancel, Nat.add_sub_cancel, h.2.2.2.2.1.2.2, h'.2.2.2.2.1.2.2, inb_n (show k < 3000 by omega) (by omega), gd_true, gd_true, ofNat_clamp (by omega), h.2.2.2.2.2.2.1 k (by omega), h'.2.2.2.2.2.2.1 k (by omega), if_pos rfl, i32_succ, stp, stp, Ok_some, lp_inl]
      exact ⟨by omega, rfl⟩
  obtain ⟨v, k1, rfl⟩ := key
  unfold f8_hasTextOf f8_hasTextOf_j16 f8_hasTextOf_j19 f8_hasTextOf_j58
  rw [h.2.2.1, h'.2.2.1, if_pos rfl, stp, stp, k1, bnd_some]
  rfl
theorem c8_sameCursors (h : fI σ 1 6 = Int32.ofNat c ∧ ∀ k, k < c → aI σ (1 + 4) k = Int32.ofNat (cu k)) (h' : fI σ s' 6 = Int32.ofNat c ∧ ∀ k, k < c → aI σ (s' + 4) k = Int32.ofNat (cu k)) (hc : c ≤ 8) : f8_hasCursorsOf σ 1 s' = some 1 := by
  have key : Ok (loopF (fun s_19 => f8_hasCursorsOf_b19 1 s' σ s_19.1 s_19.2) FU (1, 0)) (fun v => v = 1) := by
    refine Ok_count c (fun k s => s = (1, Int32.ofNat k)) ?_ 0 rfl (by omega) (by (show _ < FU; unfold FU; omega))
    rintro k s hk rfl
    show Ok (f8_hasCursorsOf_b19 1 s' σ 1 (Int32.ofNat k)) _
    unfold f8_hasCursorsOf_b19 f8_hasCursorsOf_j51
    rw [if_neg (by decide), h.1]
    simp only [i32_le (show c < 2147483648 by omega) (show k < 2147483648 by omega)]
    by_cases hq : c ≤ k
    · rw [if_pos hq, Ok_some, lp_inr]
    · rw [if_neg hq, inb_n (show k < 8 by omega) (by omega), gd_true, gd_true, ofNat_clamp (by omega), h.2 k (by omega), h'.2 k (by omega), if_pos rfl, i32_succ, stp, stp, Ok_some, lp_inl]
      exact ⟨by omega, rfl⟩
  obtain ⟨v, k1, rfl⟩ := key
  unfold f8_hasCursorsOf f8_hasCursorsOf_j16 f8_hasCursorsOf_j19 f8_hasCursorsOf_j58
  rw [h.1, h'.1, if_pos rfl, stp, stp, k1, bnd_some]
  rfl
theorem c8_sameMarks (h : ∀ k, k < 16 → aI σ (1 + 5) k = ma k) (h2 : ∀ k, k < 16 → aI σ (1 + 6) k = lf k) (h' : ∀ k, k < 16 → aI σ (s' + 5) k = ma k) (h2' : ∀ k, k < 16 → aI σ (s' + 6) k = lf k) : f8_hasMarksOf σ 1 s' = some 1 := by
  have key : Ok (loopF (fun s_4 => f8_hasMarksOf_b4 1 s' σ s_4.1 s_4.2) FU (1, 0)) (fun v => v = 1) := by
    refine Ok_count 16 (fun k s => s = (1, Int32.ofNat k)) ?_ 0 rfl (by omega) (by (show _ < FU; unfold FU; omega))
    rintro k s hk rfl
    show Ok (f8_hasMarksOf_b4 1 s' σ 1 (Int32.ofNat k)) _
    unfold f8_hasMarksOf_b4 f8_hasMarksOf_j48 f8_hasMarksOf_j49
    have e16 : (16 : Int32) ≤ Int32.ofNat k ↔ 16 ≤ k := i32_le (a := 16) (by omega) (by omega)
    rw [if_neg (by decide)]
    simp only [e16]
    by_cases hq : 16 ≤ k
    · rw [if_pos hq, Ok_some, lp_inr]
    · rw [if_neg hq, inb_n (show k < 16 by omega) (by omega), gd_true, gd_true, gd_true, gd_true, ofNat_clamp (by omega), h k (by omega), h' k (by omega), if_pos rfl, h2 k (by omega), h2' k (by omega), if_pos rfl, i32_succ, stp, stp, Ok_some, lp_inl]
      exact ⟨by omega, rfl⟩
  obtain ⟨v, k1, rfl⟩ := key
  unfold f8_hasMarksOf f8_hasMarksOf_j4 f8_hasMarksOf_j56
  rw [stp, stp, k1, bnd_some]
  rfl
theorem c8_sameHidden (h : CT σ 1 L B f n) (h' : CT σ s' L' B' f n) (hH : fR σ 1 3 = H + 1 ∧ kc H = 14 ∧ ln H = 300 ∧ ∀ j, j ≤ ends f n → aI σ H j = hd j) (hH' : fR σ s' 3 = H' + 1 ∧ kc H' = 14 ∧ ln H' = 300 ∧ ∀ j, j ≤ ends f n → aI σ H' j = hd j) : f8_hasHiddenOf σ 1 s' = some 1 := by
  have hE := h.2.1
  have key : Ok (loopF (fun s_19 => f8_hasHiddenOf_b19 1 s' σ s_19.1 s_19.2) FU (1, 0)) (fun v => v = 1) := by
    refine Ok_count (ends f n + 1) (fun k s => s = (1, Int32.ofNat k)) ?_ 0 rfl (by omega) (by (show _ < FU; unfold FU; omega))
    rintro k s hk rfl
    show Ok (f8_hasHiddenOf_b19 1 s' σ 1 (Int32.ofNat k)) _
    unfold f8_hasHiddenOf_b19 f8_hasHiddenOf_j51
    rw [if_neg (by decide), h.2.2.2.1]
    simp only [i32_le (show ends f n + 1 < 2147483648 by omega) (show k < 2147483648 by omega)]
    by_cases hq : ends f n + 1 ≤ k
    · rw [if_pos hq, Ok_some, lp_inr]
    · rw [if_neg hq, hH.1, hH'.1, okr_s.mpr hH.2.1, okr_s.mpr hH'.2.1, gd_true, gd_true, Nat.add_sub_cancel, Nat.add_sub_cancel, hH.2.2.1, hH'.2.2.1, inb_n (show k < 300 by omega) (by omega), gd_true, gd_true, ofNat_clamp (by omega), hH.2.2.2 k (by omega), hH'.2.2.2 k (by omega), if_pos rfl, i32_succ, stp, stp, Ok_some, lp_inl]
      exact ⟨by omega, rfl⟩
  obtain ⟨v, k1, rfl⟩ := key
  unfold f8_hasHiddenOf f8_hasHiddenOf_j16 f8_hasHiddenOf_j19 f8_hasHiddenOf_j58
  rw [h.2.2.2.1, h'.2.2.2.1, if_pos rfl, stp, stp, k1, bnd_some]
  rfl
theorem c8_countUnlike (h : SC σ 1 L B H (f, n, hd, c, cu, ma, lf, ml)) (h' : SC σ s' L' B' H' (f, n, hd, c, cu, ma, lf, ml)) (hc : c ≤ 8) : f8_countUnlike σ 1 s' = some 0 := by
  obtain ⟨a1, a2, a3, a4, a5⟩ := h
  obtain ⟨b1, b2, b3, b4, b5⟩ := h'
  unfold f8_countUnlike f8_countUnlike_j13 f8_countUnlike_j28 f8_countUnlike_j44 f8_countUnlike_j60
  rw [c8_sameText a1 b1, bnd_some, if_neg (by decide), stp, c8_sameCursors a3 b3 hc, bnd_some, if_neg (by decide), stp, c8_sameMarks a4 a5 b4 b5, bnd_some, if_neg (by decide), stp, c8_sameHidden a1 b1 a2 b2, bnd_some, if_neg (by decide), stp]
  rfl
theorem c8_trueBegins (h : CT σ 1 L B f n) : f8_hasTrueBegins σ 1 = some 1 := by
  have hn := h.1
  have hE := h.2.1
  have key : Ok (loopF (fun s_19 => f8_hasTrueBegins_b19 1 σ s_19.1 s_19.2.1 s_19.2.2) FU (0, 1, 0)) (fun v => v = (Int32.ofNat (ends f n), 1)) := by
    refine Ok_count n (fun k s => s = (Int32.ofNat (ends f k), 1, Int32.ofNat k)) ?_ 0 rfl (by omega) (by (show _ < FU; unfold FU; omega))
    rintro k s hk rfl
    show Ok (f8_hasTrueBegins_b19 1 σ (Int32.ofNat (ends f k)) 1 (Int32.ofNat k)) _
    unfold f8_hasTrueBegins_b19 f8_hasTrueBegins_j69 f8_hasTrueBegins_j70 f8_hasTrueBegins_j71
    rw [h.2.2.1]
    simp only [i32_le (show n < 2147483648 by omega) (show k < 2147483648 by omega)]
    by_cases hq : n ≤ k
    · rw [if_pos hq, Ok_some, lp_inr, show n = k by omega]
    · rw [if_neg hq, h.2.2.2.2.1.1, okr_s.mpr h.2.2.2.2.1.2.1, gd_true, Nat.add_sub_cancel, h.2.2.2.2.1.2.2, inb_n (show k < 3000 by omega) (by omega), gd_true, ofNat_clamp (by omega), h.2.2.2.2.2.2.1 k (by omega)]
      have hes := ends_succ f k
      have hme := ends_mono (f := f) (show k + 1 ≤ n by omega)
      by_cases q : f k = 10
      · rw [if_pos q] at hes
        have hbg : isBg f (ends f (k + 1)) (k + 1) := ⟨rfl, Or.inr (by rw [Nat.add_sub_cancel]; exact q)⟩
        have hB := (h.bg (j := ends f (k + 1)) (by omega) hbg).1
        rw [hes] at hB
        rw [if_pos q, i32_succ, stp, if_neg (by decide), h.2.2.2.1, if_neg (fun z => by have := (i32_le (by omega) (by omega)).mp z; omega), h.2.2.2.2.2.1.1, okr_s.mpr h.2.2.2.2.2.1.2.1, gd_true, Nat.add_sub_cancel, h.2.2.2.2.2.1.2.2, inb_n (show ends f k + 1 < 300 by omega) (by omega), gd_true, ofNat_clamp (by omega), hB, i32_succ, if_pos rfl, stp, stp, Ok_some, lp_inl, hes]
        exact ⟨by omega, rfl⟩
      · rw [if_neg q] at hes
        rw [if_neg q, i32_succ, stp, Ok_some, lp_inl, hes]
        exact ⟨by omega, rfl⟩
  obtain ⟨v, k1, rfl⟩ := key
  have z0 : (0 : Int32).toNatClampNeg = 0 := by decide
  have hB0 : aI σ B 0 = Int32.ofNat 0 := (h.bg (j := 0) (Nat.zero_le _) ⟨rfl, Or.inl rfl⟩).1
  unfold f8_hasTrueBegins f8_hasTrueBegins_j16 f8_hasTrueBegins_j19 f8_hasTrueBegins_j96
  rw [stp, h.2.2.2.2.2.1.1, okr_s.mpr h.2.2.2.2.2.1.2.1, gd_true, Nat.add_sub_cancel, h.2.2.2.2.2.1.2.2, show inb 0 300 = true by decide, gd_true, z0, hB0, if_pos (show Int32.ofNat 0 = 0 from rfl), stp, stp, k1, bnd_some]
  show (if (1 : Int32) = 0 then _ else if Int32.ofNat (ends f n) + 1 = fI σ 1 4 then _ else _) = _
  rw [if_neg (by decide), i32_succ, h.2.2.2.1, if_pos rfl]
  rfl
theorem c12_trueBegins (hM : MT μ f n) (hE : ends f n < 300) : loopF (fun s_20 => f12_errors_b20 μ s_20.1 (Int32.ofNat (ends f n + 1)) s_20.2) FU (0, 0) = some 0 := by
  have hn := hM.1
  obtain ⟨bf, ef, hbe⟩ := lines_fn f n
  have key : Ok (loopF (fun s_20 => f12_errors_b20 μ s_20.1 (Int32.ofNat (ends f n + 1)) s_20.2) FU (0, 0)) (fun v => v = 0) := by
    refine Ok_count (ends f n + 1) (fun k s => s = (0, Int32.ofNat k)) ?_ 0 rfl (by omega) (by (show _ < FU; unfold FU; omega))
    rintro k s hk rfl
    show Ok (f12_errors_b20 μ 0 (Int32.ofNat (ends f n + 1)) (Int32.ofNat k)) _
    unfold f12_errors_b20 f12_errors_j52 f12_errors_j57
    simp only [i32_le (show ends f n + 1 < 2147483648 by omega) (show k < 2147483648 by omega)]
    by_cases hq : ends f n + 1 ≤ k
    · rw [if_pos hq, Ok_some, lp_inr]
    · obtain ⟨m1, m2⟩ := mt_ln hM hbe (j := k) (by omega)
      obtain ⟨b1, b2, b3, b4⟩ := hbe k (by omega)
      rw [if_neg hq, m1, bnd_some, i32_succ, stp]
      have fin : Ok (stp ((0 : Int32) + 0) fun x1_7 => stp (Int32.ofNat (k + 1)) fun x3_8 => some (Sum.inl (x1_7, x3_8) : Int32 × Int32 ⊕ Int32)) (lp (fun s' => k + 1 ≤ ends f n + 1 ∧ s' = (0, Int32.ofNat (k + 1))) (fun v => v = 0)) := by
        rw [stp, stp, Ok_some, lp_inl]
        exact ⟨by omega, rfl⟩
      by_cases q : bf k = 0
      · rw [if_pos (by rw [q]; rfl)]
        exact fin
      · obtain ⟨p, hp⟩ : ∃ p, bf k = p + 1 := ⟨bf k - 1, by omega⟩
        have h10 : f p = 10 := by
          rcases b1.2 with z | z
          · exact absurd z q
          · rw [hp, Nat.add_sub_cancel] at z
            exact z
        rw [if_neg (fun z => q ((ofNat_z0 (by omega)).mp z)), hp, i32_pred.1, inb_n (show p < 3000 by omega) (by omega), gd_true, ofNat_clamp (by omega), hM.2.2 p (by omega), if_pos h10]
        exact fin
  obtain ⟨v, k1, rfl⟩ := key
  exact k1
theorem c12_isState {q : Nat} (m : SM μ (f, n, hd, c, cu, ma, lf, ml)) (st : ST μ q (f, n, hd, c, cu, ma, lf, ml)) (g : GD (f, n, hd, c, cu, ma, lf, ml)) (hq : q ≤ 300) : f12_isState μ (Int32.ofNat q) = some 1 := by
  obtain ⟨m1, m2, ⟨m3, m4⟩, m5, m6⟩ := m
  obtain ⟨s1, s2, s3, s4, s5, s6⟩ := st
  have hn := g.1
  have hc := g.2.2.2.2.2.1.2
  have z1 : ¬ (1 : Int32) = 0 := by decide
  have k34 : Ok (loopF (fun s => f12_isState_b34 (Int32.ofNat q) μ s.1 s.2) FU (1, 0)) (fun v => v = 1) := by
    refine Ok_count n (fun k s => s = (1, Int32.ofNat k)) ?_ 0 rfl (by omega) (by (show _ < FU; unfold FU; omega))
    rintro k s hk rfl
    show Ok (f12_isState_b34 (Int32.ofNat q) μ 1 (Int32.ofNat k)) _
    have e1 : (3000 : Int32) * Int32.ofNat q + Int32.ofNat k = Int32.ofNat (3000 * q + k) := by grind
    unfold f12_isState_b34 f12_isState_j72
    rw [m1.2.1]
    simp only [i32_le (show n < 2147483648 by omega) (show k < 2147483648 by omega)]
    by_cases hz : n ≤ k
    · rw [if_pos hz, Ok_some, lp_inr]
    · rw [if_neg hz, if_neg z1, e1, inb_n (show 3000 * q + k < 903000 by omega) (by omega), gd_true, inb_n (show k < 3000 by omega) (by omega), gd_true, ofNat_clamp (by omega), ofNat_clamp (by omega), s3 k (by omega), m1.2.2 k (by omega), if_pos rfl, i32_succ, stp, stp, Ok_some, lp_inl]
      exact ⟨by omega, rfl⟩
  have k81 : Ok (loopF (fun s => f12_isState_b81 (Int32.ofNat q) μ s.1 s.2) FU (1, 0)) (fun v => v = 1) := by
    refine Ok_count c (fun k s => s = (1, Int32.ofNat k)) ?_ 0 rfl (by omega) (by (show _ < FU; unfold FU; omega))
    rintro k s hk rfl
    show Ok (f12_isState_b81 (Int32.ofNat q) μ 1 (Int32.ofNat k)) _
    have e1 : (8 : Int32) * Int32.ofNat q + Int32.ofNat k = Int32.ofNat (8 * q + k) := by grind
    unfold f12_isState_b81 f12_isState_j118
    rw [m3]
    simp only [i32_le (show c < 2147483648 by omega) (show k < 2147483648 by omega)]
    by_cases hz : c ≤ k
    · rw [if_pos hz, Ok_some, lp_inr]
    · rw [if_neg hz, if_neg z1, e1, inb_n (show 8 * q + k < 2408 by omega) (by omega), gd_true, inb_n (show k < 8 by omega) (by omega), gd_true, ofNat_clamp (by omega), ofNat_clamp (by omega), s4 k (by omega), m4 k (by omega), if_pos rfl, i32_succ, stp, stp, Ok_some, lp_inl]
      exact ⟨by omega, rfl⟩
  have k127 : Ok (loopF (fun s => f12_isState_b127 (Int32.ofNat q) μ s.1 s.2) FU (1, 0)) (fun v => v = 1) := by
    refine Ok_count 16 (fun k s => s = (1, Int32.ofNat k)) ?_ 0 rfl (by omega) (by (show _ < FU; unfold FU; omega))
    rintro k s hk rfl
    show Ok (f12_isState_b127 (Int32.ofNat q) μ 1 (Int32.ofNat k)) _
    have e1 : (16 : Int32) * Int32.ofNat q + Int32.ofNat k = Int32.ofNat (16 * q + k) := by grind
    have e16 : (16 : Int32) ≤ Int32.ofNat k ↔ 16 ≤ k := i32_le (a := 16) (by omega) (by omega)
    unfold f12_isState_b127 f12_isState_j181 f12_isState_j182
    simp only [e16]
    by_cases hz : 16 ≤ k
    · rw [if_pos hz, Ok_some, lp_inr]
    · rw [if_neg hz, if_neg z1, e1, inb_n (show 16 * q + k < 4816 by omega) (by omega), gd_true, inb_n (show k < 16 by omega) (by omega), gd_true, gd_true, gd_true, ofNat_clamp (by omega), ofNat_clamp (by omega), (s5 k (by omega)).1, m5 k (by omega), if_pos rfl, (s5 k (by omega)).2, m6 k (by omega), if_pos rfl, i32_succ, stp, stp, Ok_some, lp_inl]
      exact ⟨by omega, rfl⟩
  have k191 : Ok (loopF (fun s => f12_isState_b191 (Int32.ofNat q) μ s.1 s.2) FU (1, 0)) (fun v => v = 1) := by
    refine Ok_count 300 (fun k s => s = (1, Int32.ofNat k)) ?_ 0 rfl (by omega) (by (show _ < FU; unfold FU; omega))
    rintro k s hk rfl
    show Ok (f12_isState_b191 (Int32.ofNat q) μ 1 (Int32.ofNat k)) _
    have e1 : (300 : Int32) * Int32.ofNat q + Int32.ofNat k = Int32.ofNat (300 * q + k) := by grind
    have e16 : (300 : Int32) ≤ Int32.ofNat k ↔ 300 ≤ k := i32_le (a := 300) (by omega) (by omega)
    unfold f12_isState_b191 f12_isState_j228
    simp only [e16]
    by_cases hz : 300 ≤ k
    · rw [if_pos hz, Ok_some, lp_inr]
    · rw [if_neg hz, if_neg z1, e1, inb_n (show 300 * q + k < 90601 by omega) (by omega), gd_true, inb_n (show k < 301 by omega) (by omega), gd_true, ofNat_clamp (by omega), ofNat_clamp (by omega), s6 k (by omega), m2 k (by omega), if_pos rfl, i32_succ, stp, stp, Ok_some, lp_inl]
      exact ⟨by omega, rfl⟩
  obtain ⟨v1, j1, rfl⟩ := k34
  obtain ⟨v2, j2, rfl⟩ := k81
  obtain ⟨v3, j3, rfl⟩ := k127
  obtain ⟨v4, j4, rfl⟩ := k191
  unfold f12_isState f12_isState_j31
  rw [inb_n (show q < 301 by omega) (by omega), gd_true, gd_true, ofNat_clamp (by omega), s1, m1.2.1, if_pos rfl, s2, m3, if_pos rfl, stp, stp]
  unfold f12_isState_j34
  rw [j1, bnd_some]
  unfold f12_isState_j79
  rw [stp]
  unfold f12_isState_j81
  rw [j2, bnd_some]
  unfold f12_isState_j125
  rw [stp]
  unfold f12_isState_j127
  rw [j3, bnd_some]
  unfold f12_isState_j189
  rw [stp]
  unfold f12_isState_j191
  rw [j4, bnd_some]
  rfl
end R
