/-! steps that are recorded; moving the cursors -/
section R
variable {σ μ : Sto} {o : Int64} {L B H : Nat} {D : Doc} {T : Hst}
theorem Rel0.stp {σ' μ' : Sto} (h : Rel0 σ μ D L B H T) (hs : Sm (fun a => a < 1992 ∨ 1996 < a) σ σ') (hm1 : ∀ k, k ≠ 50 → fI μ' 2017 k = fI μ 2017 k) (hm2 : ∀ a, a < 2044 ∨ 2048 < a → aI μ' a = aI μ a) (r : RS σ' μ') : Rel0 σ' μ' D L B H T := by
  obtain ⟨g, s, m, w, t1, t2, t3, t4, t5, t6, t7, t8⟩ := h
  have hw := w.cells
  refine ⟨g, s.congr (hs 1 (by omega)).1 (hs 1 (by omega)).2.1 (hs L (by omega)).2.2.1 (hs B (by omega)).2.2.1 (hs H (by omega)).2.2.1 (hs (1 + 4) (by omega)).2.2.1 (hs (1 + 5) (by omega)).2.2.1 (hs (1 + 6) (by omega)).2.2.1, m.congr (hm1 _ (by decide)) (hm1 _ (by decide)) (hm2 _ (by omega)) (hm2 _ (by omega)) (hm2 _ (by omega)) (hm2 _ (by omega)) (hm2 _ (by omega)), ?_, ?_, ?_, ?_, ?_, t5.congr (hs.weak (by omega)) (hm1 _ (by decide)) (hm2 _ (by omega)), r, ?_, t8.congr (hs.weak (by omega)) ?_ ?_ (hm1 _ (by decide)) (hm1 _ (by decide)) (fun a a1 a2 => hm2 a (by omega))⟩
  · unfold SW
    rw [(hs 13 (by omega)).2.1]
    exact w
  · rw [(hs 8 (by omega)).1, (hs 9 (by omega)).2.2.1, hm1 11 (by decide), hm2 2023 (by omega)]
    exact t1
  · rw [(hs 10 (by omega)).1, (hs 11 (by omega)).1, (hs 12 (by omega)).2.2.1, hm1 12 (by omega), hm1 13 (by omega), hm1 14 (by omega), hm2 2024 (by omega)]
    exact t2
  · rw [(hs 1990 (by omega)).1, (hs 1989 (by omega)).1, (hs 1991 (by omega)).2.2.1, hm1 15 (by omega), hm1 19 (by omega), hm2 2025 (by omega)]
    exact t3
  · rw [(hs 0 (by omega)).1, (hs 2015 (by omega)).2.2.1, (hs 2016 (by omega)).2.2.1, hm1 17 (by omega), hm2 2027 (by omega), hm2 2028 (by omega)]
    exact t4
  · rw [(hs 24 (by omega)).1, hm1 34 (by omega), hm1 33 (by omega)]
    exact t7
  · rw [(hs 24 (by omega)).1]
  · rw [(hs 24 (by omega)).2.1]
theorem c12_stepsR {n m : Nat} (hn : fI μ 2017 50 = Int32.ofNat n) (hn2 : n ≤ 40) (hm : fI μ 2017 11 = Int32.ofNat m) (hm2 : m ≤ 200) {x y z : Int32} : ∃ r, f12_steps μ x y z = (if fI μ 2017 51 = 0 ∨ n = 40 then some μ else some (uI (rA (rA (rA (rA (rA μ 2044 (up1 (aI μ 2044) n x)) 2045 (up1 (aI μ 2045) n y)) 2046 (up1 (aI μ 2046) n z)) 2047 (up1 (aI μ 2047) n (Int32.ofNat m))) 2048 r) 2017 50 (Int32.ofNat (n + 1)))) ∧ (∀ i, i < m → r (200 * n + i) = aI μ 2023 i) ∧ ∀ i, i < 200 * n → r i = aI μ 2048 i := by
  by_cases h0 : fI μ 2017 51 = 0
  · refine ⟨fun i => if 200 * n ≤ i then aI μ 2023 (i - 200 * n) else aI μ 2048 i, ?_, fun i hi => ?_, fun i hi => ?_⟩
    · rw [if_pos (Or.inl h0), f12_steps, if_pos h0, f12_steps_j16]
    · show (if 200 * n ≤ 200 * n + i then _ else _) = _
      rw [if_pos (by omega), Nat.add_sub_cancel_left]
    · show (if 200 * n ≤ i then _ else _) = _
      rw [if_neg (by omega)]
  · have e40 : Int32.ofNat n = 40 ↔ n = 40 := by grind
    by_cases h4 : n = 40
    · refine ⟨fun i => if 200 * n ≤ i then aI μ 2023 (i - 200 * n) else aI μ 2048 i, ?_, fun i hi => ?_, fun i hi => ?_⟩
      · rw [if_pos (Or.inr h4), f12_steps, if_neg h0, hn, if_pos (e40.mpr h4), f12_steps_j16]
      · show (if 200 * n ≤ 200 * n + i then _ else _) = _
        rw [if_pos (by omega), Nat.add_sub_cancel_left]
      · show (if 200 * n ≤ i then _ else _) = _
        rw [if_neg (by omega)]
    · have hneg : ¬ (fI μ 2017 51 = 0 ∨ n = 40) := by rintro (w | w); exact h0 w; exact h4 w
      have key : ∀ M : Sto, fI M 2017 50 = Int32.ofNat n → fI M 2017 11 = Int32.ofNat m → Ok (loopF (fun s_63 => f12_steps_b63 x y z s_63.1 s_63.2) FU (M, 0)) (fun s => ∃ r, s = rA M 2048 r ∧ (∀ i, i < m → r (200 * n + i) = aI M 2023 i) ∧ ∀ i, i < 200 * n → r i = aI M 2048 i) := by
        intro M hn hm
        refine Ok_count m (fun k s => ∃ r, s = (rA M 2048 r, Int32.ofNat k) ∧ (∀ i, i < k → r (200 * n + i) = aI M 2023 i) ∧ ∀ i, i < 200 * n → r i = aI M 2048 i) ?_ 0 ⟨aI M 2048, by rw [rA_self]; rfl, fun i hi => by omega, fun _ _ => rfl⟩ (by omega) (by (show _ < FU; unfold FU; omega))
        rintro k s hk ⟨r, rfl, r1, r2⟩
        have e1 : (200 : Int32) * Int32.ofNat n + Int32.ofNat k = Int32.ofNat (200 * n + k) := by grind
        unfold f12_steps_b63
        simp only [fI_rA, hn, hm, i32_le (show m < 2147483648 by omega) (show k < 2147483648 by omega), e1, ofNat_clamp (show k < 2147483648 by omega), ofNat_clamp (show 200 * n + k < 2147483648 by omega), rA_uA, i32_succ]
        by_cases hq : m ≤ k
        · rw [if_pos hq, Ok_some, lp_inr]
          exact ⟨r, rfl, fun i hi => r1 i (by omega), r2⟩
        · rw [if_neg hq]
          simp only [inb_n (show k < 200 by omega) (by omega), inb_n (show 200 * n + k < 8000 by omega) (by omega), gd_true, stp]
          rw [Ok_some, lp_inl]
          refine ⟨by omega, _, rfl, fun i hi => ?_, fun i hi => ?_⟩
          · unfold up1
            by_cases e : i = k
            · rw [if_pos (by omega), e]
              rfl
            · rw [if_neg (by omega)]
              exact r1 i (by omega)
          · unfold up1
            rw [if_neg (by omega)]
            exact r2 i hi
      obtain ⟨s, k1, r, rfl, k2, k3⟩ := key (rA (rA (rA (rA μ 2044 (up1 (aI μ 2044) n x)) 2045 (up1 (aI μ 2045) n y)) 2046 (up1 (aI μ 2046) n z)) 2047 (up1 (aI μ 2047) n (Int32.ofNat m))) hn hm
      refine ⟨r, ?_, k2, k3⟩
      have e4 : ∀ r : Nat → Int32, aI (rA μ 2044 r) 2045 = aI μ 2045 := fun _ => rfl
      have e5 : ∀ r r' : Nat → Int32, aI (rA (rA μ 2044 r) 2045 r') 2046 = aI μ 2046 := fun _ _ => rfl
      have e6 : ∀ r r' r'' : Nat → Int32, aI (rA (rA (rA μ 2044 r) 2045 r') 2046 r'') 2047 = aI μ 2047 := fun _ _ _ => rfl
      rw [if_neg hneg, f12_steps, if_neg h0, hn, if_neg (fun w => h4 (e40.mp w))]
      simp only [inb_n (show n < 40 by omega) (by omega), gd_true, stp, ofNat_clamp (show n < 2147483648 by omega), uA_up1, fI_rA, hn, hm, e4, e5, e6]
      rw [f12_steps_j63, k1, bnd_some]
      simp only [stp, fI_rA, hn, i32_succ]
/-- a step of a kind that carries no letters -/
theorem addStep (h : Rel0 σ μ D L B H T) {k a b u v : Int32} (hk : (k = 1 ∧ b = u ∧ -100 ≤ b ∧ b ≤ 100) ∨ (k = 2 ∧ a = u ∧ b = v ∧ 0 ≤ a ∧ a ≤ 4 ∧ -50 ≤ b ∧ b ≤ 50) ∨ k = 3) : ∃ σ' μ', f9_add σ k a b = some σ' ∧ f12_steps μ k u v = some μ' ∧ Rel0 σ' μ' D L B H T := by
  obtain ⟨g, s, m, w, ⟨tn, t1, t2, t3, t4⟩, t5, t6, t7, t8, t9, t10⟩ := id h
  obtain ⟨n, q1, q2, q3, q4, q5, q6⟩ := t9
  obtain ⟨r, r1, r2, r3⟩ := c12_stepsR (μ := μ) q3 q1 t3 t1 (x := k) (y := u) (z := v)
  unfold f9_add f9_add_j16
  rw [r1, q4, q2]
  have e40 : Int32.ofNat n < 40 ↔ ¬ n = 40 := by grind
  by_cases h0 : fI μ 2017 51 = 0
  · rw [if_pos h0, if_pos (Or.inl h0)]
    exact ⟨σ, μ, rfl, rfl, h⟩
  · rw [if_neg h0]
    by_cases h4 : n = 40
    · rw [if_neg (by rw [e40]; exact fun w => w h4), if_pos (Or.inr h4)]
      exact ⟨σ, μ, rfl, rfl, h⟩
    · rw [if_pos (e40.mpr h4), if_neg (by rintro (w | w); exact h0 w; exact h4 w)]
      have e4 : ∀ r : Nat → Int32, aI (rA σ 1993 r) 1994 = aI σ 1994 := fun _ => rfl
      have e5 : ∀ r r' : Nat → Int32, aI (rA (rA σ 1993 r) 1994 r') 1995 = aI σ 1995 := fun _ _ => rfl
      simp only [inb_n (show n < 40 by omega) (by omega), gd_true, stp, ofNat_clamp (show n < 2147483648 by omega), uA_up1, fI_rA, q2, e4, e5, i32_succ]
      refine ⟨_, _, rfl, rfl, h.stp ?_ ?_ ?_ ?_⟩
      · exact Sm.trans (Sm.rA (by omega)) (Sm.trans (Sm.rA (by omega)) (Sm.trans (Sm.rA (by omega)) (Sm.uI (by omega))))
      · intro j hj
        rw [fI_uI, if_pos rfl, if_neg hj]
        rfl
      · intro a ha
        show aI (rA _ 2048 _) a = _
        rw [aI_rA' (by omega), aI_rA' (by omega), aI_rA' (by omega), aI_rA' (by omega), aI_rA' (by omega)]
      · have o1 : ∀ i, i ≠ n → up1 (aI σ 1993) n k i = aI σ 1993 i ∧ up1 (aI μ 2044) n k i = aI μ 2044 i ∧ up1 (aI σ 1994) n a i = aI σ 1994 i ∧ up1 (aI σ 1995) n b i = aI σ 1995 i ∧ up1 (aI μ 2045) n u i = aI μ 2045 i ∧ up1 (aI μ 2046) n v i = aI μ 2046 i ∧ up1 (aI μ 2047) n (Int32.ofNat tn) i = aI μ 2047 i := fun i hi => by
          unfold up1
          rw [if_neg hi, if_neg hi, if_neg hi, if_neg hi, if_neg hi, if_neg hi, if_neg hi]
          exact ⟨rfl, rfl, rfl, rfl, rfl, rfl, rfl⟩
        have o2 : up1 (aI σ 1993) n k n = k ∧ up1 (aI μ 2044) n k n = k ∧ up1 (aI σ 1994) n a n = a ∧ up1 (aI σ 1995) n b n = b ∧ up1 (aI μ 2045) n u n = u ∧ up1 (aI μ 2046) n v n = v := by
          unfold up1
          simp only [if_true, and_self]
        refine ⟨n + 1, by omega, rfl, rfl, q4, q5, fun i hi => ?_⟩
        show up1 (aI σ 1993) n k i = up1 (aI μ 2044) n k i ∧ ((up1 (aI σ 1993) n k i = 0 ∧ ∃ m : Nat, m ≤ 200 ∧ up1 (aI σ 1995) n b i = Int32.ofNat m ∧ up1 (aI μ 2047) n (Int32.ofNat tn) i = Int32.ofNat m ∧ ∀ j, j < m → aI σ 1996 (200 * i + j) = r (200 * i + j) ∧ isLt (r (200 * i + j)) = true) ∨ (up1 (aI σ 1993) n k i = 1 ∧ up1 (aI σ 1995) n b i = up1 (aI μ 2045) n u i ∧ -100 ≤ up1 (aI σ 1995) n b i ∧ up1 (aI σ 1995) n b i ≤ 100) ∨ (up1 (aI σ 1993) n k i = 2 ∧ up1 (aI σ 1994) n a i = up1 (aI μ 2045) n u i ∧ up1 (aI σ 1995) n b i = up1 (aI μ 2046) n v i ∧ 0 ≤ up1 (aI σ 1994) n a i ∧ up1 (aI σ 1994) n a i ≤ 4 ∧ -50 ≤ up1 (aI σ 1995) n b i ∧ up1 (aI σ 1995) n b i ≤ 50) ∨ up1 (aI σ 1993) n k i = 3)
        by_cases e : i = n
        · subst e
          obtain ⟨p1, p2, p3, p4, p5, p6⟩ := o2
          rw [p1, p2, p3, p4, p5, p6]
          exact ⟨rfl, Or.inr hk⟩
        · obtain ⟨p1, p2, p3, p4, p5, p6, p7⟩ := o1 i e
          rw [p1, p2, p3, p4, p5, p6, p7]
          obtain ⟨y1, y2⟩ := q6 i (by omega)
          refine ⟨y1, ?_⟩
          rcases y2 with ⟨z1, m', z2, z3, z4, z5⟩ | z
          · refine Or.inl ⟨z1, m', z2, z3, z4, fun j hj => ?_⟩
            rw [r3 _ (by omega)]
            exact z5 j hj
          · exact Or.inr z
/-- a step of the tape -/
theorem addTyped (h : Rel0 σ μ D L B H T) : ∃ σ' μ', f9_addTyped σ 8 = some σ' ∧ f12_steps μ 0 0 0 = some μ' ∧ Rel0 σ' μ' D L B H T := by
  obtain ⟨g, s, m, w, ⟨tn, t1, t2, t3, t4⟩, t5, t6, t7, t8, t9, t10⟩ := id h
  obtain ⟨n, q1, q2, q3, q4, q5, q6⟩ := t9
  obtain ⟨r, r1, r2, r3⟩ := c12_stepsR (μ := μ) q3 q1 t3 t1 (x := 0) (y := 0) (z := 0)
  unfold f9_addTyped f9_addTyped_j40
  rw [r1, q2, q4, t2]
  have e40 : (40 : Int32) ≤ Int32.ofNat n ↔ n = 40 := by grind
  have f41 : Int32.ofNat n < 40 ↔ ¬ n = 40 := by grind
  by_cases h0 : fI μ 2017 51 = 0
  · rw [if_pos h0, if_pos (Or.inl h0)]
    unfold f9_add f9_add_j16
    rw [q4, if_pos h0, bnd_some]
    exact ⟨σ, μ, rfl, rfl, h⟩
  · rw [if_neg h0]
    by_cases h4 : n = 40
    · rw [if_pos (e40.mpr h4), if_pos (Or.inr h4)]
      unfold f9_add f9_add_j16
      rw [q4, if_neg h0, q2, if_neg (by rw [f41]; exact fun w => w h4), bnd_some]
      exact ⟨σ, μ, rfl, rfl, h⟩
    · rw [if_neg (fun w => h4 (e40.mp w)), if_neg (by rintro (w | w); exact h0 w; exact h4 w)]
      have e2 : Int32.ofNat n * 200 = Int32.ofNat (n * 200) := by grind
      have c1 : cpok (Int32.ofNat 0) (Int32.ofNat (n * 200)) (Int32.ofNat tn) 200 8000 = true := cpok_t (by omega) (by omega) (by omega) (by omega) (by omega)
      have l9 : ln (8 + 1) = 200 := rfl
      have k0 : (0 : Int32).toNatClampNeg = 0 := by decide
      have f1 : fitB (aI σ (8 + 1)) 0 tn = true := fitB_t (fun i hi => by
        rw [Nat.zero_add, (t4 i hi).1]
        have := isLt_in (t4 i hi).2
        grind)
      have c1 : cpok (0 : Int32) (Int32.ofNat (n * 200)) (Int32.ofNat tn) 200 8000 = true := c1
      have e3 : ∀ r : Nat → Int32, aI (rA σ 1996 r) 1993 = aI σ 1993 := fun _ => rfl
      have e4 : ∀ r r' : Nat → Int32, aI (rA (rA σ 1996 r) 1993 r') 1994 = aI σ 1994 := fun _ _ => rfl
      have e5 : ∀ r r' r'' : Nat → Int32, aI (rA (rA (rA σ 1996 r) 1993 r') 1994 r'') 1995 = aI σ 1995 := fun _ _ _ => rfl
      rw [e2, l9, c1, gd_true, k0, ofNat_clamp (show tn < 2147483648 by omega), f1, gd_true, stp, ofNat_clamp (show n * 200 < 2147483648 by omega)]
      unfold f9_add f9_add_j16
      simp only [fI_rA, q4, q2, if_neg h0, if_pos (f41.mpr h4), inb_n (show n < 40 by omega) (by omega), gd_true, stp, ofNat_clamp (show n < 2147483648 by omega), uA_up1, e3, e4, e5, i32_succ, bnd_some, t2]
      refine ⟨_, _, rfl, rfl, h.stp ?_ ?_ ?_ ?_⟩
      · exact Sm.trans (Sm.rA (by omega)) (Sm.trans (Sm.rA (by omega)) (Sm.trans (Sm.rA (by omega)) (Sm.trans (Sm.rA (by omega)) (Sm.uI (by omega)))))
      · intro j hj
        rw [fI_uI, if_pos rfl, if_neg hj]
        rfl
      · intro a ha
        show aI (rA _ 2048 _) a = _
        rw [aI_rA' (by omega), aI_rA' (by omega), aI_rA' (by omega), aI_rA' (by omega), aI_rA' (by omega)]
      · generalize hcp : va_cpy (aI σ 9) (aI σ 1996) 0 (n * 200) tn = cp
        have hc1 : ∀ j, j < tn → cp (200 * n + j) = aI σ 9 j := fun j hj => by
          rw [← hcp]
          show (if n * 200 ≤ 200 * n + j ∧ 200 * n + j < n * 200 + tn then aI σ 9 (0 + (200 * n + j - n * 200)) else aI σ 1996 (200 * n + j)) = _
          rw [if_pos (by omega)]
          congr 1
          omega
        have hc2 : ∀ j, j < 200 * n → cp j = aI σ 1996 j := fun j hj => by
          rw [← hcp]
          show (if n * 200 ≤ j ∧ j < n * 200 + tn then aI σ 9 (0 + (j - n * 200)) else aI σ 1996 j) = _
          rw [if_neg (by omega)]
        have o1 : ∀ i, i ≠ n → up1 (aI σ 1993) n 0 i = aI σ 1993 i ∧ up1 (aI μ 2044) n 0 i = aI μ 2044 i ∧ up1 (aI σ 1994) n 0 i = aI σ 1994 i ∧ up1 (aI σ 1995) n (Int32.ofNat tn) i = aI σ 1995 i ∧ up1 (aI μ 2045) n 0 i = aI μ 2045 i ∧ up1 (aI μ 2046) n 0 i = aI μ 2046 i ∧ up1 (aI μ 2047) n (Int32.ofNat tn) i = aI μ 2047 i := fun i hi => by
          unfold up1
          rw [if_neg hi, if_neg hi, if_neg hi, if_neg hi, if_neg hi, if_neg hi, if_neg hi]
          exact ⟨rfl, rfl, rfl, rfl, rfl, rfl, rfl⟩
        have o2 : up1 (aI σ 1993) n 0 n = 0 ∧ up1 (aI μ 2044) n 0 n = 0 ∧ up1 (aI σ 1995) n (Int32.ofNat tn) n = Int32.ofNat tn ∧ up1 (aI μ 2047) n (Int32.ofNat tn) n = Int32.ofNat tn := by
          unfold up1
          simp only [if_true, and_self]
        refine ⟨n + 1, by omega, rfl, rfl, q4, q5, fun i hi => ?_⟩
        show up1 (aI σ 1993) n 0 i = up1 (aI μ 2044) n 0 i ∧ ((up1 (aI σ 1993) n 0 i = 0 ∧ ∃ m : Nat, m ≤ 200 ∧ up1 (aI σ 1995) n (Int32.ofNat tn) i = Int32.ofNat m ∧ up1 (aI μ 2047) n (Int32.ofNat tn) i = Int32.ofNat m ∧ ∀ j, j < m → cp (200 * i + j) = r (200 * i + j) ∧ isLt (r (200 * i + j)) = true) ∨ (up1 (aI σ 1993) n 0 i = 1 ∧ up1 (aI σ 1995) n (Int32.ofNat tn) i = up1 (aI μ 2045) n 0 i ∧ -100 ≤ up1 (aI σ 1995) n (Int32.ofNat tn) i ∧ up1 (aI σ 1995) n (Int32.ofNat tn) i ≤ 100) ∨ (up1 (aI σ 1993) n 0 i = 2 ∧ up1 (aI σ 1994) n 0 i = up1 (aI μ 2045) n 0 i ∧ up1 (aI σ 1995) n (Int32.ofNat tn) i = up1 (aI μ 2046) n 0 i ∧ 0 ≤ up1 (aI σ 1994) n 0 i ∧ up1 (aI σ 1994) n 0 i ≤ 4 ∧ -50 ≤ up1 (aI σ 1995) n (Int32.ofNat tn) i ∧ up1 (aI σ 1995) n (Int32.ofNat tn) i ≤ 50) ∨ up1 (aI σ 1993) n 0 i = 3)
        by_cases e : i = n
        · subst e
          obtain ⟨p1, p2, p3, p4⟩ := o2
          rw [p1, p2, p3, p4]
          refine ⟨rfl, Or.inl ⟨rfl, tn, t1, rfl, rfl, fun j hj => ?_⟩⟩
          rw [hc1 j hj, r2 j hj]
          exact ⟨(t4 j hj).1, (t4 j hj).2⟩
        · obtain ⟨p1, p2, p3, p4, p5, p6, p7⟩ := o1 i e
          rw [p1, p2, p3, p4, p5, p6, p7]
          obtain ⟨y1, y2⟩ := q6 i (by omega)
          refine ⟨y1, ?_⟩
          rcases y2 with ⟨z1, m', z2, z3, z4, z5⟩ | z
          · refine Or.inl ⟨z1, m', z2, z3, z4, fun j hj => ?_⟩
            rw [r3 _ (by omega), hc2 _ (by omega)]
            exact z5 j hj
          · exact Or.inr z
end R
section R
variable {σ μ : Sto} {o : Int64} {L B H : Nat} {f : Nat → Int32} {n c : Nat} {hd : Nat → Int32} {cu : Nat → Nat} {ma lf ml : Nat → Int32} {T : Hst}
theorem c11_moveLoop (s : SC σ 1 L B H (f, n, hd, c, cu, ma, lf, ml)) (w : (L = 2 ∧ B = 3 ∧ H = 4) ∨ (L = 20 ∧ B = 21 ∧ H = 22)) {t : Nat} (ht : fI σ 0 10 = Int32.ofNat t) (hc : c ≤ 8) (hn : ∀ i, i < c → cu i ≤ n) {g : Nat → Nat} {x y : Int32} (hg : ∀ p, p ≤ n → ∀ σ, FC σ L B H f n hd t → f11_movedPlace σ (Int32.ofNat p) y x = some (Int32.ofNat (g p))) : ∃ r, loopF (fun s_2 => f11_moveAll_b2 y x s_2.1 s_2.2) FU (σ, 0) = some (rA σ 5 r) ∧ SC (rA σ 5 r) 1 L B H (f, n, hd, c, (fun i => g (cu i)), ma, lf, ml) := by
  obtain ⟨s1, ⟨s2, s3, s4, s5⟩, ⟨s6, s7⟩, s8, s9⟩ := s
  have key : Ok (loopF (fun s_2 => f11_moveAll_b2 y x s_2.1 s_2.2) FU (σ, 0)) (fun s => ∃ r, s = rA σ 5 r ∧ ∀ i, i < c → r i = Int32.ofNat (g (cu i))) := by
    refine Ok_count c (fun k s => ∃ r, s = (rA σ 5 r, Int32.ofNat k) ∧ (∀ i, i < k → r i = Int32.ofNat (g (cu i))) ∧ ∀ i, k ≤ i → i < c → r i = Int32.ofNat (cu i)) ?_ 0 ⟨aI σ 5, by rw [rA_self]; rfl, fun i hi => by omega, fun i _ hi => s7 i hi⟩ (by omega) (by (show _ < FU; unfold FU; omega))
    rintro k s hk ⟨r, rfl, r1, r2⟩
    unfold f11_moveAll_b2
    simp only [fI_rA, s6, i32_le (show c < 2147483648 by omega) (show k < 2147483648 by omega), ofNat_clamp (show k < 2147483648 by omega), rA_uA, i32_succ]
    by_cases hq : c ≤ k
    · rw [if_pos hq, Ok_some, lp_inr]
      exact ⟨r, rfl, fun i hi => r1 i (by omega)⟩
    · rw [if_neg hq]
      have hF : FC (rA σ 5 r) L B H f n hd t := ⟨s1.congr rfl rfl (aI_rA' (by omega)) (aI_rA' (by omega)), ⟨s2, s3, s4⟩, fun j hj => by rw [aI_rA' (by omega)]; exact s5 j hj, ht⟩
      have e5 : aI (rA σ 5 r) 5 = r := by rw [aI_rA, if_pos rfl]
      simp only [inb_n (show k < 8 by omega) (by omega), gd_true, e5, r2 k (Nat.le_refl k) (by omega), hg (cu k) (hn k (by omega)) _ hF, bnd_some, stp]
      rw [Ok_some, lp_inl]
      refine ⟨by omega, _, rfl, fun i hi => ?_, fun i h1 h2 => ?_⟩
      · unfold up1
        by_cases e : i = k
        · rw [if_pos e, e]
        · rw [if_neg e]
          exact r1 i (by omega)
      · unfold up1
        rw [if_neg (by omega)]
        exact r2 i (by omega) h2
  obtain ⟨z, k1, r, rfl, k2⟩ := key
  refine ⟨r, k1, s1.congr rfl rfl (aI_rA' (by omega)) (aI_rA' (by omega)), ⟨s2, s3, s4, fun j hj => by rw [aI_rA' (by omega)]; exact s5 j hj⟩, ⟨s6, fun i hi => ?_⟩, fun i hi => ?_, fun i hi => ?_⟩
  · show aI (rA σ 5 r) 5 i = _
    rw [aI_rA, if_pos rfl]
    exact k2 i hi
  · show aI (rA σ 5 r) 6 i = _
    rw [aI_rA' (by omega)]
    exact s8 i hi
  · show aI (rA σ 5 r) 7 i = _
    rw [aI_rA' (by omega)]
    exact s9 i hi
theorem c12_moveLoop (m : SM μ (f, n, hd, c, cu, ma, lf, ml)) {t : Nat} (ht : fI μ 2017 17 = Int32.ofNat t) (hc : c ≤ 8) (hn : ∀ i, i < c → cu i ≤ n) {g : Nat → Nat} {x y : Int32} (hg : ∀ p, p ≤ n → ∀ μ, FM μ f n hd t → f12_movedCursor μ (Int32.ofNat p) y x = some (Int32.ofNat (g p))) : ∃ r, loopF (fun s_2 => f12_movesCursors_b2 y x s_2.1 s_2.2) FU (μ, 0) = some (rA μ 2019 r) ∧ SM (rA μ 2019 r) (f, n, hd, c, (fun i => g (cu i)), ma, lf, ml) := by
  obtain ⟨m1, m2, ⟨m3, m4⟩, m5, m6⟩ := m
  have key : Ok (loopF (fun s_2 => f12_movesCursors_b2 y x s_2.1 s_2.2) FU (μ, 0)) (fun s => ∃ r, s = rA μ 2019 r ∧ ∀ i, i < c → r i = Int32.ofNat (g (cu i))) := by
    refine Ok_count c (fun k s => ∃ r, s = (rA μ 2019 r, Int32.ofNat k) ∧ (∀ i, i < k → r i = Int32.ofNat (g (cu i))) ∧ ∀ i, k ≤ i → i < c → r i = Int32.ofNat (cu i)) ?_ 0 ⟨aI μ 2019, by rw [rA_self]; rfl, fun i hi => by omega, fun i _ hi => m4 i hi⟩ (by omega) (by (show _ < FU; unfold FU; omega))
    rintro k s hk ⟨r, rfl, r1, r2⟩
    unfold f12_movesCursors_b2
    simp only [fI_rA, m3, i32_le (show c < 2147483648 by omega) (show k < 2147483648 by omega), ofNat_clamp (show k < 2147483648 by omega), rA_uA, i32_succ]
    by_cases hq : c ≤ k
    · rw [if_pos hq, Ok_some, lp_inr]
      exact ⟨r, rfl, fun i hi => r1 i (by omega)⟩
    · rw [if_neg hq]
      have hF : FM (rA μ 2019 r) f n hd t := ⟨m1.congr rfl rfl, m2, ht⟩
      have e5 : aI (rA μ 2019 r) 2019 = r := by rw [aI_rA, if_pos rfl]
      simp only [inb_n (show k < 8 by omega) (by omega), gd_true, e5, r2 k (Nat.le_refl k) (by omega), hg (cu k) (hn k (by omega)) _ hF, bnd_some, stp]
      rw [Ok_some, lp_inl]
      refine ⟨by omega, _, rfl, fun i hi => ?_, fun i h1 h2 => ?_⟩
      · unfold up1
        by_cases e : i = k
        · rw [if_pos e, e]
        · rw [if_neg e]
          exact r1 i (by omega)
      · unfold up1
        rw [if_neg (by omega)]
        exact r2 i (by omega) h2
  obtain ⟨z, k1, r, rfl, k2⟩ := key
  refine ⟨r, k1, m1.congr rfl rfl, m2, ⟨m3, fun i hi => ?_⟩, m5, m6⟩
  show aI (rA μ 2019 r) 2019 i = _
  rw [aI_rA, if_pos rfl]
  exact k2 i hi
theorem c12_opensLoop (m : SM μ (f, n, hd, c, cu, ma, lf, ml)) (hE : ends f n < 300) (h0 : hd 0 = 0) (hc : c ≤ 8) (hn : ∀ i, i < c → cu i ≤ n) {x y : Int32} : ∃ μ' h', loopF (fun s_40 => f12_movesCursors_b40 y x s_40.1 s_40.2) FU (μ, 0) = some μ' ∧ isOps hd (ends f n + 1) (fun i => ends f (cu i)) c h' ∧ SM μ' (f, n, h', c, cu, ma, lf, ml) ∧ mfr μ μ' := by
  have key : Ok (loopF (fun s_40 => f12_movesCursors_b40 y x s_40.1 s_40.2) FU (μ, 0)) (fun μ' => ∃ h', isOps hd (ends f n + 1) (fun i => ends f (cu i)) c h' ∧ SM μ' (f, n, h', c, cu, ma, lf, ml) ∧ mfr μ μ') := by
    refine Ok_count c (fun k s => s.2 = Int32.ofNat k ∧ ∃ h', isOps hd (ends f n + 1) (fun i => ends f (cu i)) k h' ∧ SM s.1 (f, n, h', c, cu, ma, lf, ml) ∧ mfr μ s.1) ?_ 0 ⟨rfl, hd, fun _ _ => rfl, m, mfr.rf⟩ (by omega) (by (show _ < FU; unfold FU; omega))
    rintro k ⟨M, y'⟩ hk ⟨e, h', o1, mM, fM⟩
    have e : y' = Int32.ofNat k := e
    subst e
    have mM : SM M (f, n, h', c, cu, ma, lf, ml) := mM
    have fM : mfr μ M := fM
    have mM' := mM
    obtain ⟨m1, m2, ⟨m3, m4⟩, m5, m6⟩ := mM'
    unfold f12_movesCursors_b40
    simp only [m3, i32_le (show c < 2147483648 by omega) (show k < 2147483648 by omega), ofNat_clamp (show k < 2147483648 by omega), i32_succ]
    by_cases hq : c ≤ k
    · rw [if_pos hq, Ok_some, lp_inr]
      have : k = c := by omega
      subst this
      exact ⟨h', o1, mM, fM⟩
    · rw [if_neg hq]
      have hme := ends_mono (f := f) (hn k (by omega))
      obtain ⟨h2, c2, o3⟩ := isOp.ex (h := h') (m := ends f n + 1) (j := ends f (cu k)) (by omega)
      have z0 : h' 0 = 0 := by
        rcases isOps.or o1 0 (by omega) with z | z
        · rw [z, h0]
        · exact z
      obtain ⟨M', p1, p2, p3⟩ := c12_opensAtS mM hE z0 rfl (hn k (by omega)) o3
      simp only [inb_n (show k < 8 by omega) (by omega), gd_true, m4 k (by omega), p1, bnd_some, stp]
      rw [Ok_some, lp_inl]
      exact ⟨by omega, rfl, h2, ⟨h', c2, o1, o3⟩, p2, fM.trans p3⟩
  obtain ⟨μ', k1, h', k2, k3, k4⟩ := key
  exact ⟨μ', h', k1, k2, k3, k4⟩
theorem op_moveCursors (h : Rel σ μ) {y x : Int32} : stH (f11_moveCursors σ y x) [(2, 1)] o (f12_moveCursors μ y x) RQ := by
  obtain ⟨⟨f, n, hd, c, cu, ma, lf, ml⟩, L, B, H, T, h0⟩ := id h
  obtain ⟨g, s, m, w, t1, t2, t3, ⟨⟨t, t4, t5, t6, t7⟩, tv⟩, t8⟩ := id h0
  have hw := w.cells
  unfold f11_moveCursors f11_moveCursors_j21 f12_moveCursors f12_moveCursors_j20
  simp only [c12_in, c12_refuse, bnd_some, ite_tz, decide_eq_true_eq]
  have ey : (0 ≤ y ∧ y ≤ 4) ↔ ¬ y < 0 ∧ ¬ 4 < y := by grind
  have ex : (-50 ≤ x ∧ x ≤ 50) ↔ ¬ x < -50 ∧ x ≤ 50 := by grind
  by_cases hy0 : y < 0
  · rw [if_pos hy0, if_neg (fun z => (ey.mp z).1 hy0)]
    exact stH_er (c := 2) (t := 1) rfl (by decide) (by decide) rfl h
  rw [if_neg hy0]
  by_cases hy4 : 4 < y
  · rw [if_pos hy4, if_neg (fun z => (ey.mp z).2 hy4)]
    exact stH_er (c := 2) (t := 1) rfl (by decide) (by decide) rfl h
  rw [if_neg hy4, if_pos (ey.mpr ⟨hy0, hy4⟩)]
  by_cases hx0 : x < -50
  · rw [if_pos hx0, if_neg (fun z => (ex.mp z).1 hx0)]
    exact stH_er (c := 2) (t := 1) rfl (by decide) (by decide) rfl h
  rw [if_neg hx0]
  by_cases hx5 : x ≤ 50
  · rw [if_pos hx5, if_pos (ex.mpr ⟨hx0, hx5⟩)]
    obtain ⟨q, hq⟩ := mvN.ex (ex.mpr ⟨hx0, hx5⟩).1 hx5
    have hall : ∀ p : Nat, ∃ q, p ≤ n → q ≤ n ∧ (∀ σ, FC σ L B H f n hd t → f11_movedPlace σ (Int32.ofNat p) y x = some (Int32.ofNat q)) ∧ ∀ μ, FM μ f n hd t → f12_movedCursor μ (Int32.ofNat p) y x = some (Int32.ofNat q) := by
      intro p
      by_cases hp : p ≤ n
      · obtain ⟨q, q1, q2⟩ := moved (L := L) (B := B) (H := H) (hd := hd) g.1 g.2.1 t4 t5 hp (ey.mpr ⟨hy0, hy4⟩) hq
        exact ⟨q, fun _ => ⟨q1, q2⟩⟩
      · exact ⟨0, fun z => absurd z hp⟩
    obtain ⟨gg, hgg⟩ := Classical.axiomOfChoice hall
    have hcu := g.2.2.2.2.2.2.2.1
    have hc := g.2.2.2.2.2.1
    obtain ⟨r, r1, r2⟩ := c11_moveLoop s hw t6 hc.2 hcu (g := gg) (fun p hp => (hgg p hp).2.1)
    obtain ⟨u, u1, u2⟩ := c12_moveLoop m t7 hc.2 hcu (g := gg) (fun p hp => (hgg p hp).2.2)
    have hgn : ∀ i, i < c → gg (cu i) ≤ n := fun i hi => (hgg _ (hcu i hi)).1
    obtain ⟨σ1, q', d, h', v1, v2, v3, v4, v5, v6⟩ := c8_settleS r2 hw hc hgn
    obtain ⟨μ1, q2, d2, x1, x2, x3, x4⟩ := c12_ordersS u2 hc (fun i hi => by have := hgn i hi; have := g.1; omega)
    obtain ⟨rfl, hdd⟩ := v2.uniq x2
    have hdn : ∀ i, i < q' → d i ≤ n := fun i hi => by
      obtain ⟨j, hj, e⟩ := (v2.2.2.2 (d i)).mp ⟨i, hi, rfl⟩
      rw [← e]
      exact hgn j hj
    have x3 := x3.cext rfl hdd
    have hq8 : q' ≤ 8 := by have := v2.2.1; omega
    obtain ⟨μ2, h2, y1, y2, y3, y4⟩ := c12_opensLoop x3 g.2.1 g.2.2.2.1 hq8 hdn (x := x) (y := y)
    have hh : ∀ k, k < ends f n + 1 → h2 k = h' k := isOps.uniq y2 v3 (fun i hi => ⟨by have := ends_mono (f := f) (hdn i hi); show ends f (d i) < _; omega, rfl⟩)
    have hR : Rel0 σ1 μ2 (f, n, h', q', d, ma, lf, ml) L B H T := by
      refine h0.sheet (Sm.trans (Sm.rA (fun b hb => nsh_ne hb (by omega))) v5) (mfr.trans (mfr.rA (by omega)) (mfr.trans x4 y4)) ?_ v4 (y3.hext (fun k hk => (hh k (by omega)).symm)) ?_
      · refine g.opened (fun k hk => isOps.or v3 k (by omega)) ⟨v2.1, hq8⟩ v2.2.2.1 hdn (fun i hi => ?_)
        exact isOps.at v3 (fun i hi => by have := ends_mono (f := f) (hdn i hi); show ends f (d i) < _; omega) i hi
      · unfold SW
        rw [v6]
        exact w
    obtain ⟨σ3, μ3, a1, a2, a3⟩ := addStep hR (k := 2) (a := y) (b := x) (u := y) (v := x) (Or.inr (Or.inl ⟨rfl, rfl, rfl, by grind, by grind, by grind, hx5⟩))
    have eC : f11_moveAll σ y x = some σ1 := by
      rw [f11_moveAll, stp, f11_moveAll_j2, r1, bnd_some, v1, bnd_some]
    have eM : f12_movesCursors μ y x = some μ2 := by
      rw [f12_movesCursors, stp, f12_movesCursors_j2, u1, bnd_some, x1, bnd_some, stp, f12_movesCursors_j40, y1, bnd_some]
    rw [eC, bnd_some, a1, bnd_some, eM, bnd_some, a2, bnd_some, c12_told, bnd_some]
    have eS : fI σ3 1 6 = Int32.ofNat q' := a3.2.1.2.2.1.1
    have eT : fI μ3 2017 6 = Int32.ofNat q' := a3.2.2.1.2.2.1.1
    rw [eS, eT]
    exact stH_ok rfl rfl ⟨_, L, B, H, T, a3⟩
  · rw [if_neg hx5, if_neg (fun z => hx5 (ex.mp z).2)]
    exact stH_er (c := 2) (t := 1) rfl (by decide) (by decide) rfl h
end R
