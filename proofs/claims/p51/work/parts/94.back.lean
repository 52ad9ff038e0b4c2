/-! a moment brought back by the class -/
theorem shu_8 : ∀ r : Nat, r < 8 → Int64.toUInt64 (Int32.toInt64 (Int32.ofNat r * 8)) &&& Int64.toUInt64 63 = UInt64.ofNat (8 * r) := by decide +kernel
theorem shu_64 : ∀ r : Nat, r < 64 → Int64.toUInt64 (Int32.toInt64 (Int32.ofNat r)) &&& Int64.toUInt64 63 = UInt64.ofNat r := by decide +kernel
theorem lg_1 {x : Int64} : lg_cmp x 1 = 0 ↔ x = 1 := by
  unfold lg_cmp
  by_cases h : x > 1
  · rw [if_pos h]
    constructor
    · intro z; exact absurd z (by decide)
    · rintro rfl
      exact absurd h (by decide)
  · rw [if_neg h]
    by_cases h2 : x = 1
    · rw [if_pos h2]
      exact ⟨fun _ => h2, fun _ => rfl⟩
    · rw [if_neg h2]
      constructor
      · intro z; exact absurd z (by decide)
      · intro z; exact absurd z h2
theorem isLt_nar {x : Int32} (h : isLt x = true) : vp_nar .byte x = x := by
  have := isLt_in h
  exact (nar_B (x := x) (by grind)).2.1
section R
variable {σ μ S : Sto} {L B H : Nat} {f : Nat → Int32} {n c : Nat} {hd : Nat → Int32} {cu : Nat → Nat} {ma lf ml : Nat → Int32}
theorem c8_findLines (cl : CL L B H) (h1 : fI S 1 1 = Int32.ofNat n) (hr0 : fR S 1 0 = L + 1) (hr2 : fR S 1 2 = B + 1) (hL : ∀ k, k < n → aI S L k = f k) (hn : n ≤ 3000) (hE : ends f n < 300) : ∃ S', f8_findLines S 1 = some S' ∧ CT S' 1 L B f n ∧ Sm (fun a => a ≠ 1 ∧ a ≠ B) S S' ∧ fR S' = fR S ∧ ∀ k, k ≠ 4 → fI S' 1 k = fI S 1 k := by
  have kcs := cl.kcs
  have hB1 : B ≠ 1 ∧ L ≠ 1 ∧ L ≠ B := by
    unfold CL at cl
    omega
  have z0 : (0 : Int32).toNatClampNeg = 0 := by decide
  have key : Ok (loopF (fun s_14 => f8_findLines_b14 1 s_14.1 s_14.2) FU (uI (uA S B 0 0) 1 4 1, 0)) (fun M => Sm (fun a => a ≠ 1 ∧ a ≠ B) S M ∧ fR M = fR S ∧ (∀ k, k ≠ 4 → fI M 1 k = fI S 1 k) ∧ fI M 1 4 = Int32.ofNat (ends f n + 1) ∧ ∀ j, j ≤ ends f n → ∃ p, p ≤ n ∧ isBg f j p ∧ aI M B j = Int32.ofNat p) := by
    refine Ok_count n (fun i s => s.2 = Int32.ofNat i ∧ Sm (fun a => a ≠ 1 ∧ a ≠ B) S s.1 ∧ fR s.1 = fR S ∧ (∀ k, k ≠ 4 → fI s.1 1 k = fI S 1 k) ∧ fI s.1 1 4 = Int32.ofNat (ends f i + 1) ∧ ∀ j, j ≤ ends f i → ∃ p, p ≤ i ∧ isBg f j p ∧ aI s.1 B j = Int32.ofNat p) ?_ 0 ⟨rfl, Sm.trans (Sm.uA (by omega)) (Sm.uI (by omega)), rfl, fun k hk => ?_, rfl, fun j hj => ⟨0, Nat.le_refl _, ?_, ?_⟩⟩ (by omega) (by (show _ < FU; unfold FU; omega))
    · rintro i ⟨M, y⟩ hi ⟨rfl, fM, rM, iM, cM, bM⟩
      have fM : Sm (fun a => a ≠ 1 ∧ a ≠ B) S M := fM
      have rM : fR M = fR S := rM
      have iM : ∀ k, k ≠ 4 → fI M 1 k = fI S 1 k := iM
      have cM : fI M 1 4 = Int32.ofNat (ends f i + 1) := cM
      have bM : ∀ j, j ≤ ends f i → ∃ p, p ≤ i ∧ isBg f j p ∧ aI M B j = Int32.ofNat p := bM
      have hme := ends_mono (f := f) hi
      show Ok (f8_findLines_b14 1 M (Int32.ofNat i)) _
      unfold f8_findLines_b14 f8_findLines_j65
      rw [iM 1 (by decide), h1, cM]
      have e300 : (300 : Int32) ≤ Int32.ofNat (ends f i + 1) ↔ 300 ≤ ends f i + 1 := i32_le (a := 300) (by omega) (by omega)
      simp only [i32_le (show n < 2147483648 by omega) (show i < 2147483648 by omega), e300]
      have done : ends f i = ends f n → Sm (fun a => a ≠ 1 ∧ a ≠ B) S M ∧ fR M = fR S ∧ (∀ k, k ≠ 4 → fI M 1 k = fI S 1 k) ∧ fI M 1 4 = Int32.ofNat (ends f n + 1) ∧ ∀ j, j ≤ ends f n → ∃ p, p ≤ n ∧ isBg f j p ∧ aI M B j = Int32.ofNat p := fun e => ⟨fM, rM, iM, by rw [cM, e], fun j hj => by
        obtain ⟨p, p1, p2, p3⟩ := bM j (by omega)
        exact ⟨p, by omega, p2, p3⟩⟩
      by_cases hq : n ≤ i
      · rw [if_pos hq, Ok_some, lp_inr]
        exact done (by rw [show n = i by omega])
      · rw [if_neg hq]
        by_cases hq2 : 300 ≤ ends f i + 1
        · rw [if_pos hq2, Ok_some, lp_inr]
          exact done (by omega)
        · rw [if_neg hq2, rM, hr0, okr_s.mpr kcs.1, gd_true, Nat.add_sub_cancel, kcs.2.1, inb_n (show i < 3000 by omega) (by omega), gd_true, ofNat_clamp (by omega), (fM L ⟨hB1.2.1, hB1.2.2⟩).2.2.1, hL i (by omega)]
          have hes := ends_succ f i
          by_cases q : f i = 10
          · rw [if_pos q] at hes
            rw [if_pos q, hr2, okr_s.mpr kcs.2.2.1, gd_true, Nat.add_sub_cancel, kcs.2.2.2.1, inb_n (show ends f i + 1 < 300 by omega) (by omega), gd_true, ofNat_clamp (by omega), i32_succ, stp]
            rw [show fI (uA M B (ends f i + 1) (Int32.ofNat (i + 1))) 1 4 = Int32.ofNat (ends f i + 1) from cM, i32_succ, stp, stp, Ok_some, lp_inl]
            refine ⟨by omega, rfl, fM.trans (Sm.trans (Sm.uA (by omega)) (Sm.uI (by omega))), rM, fun k hk => ?_, ?_, fun j hj => ?_⟩
            · show fI (uI (uA M B (ends f i + 1) (Int32.ofNat (i + 1))) 1 4 _) 1 k = _
              rw [fI_uI, if_pos rfl, if_neg hk]
              exact iM k hk
            · show fI (uI (uA M B (ends f i + 1) (Int32.ofNat (i + 1))) 1 4 _) 1 4 = _
              rw [fI_uI, if_pos rfl, if_pos rfl, hes]
            · show ∃ p, p ≤ i + 1 ∧ isBg f j p ∧ aI (uA M B (ends f i + 1) (Int32.ofNat (i + 1))) B j = Int32.ofNat p
              rw [aI_uA, if_pos rfl]
              by_cases e : j = ends f i + 1
              · rw [if_pos e]
                refine ⟨i + 1, Nat.le_refl _, ⟨by rw [hes, e], Or.inr ?_⟩, rfl⟩
                rw [Nat.add_sub_cancel]
                exact q
              · rw [if_neg e]
                obtain ⟨p, p1, p2, p3⟩ := bM j (by omega)
                exact ⟨p, by omega, p2, p3⟩
          · rw [if_neg q] at hes
            rw [if_neg q, i32_succ, stp, Ok_some, lp_inl]
            refine ⟨by omega, rfl, fM, rM, iM, by rw [cM, hes], fun j hj => ?_⟩
            obtain ⟨p, p1, p2, p3⟩ := bM j (by omega)
            exact ⟨p, by omega, p2, p3⟩
    · rw [fI_uI, if_pos rfl, if_neg hk]
      rfl
    · have : j = 0 := Nat.le_zero.mp hj
      rw [this]
      exact ⟨rfl, Or.inl rfl⟩
    · have : j = 0 := Nat.le_zero.mp hj
      rw [this]
      show aI (uA S B 0 0) B 0 = _
      rw [aI_uA, if_pos rfl, if_pos rfl]
      rfl
  obtain ⟨M, k1, fM, rM, iM, cM, bM⟩ := key
  refine ⟨M, ?_, ⟨hn, hE, by rw [iM 1 (by decide)]; exact h1, cM, ⟨by rw [rM]; exact hr0, kcs.1, kcs.2.1⟩, ⟨by rw [rM]; exact hr2, kcs.2.2.1, kcs.2.2.2.1⟩, fun k hk => ?_, bM⟩, fM, rM, iM⟩
  · unfold f8_findLines f8_findLines_j14 f8_findLines_j71
    rw [hr2, okr_s.mpr kcs.2.2.1, gd_true, Nat.add_sub_cancel, kcs.2.2.2.1, show inb 0 300 = true by decide, gd_true, z0, stp, stp, stp, k1, bnd_some]
  · rw [(fM L ⟨hB1.2.1, hB1.2.2⟩).2.2.1]
    exact hL k hk
theorem c5_bringBack {m : Nat} (h : MO σ m (f, n, hd, c, cu, ma, lf, ml)) (g : GD (f, n, hd, c, cu, ma, lf, ml)) (cl : CL L B H) (hm : 27 ≤ m) (hr0 : fR σ 1 0 = L + 1) (hr2 : fR σ 1 2 = B + 1) (hr3 : fR σ 1 3 = H + 1) : ∃ σ', f5_bringBack σ m 1 = some σ' ∧ SC σ' 1 L B H (f, n, hd, c, cu, ma, lf, ml) ∧ Sm (fun a => a ≠ 1 ∧ a ≠ L ∧ a ≠ B ∧ a ≠ H ∧ a ≠ 5 ∧ a ≠ 6 ∧ a ≠ 7) σ σ' ∧ fR σ' = fR σ := by
  obtain ⟨s1, s2, s3, ⟨s4, s5⟩, s6, s7⟩ := h
  obtain ⟨g1, g2, g3, g4, g5, g6, g7, g8, g9, g10, g11⟩ := g
  have kcs := cl.kcs
  have hc0 : (L ≠ 1 ∧ B ≠ 1 ∧ H ≠ 1 ∧ L ≠ B ∧ L ≠ H ∧ B ≠ H) ∧ (L < 27 ∧ B < 27 ∧ H < 27) ∧ (L ≠ 5 ∧ L ≠ 6 ∧ L ≠ 7 ∧ B ≠ 5 ∧ B ≠ 6 ∧ B ≠ 7 ∧ H ≠ 5 ∧ H ≠ 6 ∧ H ≠ 7) := by
    unfold CL at cl
    omega
  obtain ⟨hc1, hc2, hc3⟩ := hc0
  have ed8 : ∀ k, k < 3000 → Int32.ofNat k / (8 : Int32) = Int32.ofNat (k / 8) := fun k hk => i32_div (b := 8) (by omega) (by omega)
  have em8 : ∀ k, k < 3000 → Int32.ofNat k - Int32.ofNat (k / 8) * (8 : Int32) = Int32.ofNat (k % 8) := fun k hk => by rw [← ed8 k hk]; exact i32_mod' (d := 8) (by omega) (by omega)
  have ed64 : ∀ k, k < 3000 → Int32.ofNat k / (64 : Int32) = Int32.ofNat (k / 64) := fun k hk => i32_div (b := 64) (by omega) (by omega)
  have em64 : ∀ k, k < 3000 → Int32.ofNat k - Int32.ofNat (k / 64) * (64 : Int32) = Int32.ofNat (k % 64) := fun k hk => by rw [← ed64 k hk]; exact i32_mod' (d := 64) (by omega) (by omega)
  have key1 : Ok (loopF (fun s_2 => f5_bringBack_b2 m 1 s_2.1 s_2.2) FU (σ, 0)) (fun M => ∃ r, M = rA σ L r ∧ ∀ k, k < n → r k = f k) := by
    refine Ok_count n (fun i s => ∃ r, s = (rA σ L r, Int32.ofNat i) ∧ ∀ k, k < i → r k = f k) ?_ 0 ⟨aI σ L, by rw [rA_self]; rfl, fun k hk => by omega⟩ (by omega) (by (show _ < FU; unfold FU; omega))
    rintro i s hi ⟨r, rfl, r1⟩
    show Ok (f5_bringBack_b2 m 1 (rA σ L r) (Int32.ofNat i)) _
    unfold f5_bringBack_b2
    rw [show fI (rA σ L r) m 1 = Int32.ofNat n from s1]
    simp only [i32_le (show n < 2147483648 by omega) (show i < 2147483648 by omega)]
    by_cases hq : n ≤ i
    · rw [if_pos hq, Ok_some, lp_inr]
      exact ⟨r, rfl, fun k hk => r1 k (by omega)⟩
    · rw [if_neg hq, ed8 i (by omega), em8 i (by omega), shu_8 (i % 8) (by omega), inb_n (show i / 8 < 375 by omega) (by omega), gd_true, show fR (rA σ L r) 1 0 = L + 1 from hr0, okr_s.mpr kcs.1, gd_true, Nat.add_sub_cancel, kcs.2.1, inb_n (show i < 3000 by omega) (by omega), gd_true, ofNat_clamp (by omega), ofNat_clamp (by omega), rA_uA, i32_succ, stp, stp, Ok_some, lp_inl]
      refine ⟨by omega, _, rfl, fun k hk => ?_⟩
      unfold up1
      by_cases e : k = i
      · rw [if_pos e, e]
        show vp_nar .byte (bl (aL σ (m + 1) (i / 8)) (i % 8)) = f i
        rw [s2 i (by omega)]
        exact isLt_nar (g3 i (by omega))
      · rw [if_neg e]
        exact r1 k (by omega)
  obtain ⟨M1, k1, r1, rfl, k2⟩ := key1
  have v1 : fI (rA σ L r1) m 1 = Int32.ofNat n := s1
  obtain ⟨M2, p1, p2, p3, p4, p5⟩ := c8_findLines (S := uI (rA σ L r1) 1 1 (Int32.ofNat n)) cl (by rw [fI_uI, if_pos rfl, if_pos rfl]) hr0 hr2 (fun k hk => by
    show aI (rA σ L r1) L k = f k
    rw [aI_rA, if_pos rfl]
    exact k2 k hk) g1 g2
  have fr2 : Sm (fun a => a ≠ 1 ∧ a ≠ L ∧ a ≠ B) σ M2 := Sm.trans (Sm.rA (by omega)) (Sm.trans (Sm.uI (by omega)) (p3.weak (by omega)))
  have hr3' : fR M2 1 3 = H + 1 := by rw [p4]; exact hr3
  have key2 : Ok (loopF (fun s_55 => f5_bringBack_b55 m 1 s_55.1 s_55.2) FU (M2, 0)) (fun M => ∃ r, M = rA M2 H r ∧ ∀ k, k ≤ ends f n → r k = hd k) := by
    refine Ok_count (ends f n + 1) (fun i s => ∃ r, s = (rA M2 H r, Int32.ofNat i) ∧ ∀ k, k < i → r k = hd k) ?_ 0 ⟨aI M2 H, by rw [rA_self]; rfl, fun k hk => by omega⟩ (by omega) (by (show _ < FU; unfold FU; omega))
    rintro i s hi ⟨r, rfl, r1⟩
    show Ok (f5_bringBack_b55 m 1 (rA M2 H r) (Int32.ofNat i)) _
    unfold f5_bringBack_b55 f5_bringBack_j94
    rw [show fI (rA M2 H r) 1 4 = Int32.ofNat (ends f n + 1) from p2.2.2.2.1]
    simp only [i32_le (show ends f n + 1 < 2147483648 by omega) (show i < 2147483648 by omega)]
    by_cases hq : ends f n + 1 ≤ i
    · rw [if_pos hq, Ok_some, lp_inr]
      exact ⟨r, rfl, fun k hk => r1 k (by omega)⟩
    · rw [if_neg hq, ed64 i (by omega), em64 i (by omega), shu_64 (i % 64) (by omega), inb_n (show i / 64 < 5 by omega) (by omega), gd_true, show fR (rA M2 H r) 1 3 = H + 1 from hr3', okr_s.mpr kcs.2.2.2.2.1, gd_true, gd_true, Nat.add_sub_cancel, kcs.2.2.2.2.2, inb_n (show i < 300 by omega) (by omega), gd_true, gd_true, ofNat_clamp (by omega), ofNat_clamp (by omega), nar_b (Or.inr rfl), nar_b (Or.inl rfl), rA_uA, rA_uA, i32_succ, show aL (rA M2 H r) (m + 2) = aL σ (m + 2) from (fr2 (m + 2) ⟨by omega, by omega, by omega⟩).2.2.2]
      have hv : hb (aL σ (m + 2) (i / 64)) (i % 64) = hd i := s3 i (by omega)
      unfold hb at hv
      simp only [lg_1, stp]
      have fin : ∀ v : Int32, v = hd i → Ok (some (Sum.inl (rA M2 H (up1 r i v), Int32.ofNat (i + 1)) : Sto × Int32 ⊕ Sto)) (lp (fun s' => i + 1 ≤ ends f n + 1 ∧ ∃ r, s' = (rA M2 H r, Int32.ofNat (i + 1)) ∧ ∀ k, k < i + 1 → r k = hd k) (fun M => ∃ r, M = rA M2 H r ∧ ∀ k, k ≤ ends f n → r k = hd k)) := fun v hv => by
        rw [Ok_some, lp_inl]
        refine ⟨by omega, _, rfl, fun k hk => ?_⟩
        unfold up1
        by_cases e : k = i
        · rw [if_pos e, e, hv]
        · rw [if_neg e]
          exact r1 k (by omega)
      by_cases q : UInt64.toInt64 (Int64.toUInt64 (aL σ (m + 2) (i / 64)) >>> UInt64.ofNat (i % 64)) &&& 1 = 1
      · rw [if_pos q] at hv
        rw [if_pos q]
        exact fin 1 hv
      · rw [if_neg q] at hv
        rw [if_neg q]
        exact fin 0 hv
  obtain ⟨M3, k3, r3, rfl, k4⟩ := key2
  have p3' : cpok (0 : Int32) (0 : Int32) (8 : Int32) 8 8 = true := by decide
  have p4' : cpok (0 : Int32) (0 : Int32) (16 : Int32) 16 16 = true := by decide
  have z0 : (0 : Int32).toNatClampNeg = 0 := by decide
  have z8 : (8 : Int32).toNatClampNeg = 8 := by decide
  have z16 : (16 : Int32).toNatClampNeg = 16 := by decide
  have fr3 : Sm (fun a => a ≠ 1 ∧ a ≠ L ∧ a ≠ B ∧ a ≠ H) σ (rA M2 H r3) := (fr2.weak (by omega)).trans (Sm.rA (by omega))
  have rr3 : fR (rA M2 H r3) = fR σ := p4
  have H3 : aI (rA M2 H r3) H = r3 := by rw [aI_rA, if_pos rfl]
  have CT3 : CT (rA M2 H r3) 1 L B f n := p2.congr rfl rfl (aI_rA' hc1.2.2.2.2.1) (aI_rA' hc1.2.2.2.2.2)
  unfold f5_bringBack f5_bringBack_j2 f5_bringBack_j55
  rw [stp, k1, bnd_some, v1, stp, p1, bnd_some, stp, k3, bnd_some]
  generalize rA M2 H r3 = N at fr3 rr3 H3 CT3
  simp only [p3', p4', z0, z8, z16, gd_true, stp]
  generalize hA : rA N (1 + 4) (va_cpy (aI N (m + 3)) (aI N (1 + 4)) 0 0 8) = A
  have A1 : aI A 5 = va_cpy (aI N (m + 3)) (aI N 5) 0 0 8 := by rw [← hA, aI_rA, if_pos rfl]
  have A2 : ∀ b, b ≠ 5 → aI A b = aI N b := fun b hb => by rw [← hA, aI_rA' hb]
  have A3 : fI A = fI N ∧ fR A = fR N := by rw [← hA]; exact ⟨rfl, rfl⟩
  have A4 : Sm (fun a => a ≠ 5) N A := by rw [← hA]; exact Sm.rA (by omega)
  generalize hB : rA A (1 + 5) (va_cpy (aI A (m + 4)) (aI A (1 + 5)) 0 0 16) = B'
  have B1 : aI B' 6 = va_cpy (aI A (m + 4)) (aI A 6) 0 0 16 := by rw [← hB, aI_rA, if_pos rfl]
  have B2 : ∀ b, b ≠ 6 → aI B' b = aI A b := fun b hb => by rw [← hB, aI_rA' hb]
  have B3 : fI B' = fI A ∧ fR B' = fR A := by rw [← hB]; exact ⟨rfl, rfl⟩
  have B4 : Sm (fun a => a ≠ 6) A B' := by rw [← hB]; exact Sm.rA (by omega)
  have hN : ∀ d, 3 ≤ d → d ≤ 5 → aI N (m + d) = aI σ (m + d) := fun d d1 d2 => (fr3 (m + d) ⟨by omega, by omega, by omega, by omega⟩).2.2.1
  have hfit : fitZ (aI B' (m + 5)) 0 16 = true := by
    unfold fitZ
    rw [decide_eq_true_eq]
    intro i hi
    rw [Nat.zero_add, B2 _ (by omega), A2 _ (by omega), hN 5 (by omega) (by omega), s7 i hi]
    exact (g11 i hi).1
  rw [hfit, gd_true]
  generalize hC : rA B' (1 + 6) (va_cpy (aI B' (m + 5)) (aI B' (1 + 6)) 0 0 16) = C
  have C1 : aI C 7 = va_cpy (aI B' (m + 5)) (aI B' 7) 0 0 16 := by rw [← hC, aI_rA, if_pos rfl]
  have C2 : ∀ b, b ≠ 7 → aI C b = aI B' b := fun b hb => by rw [← hC, aI_rA' hb]
  have C3 : fI C = fI B' ∧ fR C = fR B' := by rw [← hC]; exact ⟨rfl, rfl⟩
  have C4 : Sm (fun a => a ≠ 7) B' C := by rw [← hC]; exact Sm.rA (by omega)
  have fC : fI C = fI N := by rw [C3.1, B3.1, A3.1]
  have rC : fR C = fR N := by rw [C3.2, B3.2, A3.2]
  have m4 : fI C m 4 = Int32.ofNat c := by rw [fC, (fr3 m ⟨by omega, by omega, by omega, by omega⟩).1]; exact s4
  have aC : ∀ b, b ≠ 5 → b ≠ 6 → b ≠ 7 → aI C b = aI N b := fun b b1 b2 b3 => by rw [C2 b b3, B2 b b2, A2 b b1]
  rw [m4]
  have ct4 : CT (uI C 1 6 (Int32.ofNat c)) 1 L B f n := CT.uI (CT3.congr (by rw [fC]) (by rw [rC]) (aC L hc3.1 hc3.2.1 hc3.2.2.1) (aC B hc3.2.2.2.1 hc3.2.2.2.2.1 hc3.2.2.2.2.2.1)) (by decide) (by decide)
  refine ⟨_, rfl, ⟨ct4, ⟨?_, kcs.2.2.2.2.1, kcs.2.2.2.2.2, fun j hj => ?_⟩, ⟨?_, fun k hk => ?_⟩, fun k hk => ?_, fun k hk => ?_⟩, ?_, ?_⟩
  · show fR C 1 3 = _
    rw [rC, rr3]
    exact hr3
  · show aI C H j = hd j
    rw [aC H hc3.2.2.2.2.2.2.1 hc3.2.2.2.2.2.2.2.1 hc3.2.2.2.2.2.2.2.2, H3]
    exact k4 j hj
  · rw [fI_uI, if_pos rfl, if_pos rfl]
  · show aI C 5 k = _
    rw [C2 5 (by decide), B2 5 (by decide), A1, cpy_at (by omega), Nat.zero_add, hN 3 (by omega) (by omega)]
    exact s5 k hk
  · show aI C 6 k = _
    rw [C2 6 (by decide), B1, cpy_at (by omega), Nat.zero_add, A2 _ (by omega), hN 4 (by omega) (by omega)]
    exact s6 k hk
  · show aI C 7 k = _
    rw [C1, cpy_at (by omega), Nat.zero_add, B2 _ (by omega), A2 _ (by omega), hN 5 (by omega) (by omega)]
    exact s7 k hk
  · exact (fr3.weak (by omega)).trans ((A4.weak (by omega)).trans ((B4.weak (by omega)).trans ((C4.weak (by omega)).trans (Sm.uI (by omega)))))
  · show fR C = fR σ
    rw [rC, rr3]
end R
