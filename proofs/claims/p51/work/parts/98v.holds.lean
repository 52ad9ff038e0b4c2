/-! the law's holds -/
section HO
variable {τ x : LawS} {f : Nat → Int32} {n c : Nat} {hd : Nat → Int32} {cu : Nat → Nat} {ma lf ml : Nat → Int32}
theorem i35 {k : Nat} (h : k < 3500) : inb (Int32.ofNat k) 3500 = true := inb_n h (by omega)
theorem holds_370 (h : OB x.2 (f, n, hd, c, cu, ma, lf, ml)) : ∃ x', fL_holds_j370 x (Int32.ofNat n) 1 = some (1, x') ∧ x'.2 = x.2 ∧ FR (fun b => b ≠ 0) x x' := by
  have hn := h.1.1
  unfold fL_holds_j370
  obtain ⟨v, z, x1, d1, d2, d3, d4, d5⟩ := nextm x (n + 1) (by omega) (by omega)
  have d3 : z - z / (Int32.ofNat n + 1) * (Int32.ofNat n + 1) = Int32.ofNat v := by rw [i32_succ]; exact d3
  have nz2 : nz (Int32.ofNat n + 1) = true := nz_iff.mpr (fun z => by rw [i32_succ] at z; have := (ofNat_z0 (by omega)).mp z; omega)
  have h1 : OB x1.2 (f, n, hd, c, cu, ma, lf, ml) := by rw [d4]; exact h
  obtain ⟨w, w1, w2, w3⟩ := ob_column h1 (p := v) (by omega)
  rw [d2, bnd_some, nz2, gd_true, d3, stp, if_neg (show ¬ (1 : Int32) = 0 by decide), ob_line h1 (by omega), nox_inl, bnd_some, w2, nox_inl, bnd_some, w3, nox_inl, bnd_some, if_pos rfl]
  exact ⟨_, rfl, d4, d5⟩
theorem holds_marks (h : OB x.2 (f, n, hd, c, cu, ma, lf, ml)) (s : SR (x.1 42) (f, n, hd, c, cu, ma, lf, ml)) : ∃ x', fL_holds_j320 x (Int32.ofNat n) 1 = some (1, x') ∧ x'.2 = x.2 ∧ FR (fun b => b ≠ 0) x x' := by
  have hn := h.1.1
  have hm := h.1.2.2.2.2.2.2.2.2.2.1
  have l1 : loopF (fun s_323 => fL_holds_b323 x (Int32.ofNat n) s_323.1 s_323.2) FU (1, 0) = some 1 := by
    apply Ok_eq
    refine Ok_count 16 (fun k z => z = (1, Int32.ofNat k)) ?_ 0 rfl (Nat.zero_le _) (by (show _ < FU; unfold FU; omega))
    rintro k z hk rfl
    show Ok (fL_holds_b323 x (Int32.ofNat n) 1 (Int32.ofNat k)) _
    unfold fL_holds_b323
    have e16 : (16 : Int32) ≤ Int32.ofNat k ↔ 16 ≤ k := i32_le (a := 16) (by omega) (by omega)
    simp only [e16]
    by_cases q : 16 ≤ k
    · rw [if_pos q, Ok_some, lp_inr]
    · have e5 : (10 : Int32) + Int32.ofNat k = Int32.ofNat (10 + k) := i32_add (p := 10)
      rw [if_neg q, if_neg (show ¬ (1 : Int32) = 0 by decide), e5, i35 (by omega), gd_true, gd_true, ofNat_clamp (by omega), s.2.2.2.1 k (by omega)]
      have hlt : ¬ ma k < -1 ∧ ¬ Int32.ofNat n < ma k := by
        rcases hm k (by omega) with e | ⟨p, p1, p2⟩
        · rw [e]
          exact ⟨by decide, by grind⟩
        · rw [p2]
          exact ⟨by grind, fun w => by have := (i32n_lt (by omega) (by omega)).mp w; omega⟩
      rw [if_neg hlt.1, if_neg hlt.2]
      unfold fL_holds_j362
      rw [stp, stp, Ok_some, lp_inl, i32_succ]
      exact ⟨by omega, rfl⟩
  unfold fL_holds_j320
  rw [stp]
  unfold fL_holds_j323
  rw [l1, bnd_some]
  exact holds_370 h
theorem holds_cur (h : OB x.2 (f, n, hd, c, cu, ma, lf, ml)) (s : SR (x.1 42) (f, n, hd, c, cu, ma, lf, ml)) : ∃ x', fL_holds_j232 x (Int32.ofNat n) 1 = some (1, x') ∧ x'.2 = x.2 ∧ FR (fun b => b ≠ 0) x x' := by
  obtain ⟨g1, g2, g3, g4, g5, g6, g7, g8, g9, g10, g11⟩ := h.1
  have l1 : loopF (fun s_237 => fL_holds_b237 s_237.1 (Int32.ofNat n) s_237.2.1 s_237.2.2) FU (x, 1, 0) = some (x, 1) := by
    apply Ok_eq
    refine Ok_count c (fun k z => z = (x, 1, Int32.ofNat k)) ?_ 0 rfl (Nat.zero_le _) (by (show _ < FU; unfold FU; omega))
    rintro k z hk rfl
    show Ok (fL_holds_b237 x (Int32.ofNat n) 1 (Int32.ofNat k)) _
    unfold fL_holds_b237
    have c1 : (1 : Int32).toNatClampNeg = 1 := by decide
    have i1 : inb (1 : Int32) 3500 = true := by decide
    rw [i1, gd_true, c1, s.2.1]
    by_cases q : c ≤ k
    · rw [if_pos ((i32_le (by omega) (by omega)).mpr q), Ok_some, lp_inr]
    · have hcn := g8 k (by omega)
      have e5 : (2 : Int32) + Int32.ofNat k = Int32.ofNat (2 + k) := i32_add (p := 2)
      have e6 : (1 : Int32) + Int32.ofNat k = Int32.ofNat (1 + k) := i32_add (p := 1)
      have tail : Ok (fL_holds_j289 (Int32.ofNat n) x (Int32.ofNat k)) (lp (fun s' => k + 1 ≤ c ∧ s' = (x, 1, Int32.ofNat (k + 1))) (fun v => v = (x, 1))) := by
        have hle := ends_mono (f := f) hcn
        unfold fL_holds_j289
        have e7 : (30 : Int32) + Int32.ofNat (ends f (cu k)) = Int32.ofNat (30 + ends f (cu k)) := i32_add (p := 30)
        rw [e5, i35 (by omega), gd_true, ofNat_clamp (by omega), s.2.2.1 k (by omega), ob_line h hcn, nox_inl, bnd_some, e7, i35 (by omega), gd_true, ofNat_clamp (by omega), s.2.2.2.2.2.1 _ hle, if_pos (g9 k (by omega))]
        unfold fL_holds_j312
        rw [stp, stp, Ok_some, lp_inl, i32_succ]
        exact ⟨by omega, rfl⟩
      rw [if_neg (fun z => q ((i32_le (by omega) (by omega)).mp z)), if_neg (show ¬ (1 : Int32) = 0 by decide), e5, i35 (by omega), gd_true, gd_true, gd_true, ofNat_clamp (by omega), s.2.2.1 k (by omega), if_neg (i32_lt0 (by omega)), if_neg (fun w => by have := (i32n_lt (by omega) (by omega)).mp w; omega)]
      by_cases q0 : Int32.ofNat k = 0
      · rw [if_pos q0]
        exact tail
      · have hk0 : k ≠ 0 := fun e => q0 (by rw [e]; rfl)
        have hlt := g7 (k - 1) k (by omega) (by omega)
        have e8 : x.1 42 (1 + k) = Int32.ofNat (cu (k - 1)) := by
          have := s.2.2.1 (k - 1) (by omega)
          rw [show 2 + (k - 1) = 1 + k by omega] at this
          exact this
        rw [if_neg q0, e6, i35 (by omega), gd_true, ofNat_clamp (by omega), e8, if_neg (fun w => by have := (i32_le (by omega) (by omega)).mp w; omega)]
        exact tail
  unfold fL_holds_j232
  rw [stp, stp]
  unfold fL_holds_j237
  rw [l1, bnd_some]
  exact holds_marks h s
theorem holds_hid (h : OB x.2 (f, n, hd, c, cu, ma, lf, ml)) (s : SR (x.1 42) (f, n, hd, c, cu, ma, lf, ml)) : ∃ x', fL_holds_j180 x (Int32.ofNat n) 0 1 = some (1, x') ∧ x'.2 = x.2 ∧ FR (fun b => b ≠ 0) x x' := by
  have g2 := h.1.2.1
  have g5 := h.1.2.2.2.2.1
  have l1 : loopF (fun s_185 => fL_holds_b185 x (Int32.ofNat n) s_185.1 1 s_185.2) FU (0, 0) = some (Int32.ofNat (cn hd (ends f n + 1))) := by
    apply Ok_eq
    refine Ok_count (ends f n + 1) (fun k z => z = (Int32.ofNat (cn hd k), Int32.ofNat k)) ?_ 0 rfl (Nat.zero_le _) (by (show _ < FU; unfold FU; omega))
    rintro k z hk rfl
    show Ok (fL_holds_b185 x (Int32.ofNat n) (Int32.ofNat (cn hd k)) 1 (Int32.ofNat k)) _
    unfold fL_holds_b185
    have c1 : (26 : Int32).toNatClampNeg = 26 := by decide
    have i1 : inb (26 : Int32) 3500 = true := by decide
    rw [i1, gd_true, c1, s.2.2.2.2.1]
    by_cases q : ends f n + 1 ≤ k
    · rw [if_pos ((i32_le (by omega) (by omega)).mpr q), Ok_some, lp_inr, show ends f n + 1 = k by omega]
    · have e5 : (30 : Int32) + Int32.ofNat k = Int32.ofNat (30 + k) := i32_add (p := 30)
      rw [if_neg (fun z => q ((i32_le (by omega) (by omega)).mp z)), e5, i35 (by omega), gd_true, ofNat_clamp (by omega), s.2.2.2.2.2.1 k (by omega), stp, stp, Ok_some, lp_inl, i32_succ]
      refine ⟨by omega, ?_⟩
      rw [cn]
      rcases g5 k (by omega) with e | e
      · rw [e, if_pos rfl, Int32.add_zero]
        rfl
      · rw [e, if_neg (by decide), i32_succ]
  unfold fL_holds_j180
  rw [stp, stp]
  unfold fL_holds_j185
  rw [l1, bnd_some, if_neg (show ¬ (1 : Int32) = 0 by decide), ob_c4 h, nox_inl, bnd_some, if_pos rfl]
  exact holds_cur h s
theorem holds_lines (h : OB x.2 (f, n, hd, c, cu, ma, lf, ml)) (s : SR (x.1 42) (f, n, hd, c, cu, ma, lf, ml)) : ∃ x', fL_holds_j50 x (Int32.ofNat n) 0 0 1 = some (1, x') ∧ x'.2 = x.2 ∧ FR (fun b => b ≠ 0) x x' := by
  have g1 := h.1.1
  have g2 := h.1.2.1
  have l1 : loopF (fun s_55 => fL_holds_b55 s_55.1 (Int32.ofNat n) s_55.2.1 0 s_55.2.2.1 s_55.2.2.2) FU (x, 0, 1, 0) = some (x, Int32.ofNat (ends f n), 1) := by
    apply Ok_eq
    refine Ok_count (n + 1) (fun k z => z = (x, Int32.ofNat (ends f (min k n)), 1, Int32.ofNat k)) ?_ 0 (by rw [Nat.zero_min]; rfl) (Nat.zero_le _) (by (show _ < FU; unfold FU; omega))
    rintro k z hk rfl
    show Ok (fL_holds_b55 x (Int32.ofNat n) (Int32.ofNat (ends f (min k n))) 0 1 (Int32.ofNat k)) _
    unfold fL_holds_b55
    by_cases q : n < k
    · rw [if_pos ((i32n_lt (by omega) (by omega)).mpr q), Ok_some, lp_inr, show min k n = n by omega]
    · have ek : min k n = k := by omega
      have c400 : (400 : Int32) + Int32.ofNat k = Int32.ofNat (400 + k) := i32_add (p := 400)
      have tail : Ok (fL_holds_j117 (Int32.ofNat n) 0 x (Int32.ofNat (ends f k)) (Int32.ofNat k)) (lp (fun s' => k + 1 ≤ n + 1 ∧ s' = (x, Int32.ofNat (ends f (min (k + 1) n)), 1, Int32.ofNat (k + 1))) (fun v => v = (x, Int32.ofNat (ends f n), 1))) := by
        unfold fL_holds_j117 fL_holds_j122
        rw [stp]
        by_cases q1 : n ≤ k
        · rw [if_pos ((i32_le (by omega) (by omega)).mpr q1)]
          unfold fL_holds_j149 fL_holds_j150
          rw [stp, stp, Ok_some, lp_inl, i32_succ, show min (k + 1) n = k by omega, Int32.add_zero]
          exact ⟨by omega, rfl⟩
        · rw [if_neg (fun z => q1 ((i32_le (by omega) (by omega)).mp z)), c400, i35 (by omega), gd_true, ofNat_clamp (by omega), s.2.2.2.2.2.2 k (by omega), show min (k + 1) n = k + 1 by omega]
          have hs : ends f (k + 1) = ends f k + (if f k = 10 then 1 else 0) := rfl
          by_cases q2 : f k = 10
          · rw [if_pos q2] at hs ⊢
            unfold fL_holds_j150
            rw [stp, stp, Ok_some, lp_inl, i32_succ, i32_succ, hs]
            exact ⟨by omega, rfl⟩
          · rw [if_neg q2] at hs ⊢
            unfold fL_holds_j149 fL_holds_j150
            rw [stp, stp, Ok_some, lp_inl, i32_succ, hs, Int32.add_zero, Nat.add_zero]
            exact ⟨by omega, rfl⟩
      rw [if_neg (fun z => q ((i32n_lt (by omega) (by omega)).mp z)), if_neg (show ¬ (1 : Int32) = 0 by decide), ek, show Int32.ofNat k - Int32.ofNat k / (7 : Int32) * (7 : Int32) = Int32.ofNat (k % 7) from i32_mod' (d := 7) (by omega) (by omega)]
      by_cases q3 : (0 : Int32) < Int32.ofNat (k % 7)
      · rw [if_pos q3]
        exact tail
      · rw [if_neg q3, ob_line h (by omega), nox_inl, bnd_some, if_pos rfl]
        have beg : isBg f (ends f k) k → Ok (fL_holds_j105 (Int32.ofNat n) 0 (x.1, x.2) (Int32.ofNat (ends f k)) (Int32.ofNat k)) (lp (fun s' => k + 1 ≤ n + 1 ∧ s' = (x, Int32.ofNat (ends f (min (k + 1) n)), 1, Int32.ofNat (k + 1))) (fun v => v = (x, Int32.ofNat (ends f n), 1))) := fun hb => by
          unfold fL_holds_j105
          rw [ob_begin (show OB (x.1, x.2).2 _ from h) (by omega) hb, nox_inl, bnd_some, if_pos rfl]
          exact tail
        by_cases q4 : Int32.ofNat k ≤ 0
        · have hk0 := (i32_le0 (by omega)).mp q4
          rw [if_pos q4]
          exact beg ⟨rfl, Or.inl hk0⟩
        · have hk0 : k ≠ 0 := fun e => q4 (by rw [e]; decide)
          have e9 : (400 : Int32) + Int32.ofNat k - (1 : Int32) = Int32.ofNat (400 + (k - 1)) := by
            rw [c400, show (1 : Int32) = Int32.ofNat 1 from rfl, i32_sub (by omega), show 400 + k - 1 = 400 + (k - 1) by omega]
          rw [if_neg q4, e9, i35 (by omega), gd_true, ofNat_clamp (by omega), s.2.2.2.2.2.2 (k - 1) (by omega)]
          by_cases q5 : f (k - 1) = 10
          · rw [if_pos q5]
            exact beg ⟨rfl, Or.inr q5⟩
          · rw [if_neg q5]
            exact tail
  unfold fL_holds_j50
  rw [stp, stp]
  unfold fL_holds_j55
  rw [l1, bnd_some]
  show ∃ x', fL_holds_j159 x (Int32.ofNat n) (Int32.ofNat (ends f n)) 0 1 = _ ∧ _
  unfold fL_holds_j159
  have c1 : (26 : Int32).toNatClampNeg = 26 := by decide
  have i1 : inb (26 : Int32) 3500 = true := by decide
  rw [if_neg (show ¬ (1 : Int32) = 0 by decide), i1, gd_true, c1, s.2.2.2.2.1, i32_succ, if_pos rfl]
  exact holds_hid h s
theorem holds_ok (h : OB τ.2 (f, n, hd, c, cu, ma, lf, ml)) : ∃ x', fL_holds τ = some (1, x') ∧ x'.2 = τ.2 ∧ FR (fun b => b ≠ 0 ∧ b ≠ 42) τ x' := by
  obtain ⟨x, k1, k2, k3, k4⟩ := sees_ok (a1 := 42) (by decide) h
  have g1 := h.1.1
  have g6 := h.1.2.2.2.2.2.1
  have hx : OB x.2 (f, n, hd, c, cu, ma, lf, ml) := by rw [k2]; exact h
  obtain ⟨x', m1, m2, m3⟩ := holds_lines hx k4
  refine ⟨x', ?_, m2.trans k2, (k3.weak (fun b hb => hb.2)).trans (m3.weak (fun b hb => hb.1))⟩
  have c0 : (0 : Int32).toNatClampNeg = 0 := by decide
  have i0 : inb (0 : Int32) 3500 = true := by decide
  have c1 : (1 : Int32).toNatClampNeg = 1 := by decide
  have i1 : inb (1 : Int32) 3500 = true := by decide
  have hh : f11_isHidden x.2 0 = _ := ob_hidden hx (j := 0) (Nat.zero_le _)
  unfold fL_holds
  rw [k1, bnd_some, i0, gd_true, c0, k4.1, stp, stp, stp, if_neg (fun w => by have := (i32n_lt (a := 3000) (by omega) (by omega)).mp w; omega), hh, nox_inl, bnd_some, if_pos h.1.2.2.2.1, i1, gd_true, gd_true, c1, k4.2.1, if_neg (fun w => by have w : Int32.ofNat c < Int32.ofNat 1 := w; have := (i32n_lt (by omega) (by omega)).mp w; omega), if_neg (fun w => by have := (i32n_lt (a := 8) (by omega) (by omega)).mp w; omega)]
  exact m1
end HO
