/-! like what was seen -/
section S
variable {τ : LawS} {a1 : Nat} {f : Nat → Int32} {n c : Nat} {hd : Nat → Int32} {cu : Nat → Nat} {ma lf ml : Nat → Int32}
theorem like_eq {r s : Nat → Int32} {E : Doc} (hr : SR r (f, n, hd, c, cu, ma, lf, ml)) (hs : SR s E) (v : VI (f, n, hd, c, cu, ma, lf, ml) E) (hc : c ≤ 8) : (s 0 = Int32.ofNat n ∧ s 1 = Int32.ofNat c ∧ s 26 = Int32.ofNat (ends f n + 1)) ∧ (r 0 = s 0 ∧ r 1 = s 1 ∧ r 26 = s 26) ∧ (∀ k, k < 2 + c → r k = s k) ∧ (∀ k, 10 ≤ k → k < 30 + (ends f n + 1) → k ≠ 27 → k ≠ 28 → k ≠ 29 → r k = s k) ∧ ∀ k, k < n → r (400 + k) = s (400 + k) := by
  obtain ⟨f', n', hd', c', cu', ma', lf', ml'⟩ := E
  obtain ⟨r0, r1, r2, r3, r4, r5, r6⟩ := hr
  obtain ⟨s0, s1, s2, s3, s4, s5, s6⟩ := hs
  obtain ⟨v1, v2, v3, v4, v5, v6⟩ := v
  subst v1 v4
  have he : ends f' n' = ends f n' := ends_congr v2 (Nat.le_refl _)
  rw [he] at s4 s5
  refine ⟨⟨s0, s1, s4⟩, ⟨r0.trans s0.symm, r1.trans s1.symm, r4.trans s4.symm⟩, fun k hk => ?_, fun k h1 h2 h3 h4 h5 => ?_, fun k hk => by rw [r6 k hk, s6 k hk, v2 k hk]⟩
  · match k, hk with
    | 0, _ => rw [r0, s0]
    | 1, _ => rw [r1, s1]
    | k + 2, hk => rw [show k + 2 = 2 + k by omega, r2 k (by omega), s2 k (by omega), v5 k (by omega)]
  · by_cases q : k < 26
    · obtain ⟨j, rfl⟩ : ∃ j, k = 10 + j := ⟨k - 10, by omega⟩
      rw [r3 j (by omega), s3 j (by omega), v6 j (by omega)]
    · by_cases q2 : k = 26
      · rw [q2, r4, s4]
      · obtain ⟨j, rfl⟩ : ∃ j, k = 30 + j := ⟨k - 30, by omega⟩
        rw [r5 j (by omega), s5 j (by omega), v3 j (by omega)]
theorem isLike_ok {E : Doc} (ha : lq a1 = 3500) (h42 : a1 ≠ 42) (h : OB τ.2 (f, n, hd, c, cu, ma, lf, ml)) (hs : SR (τ.1 a1) E) (v : VI (f, n, hd, c, cu, ma, lf, ml) E) : ∃ x, fL_isLike τ a1 = some (1, x) ∧ x.2 = τ.2 ∧ FR (fun b => b ≠ 42) τ x ∧ SR (x.1 42) (f, n, hd, c, cu, ma, lf, ml) := by
  obtain ⟨x, x1, x2, x3, x4⟩ := sees_ok (a1 := 42) (by decide) h
  refine ⟨x, ?_, x2, x3, x4⟩
  have hn : n ≤ 3000 := h.1.1
  have hE : ends f n < 300 := h.1.2.1
  have hc := h.1.2.2.2.2.2.1
  have hs : SR (x.1 a1) E := by rw [x3 a1 h42]; exact hs
  obtain ⟨⟨s0, s1, s26⟩, ⟨q0, q1, q26⟩, q2, q3, q4⟩ := like_eq x4 hs v hc.2
  have j0 : inb (0 : Int32) (lq a1) = true := i_35 (k := 0) ha (by omega)
  have j1 : inb (1 : Int32) (lq a1) = true := i_35 (k := 1) ha (by omega)
  have j26 : inb (26 : Int32) (lq a1) = true := i_35 (k := 26) ha (by omega)
  have c0 : (0 : Int32).toNatClampNeg = 0 := by decide
  have c1 : (1 : Int32).toNatClampNeg = 1 := by decide
  have c26 : (26 : Int32).toNatClampNeg = 26 := by decide
  have i0 : inb (0 : Int32) 3500 = true := by decide
  have i1 : inb (1 : Int32) 3500 = true := by decide
  have i26 : inb (26 : Int32) 3500 = true := by decide
  have l1 : loopF (fun s_38 => fL_isLike_b38 a1 x s_38) FU 0 = some (Sum.inl ()) := by
    apply Ok_eq
    refine Ok_count (2 + c) (fun k z => z = Int32.ofNat k) ?_ 0 rfl (Nat.zero_le _) (by (show _ < FU); unfold FU; omega)
    rintro k z hk rfl
    show Ok (fL_isLike_b38 a1 x (Int32.ofNat k)) _
    unfold fL_isLike_b38
    have e5 : (2 : Int32) + Int32.ofNat c = Int32.ofNat (2 + c) := i32_add (p := 2)
    rw [j1, gd_true, c1, s1, e5]
    by_cases q : 2 + c ≤ k
    · rw [if_pos ((i32_le (by omega) (by omega)).mpr q), Ok_some, lp_inr]
    · rw [if_neg (fun z => q ((i32_le (by omega) (by omega)).mp z)), inb_n (show k < 3500 by omega) (by omega), gd_true, i_35 ha (show k < 3500 by omega), gd_true, ofNat_clamp (by omega), if_pos (q2 k (by omega)), stp, i32_succ, Ok_some, lp_inl]
      exact ⟨by omega, rfl⟩
  have l2 : loopF (fun s_67 => fL_isLike_b67 a1 x s_67) FU 10 = some (Sum.inl ()) := by
    apply Ok_eq
    refine Ok_count (30 + (ends f n + 1)) (fun k z => 10 ≤ k ∧ z = Int32.ofNat k) ?_ 10 ⟨Nat.le_refl _, rfl⟩ (by omega) (by (show _ < FU); unfold FU; omega)
    rintro k z hk ⟨hk10, rfl⟩
    show Ok (fL_isLike_b67 a1 x (Int32.ofNat k)) _
    unfold fL_isLike_b67 fL_isLike_j107
    have e5 : (30 : Int32) + Int32.ofNat (ends f n + 1) = Int32.ofNat (30 + (ends f n + 1)) := i32_add (p := 30)
    have d27 : Int32.ofNat k = (27 : Int32) ↔ k = 27 := ofNat_eq (y := 27) (by omega) (by omega)
    have d28 : Int32.ofNat k = (28 : Int32) ↔ k = 28 := ofNat_eq (y := 28) (by omega) (by omega)
    have d29 : Int32.ofNat k = (29 : Int32) ↔ k = 29 := ofNat_eq (y := 29) (by omega) (by omega)
    rw [j26, gd_true, c26, s26, e5]
    by_cases q : 30 + (ends f n + 1) ≤ k
    · rw [if_pos ((i32_le (by omega) (by omega)).mpr q), Ok_some, lp_inr]
    · rw [if_neg (fun z => q ((i32_le (by omega) (by omega)).mp z))]
      have hgo : Ok (stp (Int32.ofNat k + (1 : Int32)) fun x3_2 => some (.inl x3_2)) (lp (fun s' => k + 1 ≤ 30 + (ends f n + 1) ∧ 10 ≤ k + 1 ∧ s' = Int32.ofNat (k + 1)) (fun r : Unit ⊕ Unit => r = Sum.inl ())) := by
        rw [stp, i32_succ, Ok_some, lp_inl]
        exact ⟨by omega, by omega, rfl⟩
      by_cases z1 : k = 27
      · rw [if_pos (d27.mpr z1)]
        exact hgo
      rw [if_neg (fun z => z1 (d27.mp z))]
      by_cases z2 : k = 28
      · rw [if_pos (d28.mpr z2)]
        exact hgo
      rw [if_neg (fun z => z2 (d28.mp z))]
      by_cases z3 : k = 29
      · rw [if_pos (d29.mpr z3)]
        exact hgo
      rw [if_neg (fun z => z3 (d29.mp z)), inb_n (show k < 3500 by omega) (by omega), gd_true, i_35 ha (show k < 3500 by omega), gd_true, ofNat_clamp (by omega), if_pos (q3 k hk10 (by omega) z1 z2 z3)]
      exact hgo
  have l3 : loopF (fun s_115 => fL_isLike_b115 a1 x s_115) FU 0 = some (Sum.inl ()) := by
    apply Ok_eq
    refine Ok_count n (fun k z => z = Int32.ofNat k) ?_ 0 rfl (Nat.zero_le _) (by (show _ < FU); unfold FU; omega)
    rintro k z hk rfl
    show Ok (fL_isLike_b115 a1 x (Int32.ofNat k)) _
    unfold fL_isLike_b115
    have e5 : (400 : Int32) + Int32.ofNat k = Int32.ofNat (400 + k) := i32_add (p := 400)
    rw [j0, gd_true, c0, s0, e5]
    by_cases q : n ≤ k
    · rw [if_pos ((i32_le (by omega) (by omega)).mpr q), Ok_some, lp_inr]
    · rw [if_neg (fun z => q ((i32_le (by omega) (by omega)).mp z)), inb_n (show 400 + k < 3500 by omega) (by omega), gd_true, i_35 ha (show 400 + k < 3500 by omega), gd_true, ofNat_clamp (by omega), if_pos (q4 k (by omega)), stp, i32_succ, Ok_some, lp_inl]
      exact ⟨by omega, rfl⟩
  unfold fL_isLike fL_isLike_j38
  rw [x1, bnd_some, i0, gd_true, j0, gd_true, c0, if_pos q0, i1, gd_true, j1, gd_true, c1, if_pos q1, i26, gd_true, j26, gd_true, c26, if_pos q26, stp, l1, bnd_some]
  show fL_isLike_j67 a1 x 10 = _
  unfold fL_isLike_j67
  rw [l2, bnd_some]
  show fL_isLike_j115 a1 x 0 = _
  unfold fL_isLike_j115
  rw [l3, bnd_some]
end S
