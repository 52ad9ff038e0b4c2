/-! an act of any kind -/
theorem In.tape200 {σ : Sto} {D : Doc} {T : Hst} (h : In σ D T) : ∃ m : Nat, m ≤ 200 ∧ fI σ 8 1 = Int32.ofNat m ∧ ∀ k, k < m → isLt (aI σ 9 k) = true := by
  obtain ⟨μ, L, B, H, h⟩ := h
  obtain ⟨n, h1, h2, h3, h4⟩ := h.2.2.2.2.1
  exact ⟨n, h1, h2, fun k hk => by rw [(h4 k hk).1]; exact (h4 k hk).2⟩
section AC
variable {τ : LawS} {D : Doc} {T : Hst} {a b c x y : Int32}
theorem act_0v (h : In τ.2 D T) : Act τ D T (fL_acts_j338 τ) := ⟨0, τ, D, T, rfl, by decide, h, GA.rf, FR.rf⟩
theorem acts_220 (h : In τ.2 D T) (hr : fI τ.2 1992 5 = 0) {w : Nat} (hw : w = 0 ∨ w = 4 ∨ w = 5 ∨ w = 6 ∨ w = 7 ∨ w = 8) : Act τ D T (fL_acts_j220 τ (Int32.ofNat w) x y) := by
  unfold fL_acts_j220
  rcases hw with rfl | rfl | rfl | rfl | rfl | rfl
  · rw [if_neg (by decide), if_neg (by decide), if_neg (by decide), if_neg (by decide)]
    exact (act_0 h hr).bnd
  · rw [if_neg (by decide), if_neg (by decide), if_neg (by decide), if_neg (by decide)]
    exact (act_4 h hr).bnd
  · rw [if_pos (by decide)]
    obtain ⟨v, z, τ1, h1, h2, h3, h4, h5⟩ := nextm τ 2 (by decide) (by decide)
    obtain ⟨v2, τ2, i1, i2, i4, i5⟩ := from_ok τ1 (lo := 1) (hi := 8) 8 (by decide) (by decide) (by decide)
    have e2 : τ2.2 = τ.2 := i4.trans h4
    have hf : FR (fun b => b ≠ 0 ∧ b ≠ 43) τ τ2 := (h5.trans i5).weak (fun b hb => hb.1)
    have hin : In τ2.2 D T := by rw [e2]; exact h
    rw [h2, bnd_some, i2, bnd_some, bnd_some]
    unfold fL_acts_j258
    split <;> exact ((act_5 hin (by rw [e2]; exact hr)).bnd).of (by rw [e2]) (by rw [e2]) hf
  · rw [if_neg (by decide), if_pos (by decide)]
    obtain ⟨v2, τ2, i1, i2, i4, i5⟩ := from_ok τ (lo := 1) (hi := 9) 9 (by decide) (by decide) (by decide)
    have hin : In τ2.2 D T := by rw [i4]; exact h
    rw [i2, bnd_some]
    exact ((act_6 hin (by rw [i4]; exact hr)).bnd).of (by rw [i4]) (by rw [i4]) (i5.weak (fun b hb => hb.1))
  · rw [if_neg (by decide), if_neg (by decide), if_pos (by decide)]
    exact (act_7 h hr).bnd
  · rw [if_neg (by decide), if_neg (by decide), if_neg (by decide), if_pos (by decide)]
    obtain ⟨m, m1, m2, m3⟩ := h.tape200
    rw [ob_c5, nox_inl, bnd_some, m2]
    by_cases z : Int32.ofNat m = 0
    · rw [if_pos z]
      exact act_0v h
    · rw [if_neg z, ob_c5, nox_inl, bnd_some, m2]
      by_cases z2 : (3 : Int32) < Int32.ofNat m
      · rw [if_pos z2]
        exact act_0v h
      · rw [if_neg z2]
        have hm : 1 ≤ m ∧ m ≤ 40 := by
          constructor
          · rcases Nat.eq_zero_or_pos m with e | e
            · rw [e] at z
              exact absurd rfl z
            · exact e
          · rcases Nat.lt_or_ge 3 m with e | e
            · exact absurd ((i32n_lt (a := 3) (by omega) (by omega)).mpr e) z2
            · omega
        obtain ⟨f, n, hd, c0, cu, ma, lf, ml⟩ := D
        obtain ⟨σ', k1, k2, k3, k4, k5, k6⟩ := q_setPattern h m2 hm (x := 0) (Or.inl rfl)
        have hk1 : f11_setPattern (τ.1, τ.2).2 0 = _ := k1
        rw [dn_22f, hk1, hdl_inl, bnd_some]
        have hN := cB_le (P := fdB f n (aI τ.2 9) m 0) n
        have hn := h.gd.1
        rw [if_pos (z_le (n := cB (fdB f n (aI τ.2 9) m 0) n) (by omega))]
        obtain ⟨e24, e92⟩ := k3.q (by omega) (by omega)
        have hA := act_8 (τ := (τ.1, σ')) (D := (f, n, hd, c0, cu, ma, lf, ml)) (T := T) (a := 0) (b := 0) (c := 0) k2 (by show fI σ' 1992 5 = 0; rw [e92]; exact hr)
        unfold fL_acts_j351
        exact hA.bnd.of e24 e92 FR.rf
theorem acts_89 {f : Nat → Int32} {n : Nat} {hd : Nat → Int32} {m : Nat} {cu : Nat → Nat} {ma lf ml : Nat → Int32} (h : In τ.2 (f, n, hd, m, cu, ma, lf, ml) T) (hr : fI τ.2 1992 5 = 0) {w : Nat} (hw : w < 9) {l1 l2 : Nat} (h1 : l1 ≤ l2) (h2 : l2 ≤ ends f n) : Act τ (f, n, hd, m, cu, ma, lf, ml) T (fL_acts_j89 τ (Int32.ofNat w) a (Int32.ofNat l1) (Int32.ofNat l2) b) := by
  have hE := h.gd.2.1
  unfold fL_acts_j89
  have ew : ∀ k : Nat, k < 9 → (Int32.ofNat w = Int32.ofNat k ↔ w = k) := fun k hk => ofNat_eq (by omega) (by omega)
  have c1 : Int32.ofNat w = (1 : Int32) ↔ w = 1 := ew 1 (by omega)
  have c2 : Int32.ofNat w = (2 : Int32) ↔ w = 2 := ew 2 (by omega)
  have c3 : Int32.ofNat w = (3 : Int32) ↔ w = 3 := ew 3 (by omega)
  have c4 : Int32.ofNat w = (4 : Int32) ↔ w = 4 := ew 4 (by omega)
  simp only [c1, c2, c3, c4]
  by_cases w1 : w = 1
  · rw [if_pos w1]
    obtain ⟨v2, τ2, i1, i2, i4, i5⟩ := from_ok τ (lo := -6) (hi := 6) 13 (by decide) (by decide) (by decide)
    have hin : In τ2.2 (f, n, hd, m, cu, ma, lf, ml) T := by rw [i4]; exact h
    rw [i2, bnd_some]
    exact ((act_1 hin (by rw [i4]; exact hr)).bnd).of (by rw [i4]) (by rw [i4]) (i5.weak (fun b hb => hb.1))
  rw [if_neg w1]
  by_cases w2 : w = 2
  · rw [if_pos w2]
    obtain ⟨v2, τ2, i1, i2, i4, i5⟩ := next_ok τ
    have hin : In τ2.2 (f, n, hd, m, cu, ma, lf, ml) T := by rw [i4]; exact h
    rw [i2, bnd_some]
    exact ((act_2 hin (by rw [i4]; exact hr)).bnd).of (by rw [i4]) (by rw [i4]) (i5.weak (fun b hb => hb.1))
  rw [if_neg w2]
  by_cases w3 : w = 3
  · rw [if_pos w3]
    obtain ⟨v2, τ2, i1, i2, i4, i5⟩ := next_ok τ
    have hin : In τ2.2 (f, n, hd, m, cu, ma, lf, ml) T := by rw [i4]; exact h
    rw [i2, bnd_some]
    exact ((act_3 hin (by rw [i4]; exact hr)).bnd).of (by rw [i4]) (by rw [i4]) (i5.weak (fun b hb => hb.1))
  rw [if_neg w3]
  by_cases w4 : w = 4
  · rw [if_pos w4]
    obtain ⟨v2, τ2, i1, i2, i4, i5⟩ := next_ok τ
    have hin : In τ2.2 (f, n, hd, m, cu, ma, lf, ml) T := by rw [i4]; exact h
    have hr2 : fI τ2.2 1992 5 = 0 := by rw [i4]; exact hr
    have hf2 : FR (fun b => b ≠ 0 ∧ b ≠ 43) τ τ2 := i5.weak (fun b hb => hb.1)
    rw [i2, bnd_some]
    by_cases z : (Int32.ofNat v2 - Int32.ofNat v2 / 2 * 2) = 0
    · rw [if_pos z]
      obtain ⟨v3, z3, τ3, j1, j2, j3, j4, j5⟩ := nextm τ2 7 (by decide) (by decide)
      have j3 : z3 - z3 / (7 : Int32) * (7 : Int32) = Int32.ofNat v3 := j3
      have e3 : τ3.2 = τ.2 := j4.trans i4
      have hin3 : In τ3.2 (f, n, hd, m, cu, ma, lf, ml) T := by rw [e3]; exact h
      have hf3 : FR (fun b => b ≠ 0 ∧ b ≠ 43) τ τ3 := hf2.trans (j5.weak (fun b hb => hb.1))
      rw [j2, bnd_some, j3, dn_25]
      have e5 : (1 : Int32) + (Int32.ofNat v3 - Int32.ofNat v3 / (5 : Int32) * (5 : Int32)) = Int32.ofNat (1 + v3 % 5) := by
        rw [show Int32.ofNat v3 - Int32.ofNat v3 / (5 : Int32) * (5 : Int32) = Int32.ofNat (v3 % 5) from i32_mod' (d := 5) (by omega) (by omega)]
        exact i32_add (p := 1)
      have e6 : (Int32.ofNat l2 - Int32.ofNat l1) + 1 = Int32.ofNat (l2 - l1 + 1) := by
        rw [i32_sub h1]
        exact i32_succ
      obtain ⟨v, σ', k0, k1, k2, k3⟩ := q_copyBlock hin3 (a := l1) (m := l2 - l1 + 1) (fi := v3) (w := 1 + v3 % 5) ⟨by omega, by omega⟩ (by omega) ⟨by omega, by omega⟩
      rw [e5, e6, k1, hdl_inl, bnd_some, if_pos (z_le (n := v) k0)]
      obtain ⟨e24, e92⟩ := k3.q (by omega) (by omega)
      have hA := act_4 (τ := (τ3.1, σ')) (D := (f, n, hd, m, cu, ma, lf, ml)) (T := T) (a := 0) (b := 0) (c := 0) k2 (by show fI σ' 1992 5 = 0; rw [e92, e3]; exact hr)
      unfold fL_acts_j219
      exact hA.bnd.of (by rw [← e3]; exact e24) (by rw [← e3]; exact e92) (fun b hb => hf3 b hb)
    · rw [if_neg z, w4]
      exact (acts_220 hin hr2 (Or.inr (Or.inl rfl))).of (by rw [i4]) (by rw [i4]) hf2
  rw [if_neg w4]
  exact acts_220 h hr (by omega)
theorem acts_ok {f : Nat → Int32} {n : Nat} {hd : Nat → Int32} {m : Nat} {cu : Nat → Nat} {ma lf ml : Nat → Int32} (h : In τ.2 (f, n, hd, m, cu, ma, lf, ml) T) (hr : fI τ.2 1992 5 = 0) : Act τ (f, n, hd, m, cu, ma, lf, ml) T (fL_acts τ) := by
  have hn := h.gd.1
  have hE := h.gd.2.1
  unfold fL_acts
  obtain ⟨v1, z1, τ1, a1, a2, a3, a4, a5⟩ := nextm τ 9 (by decide) (by decide)
  have a3 : z1 - z1 / (9 : Int32) * (9 : Int32) = Int32.ofNat v1 := a3
  have ho1 : OB τ1.2 (f, n, hd, m, cu, ma, lf, ml) := by rw [a4]; exact h.ob
  rw [a2, bnd_some, a3, stp, ob_c0 ho1, nox_inl, bnd_some, stp, ob_c1 ho1, nox_inl, bnd_some, stp]
  obtain ⟨v2, z2, τ2, b1, b2, b3, b4, b5⟩ := nextm τ1 (ends f n + 1) (by omega) (by omega)
  have b2 : fL_next (τ1.1, τ1.2) = _ := b2
  have nz1 : nz (Int32.ofNat (ends f n + 1)) = true := nz_iff.mpr (fun z => by have := (ofNat_z0 (by omega)).mp z; omega)
  rw [b2, bnd_some, nz1, gd_true, b3, stp]
  obtain ⟨v3, z3, τ3, c1, c2, c3, c4, c5⟩ := nextm τ2 4 (by decide) (by decide)
  have c3 : z3 - z3 / (4 : Int32) * (4 : Int32) = Int32.ofNat v3 := c3
  rw [c2, bnd_some, c3, i32_add]
  have e1 : Int32.ofNat (ends f n + 1) - (1 : Int32) = Int32.ofNat (ends f n) := by
    rw [show (1 : Int32) = Int32.ofNat 1 from rfl, i32_sub (by omega)]
    rfl
  obtain ⟨to, t1, t2, t3⟩ : ∃ to, imin (Int32.ofNat (ends f n + 1) - (1 : Int32)) (Int32.ofNat (v2 + v3)) = Int32.ofNat to ∧ v2 ≤ to ∧ to ≤ ends f n := by
    rw [e1]
    unfold imin
    by_cases z : Int32.ofNat (v2 + v3) < Int32.ofNat (ends f n)
    · have := (i32n_lt (by omega) (by omega)).mp z
      exact ⟨v2 + v3, by rw [if_pos z], by omega, by omega⟩
    · exact ⟨ends f n, by rw [if_neg z], by omega, Nat.le_refl _⟩
  obtain ⟨v4, z4, τ4, d1, d2, d3, d4, d5⟩ := nextm τ3 (n + 1) (by omega) (by omega)
  have d3 : z4 - z4 / (Int32.ofNat n + 1) * (Int32.ofNat n + 1) = Int32.ofNat v4 := by rw [i32_succ]; exact d3
  have nz2 : nz (Int32.ofNat n + 1) = true := nz_iff.mpr (fun z => by rw [i32_succ] at z; have := (ofNat_z0 (by omega)).mp z; omega)
  rw [t1, stp, d2, bnd_some, nz2, gd_true, d3, stp]
  have e4 : τ4.2 = τ.2 := d4.trans (c4.trans (b4.trans a4))
  have hin4 : In τ4.2 (f, n, hd, m, cu, ma, lf, ml) T := by rw [e4]; exact h
  have hr4 : fI τ4.2 1992 5 = 0 := by rw [e4]; exact hr
  have b5 : FR (fun b => b ≠ 0) τ1 τ2 := b5
  have hf4 : FR (fun b => b ≠ 0 ∧ b ≠ 43) τ τ4 := (a5.trans (b5.trans (c5.trans d5))).weak (fun b hb => hb.1)
  have tail : Act τ (f, n, hd, m, cu, ma, lf, ml) T (fL_acts_j69 τ4 (Int32.ofNat v1) (Int32.ofNat n) (Int32.ofNat v2) (Int32.ofNat to) (Int32.ofNat v4)) := by
    unfold fL_acts_j69
    obtain ⟨k, τ5, g1, g2, g3, g4, g5⟩ := draws_ok τ4
    have hin5 : In τ5.2 (f, n, hd, m, cu, ma, lf, ml) T := by rw [g3]; exact hin4
    obtain ⟨σ', k1, k2, k3, k4, k5⟩ := feeds_ok (a1 := 43) hin5 (show k ≤ 40 by omega) (show k ≤ 40 by omega) g5
    rw [g2, bnd_some, stp, k1, bnd_some, if_neg (show ¬ (1 : Int32) = 0 by decide)]
    obtain ⟨e24, e92⟩ := k3.q (by omega) (by omega)
    have hA := acts_89 (τ := (τ5.1, σ')) (T := T) (a := Int32.ofNat n) (b := Int32.ofNat v4) k2 (by show fI σ' 1992 5 = 0; rw [e92, g3]; exact hr4) a1 t2 t3
    exact hA.of (by rw [← e4, ← g3]; exact e24) (by rw [← e4, ← g3]; exact e92) (hf4.trans (fun b hb => g4 b hb))
  split
  · exact tail
  · split
    · exact tail
    · exact (acts_89 hin4 hr4 a1 t2 t3).of (by rw [e4]) (by rw [e4]) hf4
end AC
