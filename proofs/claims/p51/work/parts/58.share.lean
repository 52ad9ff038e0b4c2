theorem enc_mag32 {s : Bool} {c : Nat} {q : Int} (hc : c < 2 ^ 24) : FP.Core.encode FP.Core.b32 (FP.Core.bound FP.Core.b32 s c q) % 2 ^ 31 ≤ 255 * 2 ^ 23 ∧ FP.Core.encode FP.Core.b32 (FP.Core.bound FP.Core.b32 s c q) < 2 ^ 32 := by
  unfold FP.Core.bound
  split
  · rename_i hq
    unfold FP.Core.encode
    simp only
    have hq2 : q ≤ 104 := hq
    by_cases h : c < FP.Core.b32.tails
    · rw [if_pos h]
      have h2 : c < 8388608 := h
      show ((s.toNat * 256 + 0) * 8388608 + c) % 2 ^ 31 ≤ _ ∧ (s.toNat * 256 + 0) * 8388608 + c < _
      cases s <;> simp <;> omega
    · rw [if_neg h]
      have h2 : ¬ c < 8388608 := h
      have h3 : FP.Core.b32.qmin = -149 := by decide
      have h4 : FP.Core.b32.tails = 8388608 := by decide
      have h5 : FP.Core.b32.exps = 256 := by decide
      unfold FP.Core.assemble
      rw [h3, h4, h5]
      have h6 : (q - -149).toNat + 1 ≤ 254 := by omega
      generalize (q - -149).toNat + 1 = e at h6
      cases s <;> simp <;> omega
  · show FP.Core.assemble FP.Core.b32 s (FP.Core.b32.exps - 1) 0 % 2 ^ 31 ≤ _ ∧ FP.Core.assemble FP.Core.b32 s (FP.Core.b32.exps - 1) 0 < _
    cases s <;> decide
theorem rr_mag32 {s : Bool} {num den : Nat} {e : Int} : FP.Core.encode FP.Core.b32 (FP.Core.roundRatio FP.Core.b32 s num den e) % 2 ^ 31 ≤ 255 * 2 ^ 23 ∧ FP.Core.encode FP.Core.b32 (FP.Core.roundRatio FP.Core.b32 s num den e) < 2 ^ 32 := by
  unfold FP.Core.roundRatio
  split
  · cases s <;> decide
  · unfold FP.Core.roundAt FP.Core.settle
    split
    · rename_i h
      exact enc_mag32 h
    · exact enc_mag32 (by decide)
theorem nf32_t {x : Nat} (h : x % 2 ^ 31 ≤ 255 * 2 ^ 23 ∧ x < 2 ^ 32) : nf32 (UInt32.ofNat x) = true := by
  unfold nf32
  apply decide_eq_true
  rw [UInt32.le_iff_toNat_le, UInt32.toNat_and, UInt32.toNat_ofNat', Nat.mod_eq_of_lt h.2]
  have e : (0x7fffffff : UInt32).toNat = 2 ^ 31 - 1 := by decide
  rw [e, Nat.and_two_pow_sub_one_eq_mod]
  exact h.1
theorem dec_num32 {x : Nat} (h : x % 2 ^ 31 ≤ 255 * 2 ^ 23) : FP.Core.decode FP.Core.b32 x ≠ .nan := by
  unfold FP.Core.decode
  split
  · rename_i h1
    have h2 : x / 8388608 % 256 = 255 := h1
    have h3 : FP.Core.fieldT FP.Core.b32 x = 0 := by
      show x % 8388608 = 0
      have h4 : x % 2147483648 ≤ 255 * 8388608 := h
      omega
    rw [if_pos h3]
    intro z
    cases z
  · split <;> (intro z; cases z)
theorem f2d_form {x : Nat} (h : x % 2 ^ 31 ≤ 255 * 2 ^ 23 ∧ x < 2 ^ 32) : ∃ y : Nat, FP.f2d (UInt32.ofNat x) = UInt64.ofNat y ∧ y % 2 ^ 63 ≤ 2047 * 2 ^ 52 ∧ y < 2 ^ 64 := by
  have hd := dec_num32 h.1
  have e0 : (UInt32.ofNat x).toNat = x := by rw [UInt32.toNat_ofNat', Nat.mod_eq_of_lt h.2]
  have e1 : FP.Core.fIsNaN (UInt32.ofNat x) = false := by
    unfold FP.Core.fIsNaN FP.Core.isNaN
    rw [e0]
    exact decide_eq_false hd
  refine ⟨FP.Core.encode FP.Core.b64 (FP.Core.round FP.Core.b64 (FP.Core.decode FP.Core.b32 x)), ?_, ?_⟩
  · unfold FP.f2d
    rw [e1]
    show UInt64.ofNat (FP.Core.convert _ _ (UInt32.ofNat x).toNat) = _
    rw [e0]
    rfl
  · generalize FP.Core.decode FP.Core.b32 x = d at hd
    cases d with
    | nan => exact absurd rfl hd
    | inf s => cases s <;> decide
    | fin s c q => exact rr_mag64
theorem i2f_tab : ((List.range 400).all fun a => fin0 (FP.Core.decode FP.Core.b32 (FP.Core.fromInt FP.Core.b32 (a : Int))) && decide (FP.Core.fromInt FP.Core.b32 (a : Int) < 2 ^ 32) && (a == 0 || finN (FP.Core.decode FP.Core.b32 (FP.Core.fromInt FP.Core.b32 (a : Int))))) = true := by decide +kernel
theorem fdiv_form {a b : Nat} (ha : a < 400) (hb : 1 ≤ b) (hb2 : b < 400) : ∃ x : Nat, FP.fdiv (FP.i2f (Int32.ofNat a)) (FP.i2f (Int32.ofNat b)) = UInt32.ofNat x ∧ x % 2 ^ 31 ≤ 255 * 2 ^ 23 ∧ x < 2 ^ 32 := by
  have h1 := List.all_eq_true.mp i2f_tab a (List.mem_range.mpr (by omega))
  have h2 := List.all_eq_true.mp i2f_tab b (List.mem_range.mpr (by omega))
  simp only [Bool.and_eq_true, decide_eq_true_eq, Bool.or_eq_true] at h1 h2
  have ea : (Int32.ofNat a).toInt = (a : Int) := Int32.toInt_ofNat_of_lt (by omega)
  have eb : (Int32.ofNat b).toInt = (b : Int) := Int32.toInt_ofNat_of_lt (by omega)
  refine ⟨FP.Core.encode FP.Core.b32 (FP.Core.quotient FP.Core.b32 (FP.Core.decode FP.Core.b32 (FP.Core.fromInt FP.Core.b32 (a : Int))) (FP.Core.decode FP.Core.b32 (FP.Core.fromInt FP.Core.b32 (b : Int)))), ?_, ?_⟩
  · show UInt32.ofNat (FP.Core.encode _ (FP.Core.quotient _ (FP.Core.decode _ (UInt32.ofNat (FP.Core.fromInt FP.Core.b32 (Int32.ofNat a).toInt)).toNat) (FP.Core.decode _ (UInt32.ofNat (FP.Core.fromInt FP.Core.b32 (Int32.ofNat b).toInt)).toNat))) = _
    rw [ea, eb, UInt32.toNat_ofNat', UInt32.toNat_ofNat', Nat.mod_eq_of_lt h1.1.2, Nat.mod_eq_of_lt h2.1.2]
  · have h3 : finN (FP.Core.decode FP.Core.b32 (FP.Core.fromInt FP.Core.b32 (b : Int))) = true := by
      rcases h2.2 with h | h
      · exact absurd (by simpa using h) (show ¬ b = 0 by omega)
      · exact h
    generalize FP.Core.decode FP.Core.b32 (FP.Core.fromInt FP.Core.b32 (b : Int)) = d2 at h3
    generalize FP.Core.decode FP.Core.b32 (FP.Core.fromInt FP.Core.b32 (a : Int)) = d1 at h1
    cases d2 with
    | nan => cases h3
    | inf s => cases h3
    | fin t d r =>
      have hd : ¬ d = 0 := by simpa [finN] using h3
      cases d1 with
      | nan => cases h1.1.1
      | inf s => cases h1.1.1
      | fin s c q =>
        show FP.Core.encode _ (if d = 0 then _ else FP.Core.roundRatio _ _ _ _ _) % _ ≤ _ ∧ FP.Core.encode _ (if d = 0 then _ else FP.Core.roundRatio _ _ _ _ _) < _
        rw [if_neg hd]
        exact rr_mag32
section R
variable {σ μ : Sto} {o : Int64}
theorem op_sameShare (h : Rel σ μ) : Ok (f11_sameShare σ) (fun p => nf64 (FP.f2d p.1) = true ∧ Ok (f12_sameShare μ) (fun r => p.1 = r.1 ∧ Op.cmpValue (FP.dcmp (FP.f2d p.1) (FP.f2d p.1)) .l = 0 ∧ RQ p.2 r.2 o)) := by
  obtain ⟨⟨f, n, hd, c, cu, ma, lf, ml⟩, L, B, H, T, h0⟩ := id h
  obtain ⟨g, s, m, w, t1, t2, t3, t4, t5, t6, t7, t8⟩ := id h0
  obtain ⟨⟨z1, z2, z3, z4⟩, k, kn, z5, z6, z7⟩ := t5
  have hw := w.cells
  have hE := g.2.1
  obtain ⟨bf, ef, hl⟩ := lines_fn f n
  obtain ⟨bk, ek, hlk⟩ := lines_fn k kn
  obtain ⟨r1, r2, r3, q1⟩ := c3_countSame s.1 z5 hl hlk (by omega)
  have hM2 : MT (uI μ 2017 18 0) f n := m.1.congr rfl rfl
  obtain ⟨μ', u1, u2, u3, u4⟩ := c12_staying hM2 (show fI (uI μ 2017 18 0) 2017 16 = Int32.ofNat kn from z6) z7 z5.1 g.2.1 z5.2.1 hl hlk
  have hM3 : MT μ' f n := hM2.congr (by rw [u2]) (u4 2018 (by omega))
  have hle := lc_le (e := eqL f k bf ef bk ek) (ends f n + 1) (ends k kn + 1)
  obtain ⟨x, x1, x2⟩ := fdiv_form (a := lc (eqL f k bf ef bk ek) (ends f n + 1) (ends k kn + 1)) (b := ends f n + 1) (by omega) (by omega) (by omega)
  obtain ⟨y, y1, y2⟩ := f2d_form x2
  have e2 : fI (rA (rA (rA σ 2012 r1) 2013 r2) 2014 r3) 1 4 = Int32.ofNat (ends f n + 1) := s.1.2.2.2.1
  unfold f11_sameShare f12_sameShare
  rw [q1, bnd_some]
  simp only [stp]
  rw [u1, bnd_some, c12_lines hM3, bnd_some]
  simp only [← lc_flip, e2, x1, nf32_t x2, gd_true, Ok_some, y1, nf64_t y2, cmp_self64 y2, true_and]
  have fS : ∀ a, ¬ (2012 ≤ a ∧ a ≤ 2014) → aI (rA (rA (rA σ 2012 r1) 2013 r2) 2014 r3) a = aI σ a := fun a ha => by rw [aI_rA' (by omega), aI_rA' (by omega), aI_rA' (by omega)]
  have f1 : mfr μ (uI μ 2017 18 0) := mfr.uI (by omega)
  refine ⟨_, L, B, H, T, h0.sheet ?_ (f1.trans (mfr.of u2 u4)) g (s.congr rfl rfl (fS L (by omega)) (fS B (by omega)) (fS H (by omega)) (fS _ (by omega)) (fS _ (by omega)) (fS _ (by omega))) (m.congr (by rw [u2]; rfl) (by rw [u2]; rfl) (u4 _ (by omega)) (u4 _ (by omega)) (u4 _ (by omega)) (u4 _ (by omega)) (u4 _ (by omega))) w⟩
  exact Sm.trans (Sm.rA (by unfold nsh; omega)) (Sm.trans (Sm.rA (by unfold nsh; omega)) (Sm.rA (by unfold nsh; omega)))
end R
