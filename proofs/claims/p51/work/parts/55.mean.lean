/-! no NaN -/
theorem enc_mag64 {s : Bool} {c : Nat} {q : Int} (hc : c < 2 ^ 53) : FP.Core.encode FP.Core.b64 (FP.Core.bound FP.Core.b64 s c q) % 2 ^ 63 ≤ 2047 * 2 ^ 52 ∧ FP.Core.encode FP.Core.b64 (FP.Core.bound FP.Core.b64 s c q) < 2 ^ 64 := by
  unfold FP.Core.bound
  split
  · rename_i hq
    unfold FP.Core.encode
    simp only
    have hq2 : q ≤ 971 := hq
    by_cases h : c < FP.Core.b64.tails
    · rw [if_pos h]
      have h2 : c < 4503599627370496 := h
      show ((s.toNat * 2048 + 0) * 4503599627370496 + c) % 2 ^ 63 ≤ _ ∧ (s.toNat * 2048 + 0) * 4503599627370496 + c < _
      cases s <;> simp <;> omega
    · rw [if_neg h]
      have h2 : ¬ c < 4503599627370496 := h
      have h3 : FP.Core.b64.qmin = -1074 := by decide
      have h4 : FP.Core.b64.tails = 4503599627370496 := by decide
      have h5 : FP.Core.b64.exps = 2048 := by decide
      unfold FP.Core.assemble
      rw [h3, h4, h5]
      have h6 : (q - -1074).toNat + 1 ≤ 2046 := by omega
      generalize (q - -1074).toNat + 1 = e at h6
      cases s <;> simp <;> omega
  · show FP.Core.assemble FP.Core.b64 s (FP.Core.b64.exps - 1) 0 % 2 ^ 63 ≤ _ ∧ FP.Core.assemble FP.Core.b64 s (FP.Core.b64.exps - 1) 0 < _
    cases s <;> decide
theorem rr_mag64 {s : Bool} {num den : Nat} {e : Int} : FP.Core.encode FP.Core.b64 (FP.Core.roundRatio FP.Core.b64 s num den e) % 2 ^ 63 ≤ 2047 * 2 ^ 52 ∧ FP.Core.encode FP.Core.b64 (FP.Core.roundRatio FP.Core.b64 s num den e) < 2 ^ 64 := by
  unfold FP.Core.roundRatio
  split
  · cases s <;> decide
  · unfold FP.Core.roundAt FP.Core.settle
    split
    · rename_i h
      exact enc_mag64 h
    · exact enc_mag64 (by decide)
theorem nf64_t {x : Nat} (h : x % 2 ^ 63 ≤ 2047 * 2 ^ 52 ∧ x < 2 ^ 64) : nf64 (UInt64.ofNat x) = true := by
  unfold nf64
  apply decide_eq_true
  rw [UInt64.le_iff_toNat_le, UInt64.toNat_and, UInt64.toNat_ofNat', Nat.mod_eq_of_lt h.2]
  have e : (0x7fffffffffffffff : UInt64).toNat = 2 ^ 63 - 1 := by decide
  rw [e, Nat.and_two_pow_sub_one_eq_mod]
  exact h.1
theorem dec_num64 {x : Nat} (h : x % 2 ^ 63 ≤ 2047 * 2 ^ 52) : FP.Core.decode FP.Core.b64 x ≠ .nan := by
  unfold FP.Core.decode
  split
  · rename_i h1
    have h2 : x / 4503599627370496 % 2048 = 2047 := h1
    have h3 : FP.Core.fieldT FP.Core.b64 x = 0 := by
      show x % 4503599627370496 = 0
      have h4 : x % 9223372036854775808 ≤ 2047 * 4503599627370496 := h
      omega
    rw [if_pos h3]
    intro z
    cases z
  · split <;> (intro z; cases z)
theorem ord_self {d : FP.Core.Datum} (h : d ≠ .nan) : FP.Core.order d d = some .eq := by
  cases d with
  | nan => exact absurd rfl h
  | inf s => cases s <;> rfl
  | fin s c q =>
    show some (compare _ _) = _
    exact congrArg some Std.ReflOrd.compare_self
theorem cmp_self64 {x : Nat} (h : x % 2 ^ 63 ≤ 2047 * 2 ^ 52 ∧ x < 2 ^ 64) : Op.cmpValue (FP.dcmp (UInt64.ofNat x) (UInt64.ofNat x)) .l = 0 := by
  have e : FP.dcmp (UInt64.ofNat x) (UInt64.ofNat x) = some .eq := by
    show FP.Core.order _ _ = _
    rw [UInt64.toNat_ofNat', Nat.mod_eq_of_lt h.2]
    exact ord_self (dec_num64 h.1)
  rw [e]
  rfl
def fin0 : FP.Core.Datum → Bool
  | .fin _ _ _ => true
  | _ => false
def finN : FP.Core.Datum → Bool
  | .fin _ c _ => !(c == 0)
  | _ => false
theorem i2d_tab : ((List.range 3001).all fun a => fin0 (FP.Core.decode FP.Core.b64 (FP.Core.fromInt FP.Core.b64 (a : Int))) && decide (FP.Core.fromInt FP.Core.b64 (a : Int) < 2 ^ 64) && (a == 0 || finN (FP.Core.decode FP.Core.b64 (FP.Core.fromInt FP.Core.b64 (a : Int))))) = true := by decide +kernel
theorem ddiv_form {a b : Nat} (ha : a ≤ 3000) (hb : 1 ≤ b) (hb2 : b ≤ 3000) : ∃ x : Nat, FP.ddiv (FP.i2d (Int32.ofNat a)) (FP.i2d (Int32.ofNat b)) = UInt64.ofNat x ∧ x % 2 ^ 63 ≤ 2047 * 2 ^ 52 ∧ x < 2 ^ 64 := by
  have h1 := List.all_eq_true.mp i2d_tab a (List.mem_range.mpr (by omega))
  have h2 := List.all_eq_true.mp i2d_tab b (List.mem_range.mpr (by omega))
  simp only [Bool.and_eq_true, decide_eq_true_eq, Bool.or_eq_true] at h1 h2
  have ea : (Int32.ofNat a).toInt = (a : Int) := Int32.toInt_ofNat_of_lt (by omega)
  have eb : (Int32.ofNat b).toInt = (b : Int) := Int32.toInt_ofNat_of_lt (by omega)
  refine ⟨FP.Core.encode FP.Core.b64 (FP.Core.quotient FP.Core.b64 (FP.Core.decode FP.Core.b64 (FP.Core.fromInt FP.Core.b64 (a : Int))) (FP.Core.decode FP.Core.b64 (FP.Core.fromInt FP.Core.b64 (b : Int)))), ?_, ?_⟩
  · show UInt64.ofNat (FP.Core.encode _ (FP.Core.quotient _ (FP.Core.decode _ (UInt64.ofNat (FP.Core.fromInt FP.Core.b64 (Int32.ofNat a).toInt)).toNat) (FP.Core.decode _ (UInt64.ofNat (FP.Core.fromInt FP.Core.b64 (Int32.ofNat b).toInt)).toNat))) = _
    rw [ea, eb, UInt64.toNat_ofNat', UInt64.toNat_ofNat', Nat.mod_eq_of_lt h1.1.2, Nat.mod_eq_of_lt h2.1.2]
  · have h3 : finN (FP.Core.decode FP.Core.b64 (FP.Core.fromInt FP.Core.b64 (b : Int))) = true := by
      rcases h2.2 with h | h
      · exact absurd (by simpa using h) (show ¬ b = 0 by omega)
      · exact h
    generalize FP.Core.decode FP.Core.b64 (FP.Core.fromInt FP.Core.b64 (b : Int)) = d2 at h3
    generalize FP.Core.decode FP.Core.b64 (FP.Core.fromInt FP.Core.b64 (a : Int)) = d1 at h1
    cases d2 with
    | nan => cases h3
    | inf s => cases h3
    | fin t d r =>
      have hd : ¬ d = 0 := by simpa [finN] using h3
      cases d1 with
      | nan => cases h1.1.1
      | inf s => cases h1.1.1
      | fin s c q =>
        show FP.Core.encode _ (if d = 0 then _ else FP.Core.roundRatio _ _ _ _ _) % _ ≤ _ ∧ FP.Core.encode _ (if d = 0 then _ else FP.Core.roundRatio _ _ _ _ _) < _
        rw [if_neg hd]
        exact rr_mag64
section R
variable {σ μ : Sto} {o : Int64}
theorem op_meanLine (h : Rel σ μ) : Ok (f11_meanLine σ) (fun p => True ∧ Ok (f12_meanLine μ) (fun r => p = r.1 ∧ Op.cmpValue (FP.dcmp p p) .l = 0 ∧ RQ σ r.2 o)) := by
  obtain ⟨⟨f, n, hd, c, cu, ma, lf, ml⟩, L, B, H, T, h0⟩ := id h
  have hC : CT σ 1 L B f n := h0.2.1.1
  have hM : MT μ f n := h0.2.2.1.1
  have hM2 : MT (uI μ 2017 18 0) f n := hM.congr rfl rfl
  have hE := hC.2.1
  have hn := hC.1
  have hle := ends_le f n
  have e1 : Int32.ofNat n - (Int32.ofNat (ends f n + 1) - 1) = Int32.ofNat (n - ends f n) := by grind
  obtain ⟨x, x1, x2⟩ := ddiv_form (a := n - ends f n) (b := ends f n + 1) (by omega) (by omega) (by omega)
  have e2 : fI (uI μ 2017 18 0) 2017 5 = Int32.ofNat n := hM.2.1
  unfold f11_meanLine f12_meanLine
  simp only [stp, hC.2.2.1, hC.2.2.2.1, e1, x1, nf64_t x2, gd_true, Ok_some, c12_lines hM2, bnd_some, e2]
  exact ⟨trivial, trivial, cmp_self64 x2, h.thr⟩
end R
