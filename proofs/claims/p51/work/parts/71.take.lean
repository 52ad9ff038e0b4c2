/-! words of letters and of bits -/
def nw (x : Int64) : Nat := x.toUInt64.toNat
theorem nw_lt {x : Int64} : nw x < 2 ^ 64 := UInt64.toNat_lt _
theorem nw_or {x y : Int64} : nw (x ||| y) = nw x ||| nw y := rfl
theorem smod_64 : ∀ s : Nat, s < 64 → (Int64.ofNat s).toBitVec.smod 64 = BitVec.ofNat 64 s := by decide +kernel
theorem nw_shl {x : Int64} {s : Nat} (h : s < 64) : nw (x <<< Int64.ofNat s) = nw x * 2 ^ s % 2 ^ 64 := by
  have h1 : (x <<< Int64.ofNat s).toBitVec = x.toBitVec <<< ((Int64.ofNat s).toBitVec.smod 64) := rfl
  have h2 : nw (x <<< Int64.ofNat s) = (x <<< Int64.ofNat s).toBitVec.toNat := rfl
  rw [h2, h1, smod_64 s h, BitVec.shiftLeft_eq', BitVec.toNat_shiftLeft, BitVec.toNat_ofNat, Nat.mod_eq_of_lt (show s < 2 ^ 64 by omega), Nat.shiftLeft_eq]
  rfl
theorem nw_32 {c : Nat} (h : c < 2147483648) : nw (Int32.toInt64 (Int32.ofNat c)) = c := by
  have h1 : (Int32.toInt64 (Int32.ofNat c)) = Int64.ofNat c := by
    apply Int64.toInt_inj.mp
    rw [Int32.toInt_toInt64, Int32.toInt_ofNat_of_lt h, Int64.toInt_ofNat_of_lt (by omega)]
  rw [h1]
  show (BitVec.ofNat 64 c).toNat = c
  rw [BitVec.toNat_ofNat, Nat.mod_eq_of_lt (by omega)]
theorem nw_0 : nw 0 = 0 := by decide
theorem nw_shr {x : Int64} {s : Nat} (h : s < 64) : (x.toUInt64 >>> UInt64.ofNat s).toNat = nw x / 2 ^ s := by
  rw [UInt64.toNat_shiftRight]
  have : (UInt64.ofNat s).toNat % 64 = s := by
    rw [UInt64.toNat_ofNat']
    omega
  rw [this, Nat.shiftRight_eq_div_pow]
  rfl
theorem bl_nw {x : Int64} {i c : Nat} (hi : i < 8) (h : nw x / 2 ^ (8 * i) % 256 = c) (hc : c < 128) : bl x i = Int32.ofNat c := by
  unfold bl
  apply Int32.toInt_inj.mp
  rw [Int8.toInt_toInt32, Int32.toInt_toInt8, Int64.toInt_toInt32]
  have h1 : (UInt64.toInt64 (x.toUInt64 >>> UInt64.ofNat (8 * i))).toInt = ((x.toUInt64 >>> UInt64.ofNat (8 * i)).toNat : Int).bmod (2 ^ 64) := by
    show (x.toUInt64 >>> UInt64.ofNat (8 * i)).toBitVec.toInt = _
    rw [BitVec.toInt_eq_toNat_bmod]
    rfl
  rw [h1, nw_shr (by omega), Int32.toInt_ofNat_of_lt (by omega)]
  rw [Int.bmod_bmod_of_dvd (by decide), Int.bmod_bmod_of_dvd (by decide)]
  generalize nw x / 2 ^ (8 * i) = q at h
  rw [Int.bmod_def]
  have : (q : Int) % ((2 ^ 8 : Nat) : Int) = (c : Int) := by omega
  rw [this, if_pos (by omega)]
theorem hb_nw {x : Int64} {i : Nat} (hi : i < 64) : hb x i = if nw x / 2 ^ i % 2 = 1 then 1 else 0 := by
  unfold hb
  have h1 : (UInt64.toInt64 (x.toUInt64 >>> UInt64.ofNat i) &&& 1 = 1) ↔ nw x / 2 ^ i % 2 = 1 := by
    have h2 : nw (UInt64.toInt64 (x.toUInt64 >>> UInt64.ofNat i) &&& 1) = nw x / 2 ^ i % 2 := by
      have h3 : nw (UInt64.toInt64 (x.toUInt64 >>> UInt64.ofNat i) &&& 1) = (x.toUInt64 >>> UInt64.ofNat i).toNat &&& 1 := rfl
      rw [h3, nw_shr hi, Nat.and_one_is_mod]
    constructor
    · intro h
      rw [← h2, h]
      rfl
    · intro h
      rw [← h2] at h
      apply Int64.toBitVec_inj.mp
      apply BitVec.eq_of_toNat_eq
      exact h
  simp only [h1]
theorem or_add {a b s : Nat} (h : b < 2 ^ s) : b ||| a * 2 ^ s = b + a * 2 ^ s := by
  rw [Nat.or_comm, Nat.mul_comm, ← Nat.two_pow_add_eq_or_of_lt h, Nat.add_comm]
theorem div_low {a b i r : Nat} (d : Nat) (h : i + d ≤ r) : (b + a * 2 ^ r) / 2 ^ i % 2 ^ d = b / 2 ^ i % 2 ^ d := by
  have e : 2 ^ r = 2 ^ i * (2 ^ d * 2 ^ (r - i - d)) := by
    rw [← Nat.pow_add, ← Nat.pow_add]
    congr 1
    omega
  rw [e, show a * (2 ^ i * (2 ^ d * 2 ^ (r - i - d))) = 2 ^ i * (2 ^ d * (2 ^ (r - i - d) * a)) by ac_rfl, Nat.add_mul_div_left _ _ (Nat.two_pow_pos i), Nat.add_mul_mod_self_left]
theorem aL_uL' {σ : Sto} {a k b : Nat} {v : Int64} (h : b ≠ a) : aL (uL σ a k v) b = aL σ b := by
  funext j
  rw [aL_uL, if_neg h]
theorem sh_8 : ∀ r : Nat, r < 8 → Int32.toInt64 (Int32.ofNat r * 8) &&& 63 = Int64.ofNat (8 * r) := by decide +kernel
theorem sh_64 : ∀ r : Nat, r < 64 → Int32.toInt64 (Int32.ofNat r) &&& 63 = Int64.ofNat r := by decide +kernel
theorem i32_mod' {k d : Nat} (hk : k < 2147483648) (hd : d < 2147483648) : Int32.ofNat k - Int32.ofNat k / Int32.ofNat d * Int32.ofNat d = Int32.ofNat (k % d) := by
  rw [i32_div hk hd, ← Int32.ofNat_mul, i32_sub (Nat.div_mul_le_self k d)]
  congr 1
  have := Nat.div_add_mod k d
  rw [Nat.mul_comm] at this
  omega
section R
variable {σ μ : Sto} {L B H : Nat} {f : Nat → Int32} {n c : Nat} {hd : Nat → Int32} {cu : Nat → Nat} {ma lf ml : Nat → Int32}
theorem c5_takeL {σ1 : Sto} {t : Nat} (ct : CT σ1 1 L B f n) (cl : CL L B H) (ht : 100 ≤ t ∨ (27 ≤ t)) (h1 : fI σ1 t 1 = Int32.ofNat n) (hlt : ∀ k, k < n → isLt (f k) = true) : Ok (loopF (fun s_10 => f5_take_b10 t 1 s_10.1 s_10.2) FU (σ1, 0)) (fun M => Sm (fun a => a ≠ t + 1) σ1 M ∧ fR M = fR σ1 ∧ ∀ q, q < n → nw (aL M (t + 1) (q / 8)) / 2 ^ (8 * (q % 8)) % 256 = (f q).toNatClampNeg) := by
  have hn := ct.1
  have hcl : L ≠ t + 1 ∧ B ≠ t + 1 ∧ 1 ≠ t + 1 := by
    unfold CL at cl
    omega
  refine Ok_count n (fun k s => s.2 = Int32.ofNat k ∧ Sm (fun a => a ≠ t + 1) σ1 s.1 ∧ fR s.1 = fR σ1 ∧ (∀ q, q < k → nw (aL s.1 (t + 1) (q / 8)) / 2 ^ (8 * (q % 8)) % 256 = (f q).toNatClampNeg) ∧ (k % 8 ≠ 0 → nw (aL s.1 (t + 1) (k / 8)) < 2 ^ (8 * (k % 8)))) ?_ 0 ⟨rfl, Sm.rf, rfl, fun q hq => by omega, fun z => by omega⟩ (by omega) (by (show _ < FU; unfold FU; omega))
  rintro k ⟨M, y⟩ hk ⟨e, fM, rM, q1, q2⟩
  have e : y = Int32.ofNat k := e
  subst e
  have fM : Sm (fun a => a ≠ t + 1) σ1 M := fM
  have rM : fR M = fR σ1 := rM
  have q1 : ∀ q, q < k → nw (aL M (t + 1) (q / 8)) / 2 ^ (8 * (q % 8)) % 256 = (f q).toNatClampNeg := q1
  have q2 : k % 8 ≠ 0 → nw (aL M (t + 1) (k / 8)) < 2 ^ (8 * (k % 8)) := q2
  have ctM : CT M 1 L B f n := ct.congr (fM 1 hcl.2.2).1 (fM 1 hcl.2.2).2.1 (fM L hcl.1).2.2.1 (fM B hcl.2.1).2.2.1
  have n1 : fI M t 1 = Int32.ofNat n := by rw [(fM t (by omega)).1]; exact h1
  have ed : Int32.ofNat k / (8 : Int32) = Int32.ofNat (k / 8) := i32_div (b := 8) (by omega) (by omega)
  have em : Int32.ofNat k - Int32.ofNat (k / 8) * (8 : Int32) = Int32.ofNat (k % 8) := by rw [← ed]; exact i32_mod' (d := 8) (by omega) (by omega)
  have e0 : Int32.ofNat (k % 8) = 0 ↔ k % 8 = 0 := by
    have : k % 8 < 2147483648 := by omega
    grind
  unfold f5_take_b10 f5_take_j38
  simp only [n1, i32_le (show n < 2147483648 by omega) (show k < 2147483648 by omega), em, ed, e0, sh_8 (k % 8) (by omega), stp, i32_succ, ofNat_clamp (show k < 2147483648 by omega), ofNat_clamp (show k / 8 < 2147483648 by omega)]
  by_cases hq : n ≤ k
  · rw [if_pos hq, Ok_some, lp_inr]
    exact ⟨fM, rM, fun q hq => q1 q (by omega)⟩
  · rw [if_neg hq]
    obtain ⟨cc, hc1, hc2⟩ : ∃ cc, cc < 128 ∧ f k = Int32.ofNat cc := by
      have := isLt_in (hlt k (by omega))
      exact ⟨(f k).toNatClampNeg, by grind, by grind⟩
    have hfk : (f k).toNatClampNeg = cc := by rw [hc2, ofNat_clamp (by omega)]
    have step : ∀ w : Int64, nw w < 2 ^ (8 * (k % 8)) → (k % 8 ≠ 0 → w = aL M (t + 1) (k / 8)) → Ok (gd (okr (fR M 1 0) 13) (gd (inb (Int32.ofNat k) (ln (fR M 1 0 - 1))) (gd (inb (Int32.ofNat (k / 8)) 375) (some (Sum.inl (uL M (t + 1) (k / 8) (w ||| Int32.toInt64 (aI M (fR M 1 0 - 1) k) <<< Int64.ofNat (8 * (k % 8))), Int32.ofNat (k + 1)) : Sto × Int32 ⊕ Sto))))) (lp (fun s' => k + 1 ≤ n ∧ s'.2 = Int32.ofNat (k + 1) ∧ Sm (fun a => a ≠ t + 1) σ1 s'.1 ∧ fR s'.1 = fR σ1 ∧ (∀ q, q < k + 1 → nw (aL s'.1 (t + 1) (q / 8)) / 2 ^ (8 * (q % 8)) % 256 = (f q).toNatClampNeg) ∧ ((k + 1) % 8 ≠ 0 → nw (aL s'.1 (t + 1) ((k + 1) / 8)) < 2 ^ (8 * ((k + 1) % 8)))) (fun M => Sm (fun a => a ≠ t + 1) σ1 M ∧ fR M = fR σ1 ∧ ∀ q, q < n → nw (aL M (t + 1) (q / 8)) / 2 ^ (8 * (q % 8)) % 256 = (f q).toNatClampNeg)) := by
      intro w hw hw2
      simp only [ctM.2.2.2.2.1.1, okr_s.mpr ctM.2.2.2.2.1.2.1, Nat.add_sub_cancel, ctM.2.2.2.2.1.2.2, inb_n (show k < 3000 by omega) (by omega), inb_n (show k / 8 < 375 by omega) (by omega), gd_true, ctM.2.2.2.2.2.2.1 k (by omega), hc2]
      have hpow : cc * 2 ^ (8 * (k % 8)) < 2 ^ 64 := by
        have h1 : cc * 2 ^ (8 * (k % 8)) < 2 ^ 7 * 2 ^ (8 * (k % 8)) := Nat.mul_lt_mul_of_pos_right hc1 (Nat.two_pow_pos _)
        have h2 : 2 ^ 7 * 2 ^ (8 * (k % 8)) ≤ 2 ^ 64 := by
          rw [← Nat.pow_add]
          exact Nat.pow_le_pow_right (by omega) (by omega)
        omega
      have hnew : nw (w ||| Int32.toInt64 (Int32.ofNat cc) <<< Int64.ofNat (8 * (k % 8))) = nw w + cc * 2 ^ (8 * (k % 8)) := by
        rw [nw_or, nw_shl (by omega), nw_32 (by omega), Nat.mod_eq_of_lt hpow, or_add hw]
      rw [Ok_some, lp_inl]
      refine ⟨by omega, rfl, fM.trans (Sm.uL (by omega)), rM, fun q hq => ?_, fun z => ?_⟩
      · show nw (aL (uL M (t + 1) (k / 8) _) (t + 1) (q / 8)) / _ % 256 = _
        rw [aL_uL, if_pos rfl]
        by_cases eq : q = k
        · rw [eq, if_pos rfl, hnew, hfk, Nat.add_mul_div_right _ _ (Nat.two_pow_pos _), Nat.div_eq_of_lt hw]
          omega
        · by_cases ew : q / 8 = k / 8
          · rw [if_pos ew, hnew]
            have := q1 q (by omega)
            rw [ew, ← hw2 (by omega)] at this
            rw [← this]
            exact div_low 8 (by omega)
          · rw [if_neg ew]
            exact q1 q (by omega)
      · have e1 : (k + 1) / 8 = k / 8 := by omega
        have e2 : (k + 1) % 8 = k % 8 + 1 := by omega
        show nw (aL (uL M (t + 1) (k / 8) _) (t + 1) ((k + 1) / 8)) < _
        rw [aL_uL, if_pos rfl, e1, if_pos rfl, hnew, e2, Nat.mul_add, Nat.pow_add]
        have h1 : cc * 2 ^ (8 * (k % 8)) ≤ 127 * 2 ^ (8 * (k % 8)) := Nat.mul_le_mul (by omega) (Nat.le_refl _)
        omega
    by_cases hr : k % 8 = 0
    · rw [if_pos hr]
      exact step 0 (by rw [nw_0]; exact Nat.two_pow_pos _) (fun z => absurd hr z)
    · have hst := step _ (q2 hr) (fun _ => rfl)
      rw [if_neg hr]
      rw [inb_n (show k / 8 < 375 by omega) (by omega)] at hst ⊢
      rw [gd_true]
      exact hst
theorem c5_takeH {σ1 : Sto} {t : Nat} (ct : CT σ1 1 L B f n) (cl : CL L B H) (ht : 27 ≤ t) (hH : fR σ1 1 3 = H + 1) (hh : ∀ j, j ≤ ends f n → aI σ1 H j = hd j) (h01 : ∀ j, j ≤ ends f n → hd j = 0 ∨ hd j = 1) : Ok (loopF (fun s_73 => f5_take_b73 t 1 s_73.1 s_73.2) FU (σ1, 0)) (fun M => Sm (fun a => a ≠ t + 2) σ1 M ∧ fR M = fR σ1 ∧ ∀ q, q < ends f n + 1 → nw (aL M (t + 2) (q / 64)) / 2 ^ (q % 64) % 2 = (hd q).toNatClampNeg) := by
  have hE := ct.2.1
  have hcl : L ≠ t + 2 ∧ B ≠ t + 2 ∧ H ≠ t + 2 ∧ 1 ≠ t + 2 := by
    unfold CL at cl
    omega
  refine Ok_count (ends f n + 1) (fun k s => s.2 = Int32.ofNat k ∧ Sm (fun a => a ≠ t + 2) σ1 s.1 ∧ fR s.1 = fR σ1 ∧ (∀ q, q < k → nw (aL s.1 (t + 2) (q / 64)) / 2 ^ (q % 64) % 2 = (hd q).toNatClampNeg) ∧ (k % 64 ≠ 0 → nw (aL s.1 (t + 2) (k / 64)) < 2 ^ (k % 64))) ?_ 0 ⟨rfl, Sm.rf, rfl, fun q hq => by omega, fun z => by omega⟩ (by omega) (by (show _ < FU; unfold FU; omega))
  rintro k ⟨M, y⟩ hk ⟨e, fM, rM, q1, q2⟩
  have e : y = Int32.ofNat k := e
  subst e
  have fM : Sm (fun a => a ≠ t + 2) σ1 M := fM
  have rM : fR M = fR σ1 := rM
  have q1 : ∀ q, q < k → nw (aL M (t + 2) (q / 64)) / 2 ^ (q % 64) % 2 = (hd q).toNatClampNeg := q1
  have q2 : k % 64 ≠ 0 → nw (aL M (t + 2) (k / 64)) < 2 ^ (k % 64) := q2
  have n1 : fI M 1 4 = Int32.ofNat (ends f n + 1) := by rw [(fM 1 hcl.2.2.2).1]; exact ct.2.2.2.1
  have mH : aI M H = aI σ1 H := (fM H hcl.2.2.1).2.2.1
  have ed : Int32.ofNat k / (64 : Int32) = Int32.ofNat (k / 64) := i32_div (b := 64) (by omega) (by omega)
  have em : Int32.ofNat k - Int32.ofNat (k / 64) * (64 : Int32) = Int32.ofNat (k % 64) := by rw [← ed]; exact i32_mod' (d := 64) (by omega) (by omega)
  have e0 : Int32.ofNat (k % 64) = 0 ↔ k % 64 = 0 := by
    have : k % 64 < 2147483648 := by omega
    grind
  unfold f5_take_b73 f5_take_j101 f5_take_j125
  simp only [n1, i32_le (show ends f n + 1 < 2147483648 by omega) (show k < 2147483648 by omega), em, ed, e0, sh_64 (k % 64) (by omega), stp, i32_succ, ofNat_clamp (show k < 2147483648 by omega), ofNat_clamp (show k / 64 < 2147483648 by omega)]
  by_cases hq : ends f n + 1 ≤ k
  · rw [if_pos hq, Ok_some, lp_inr]
    exact ⟨fM, rM, fun q hq => q1 q (by omega)⟩
  · rw [if_neg hq]
    have step : ∀ (w v : Int64) (cc : Nat), nw v = cc → cc < 2 → (hd k).toNatClampNeg = cc → nw w < 2 ^ (k % 64) → (k % 64 ≠ 0 → w = aL M (t + 2) (k / 64)) → Ok (gd (inb (Int32.ofNat (k / 64)) 5) (some (Sum.inl (uL M (t + 2) (k / 64) (w ||| v <<< Int64.ofNat (k % 64)), Int32.ofNat (k + 1)) : Sto × Int32 ⊕ Sto))) (lp (fun s' => k + 1 ≤ ends f n + 1 ∧ s'.2 = Int32.ofNat (k + 1) ∧ Sm (fun a => a ≠ t + 2) σ1 s'.1 ∧ fR s'.1 = fR σ1 ∧ (∀ q, q < k + 1 → nw (aL s'.1 (t + 2) (q / 64)) / 2 ^ (q % 64) % 2 = (hd q).toNatClampNeg) ∧ ((k + 1) % 64 ≠ 0 → nw (aL s'.1 (t + 2) ((k + 1) / 64)) < 2 ^ ((k + 1) % 64))) (fun M => Sm (fun a => a ≠ t + 2) σ1 M ∧ fR M = fR σ1 ∧ ∀ q, q < ends f n + 1 → nw (aL M (t + 2) (q / 64)) / 2 ^ (q % 64) % 2 = (hd q).toNatClampNeg)) := by
      intro w v cc hv hc1 hfk hw hw2
      rw [inb_n (show k / 64 < 5 by omega) (by omega), gd_true]
      have hpow : cc * 2 ^ (k % 64) < 2 ^ 64 := by
        have h1 : cc * 2 ^ (k % 64) ≤ 1 * 2 ^ (k % 64) := Nat.mul_le_mul (by omega) (Nat.le_refl _)
        have h2 : 2 ^ (k % 64) < 2 ^ 64 := Nat.pow_lt_pow_right (by omega) (by omega)
        omega
      have hnew : nw (w ||| v <<< Int64.ofNat (k % 64)) = nw w + cc * 2 ^ (k % 64) := by
        rw [nw_or, nw_shl (by omega), hv, Nat.mod_eq_of_lt hpow, or_add hw]
      rw [Ok_some, lp_inl]
      refine ⟨by omega, rfl, fM.trans (Sm.uL (by omega)), rM, fun q hq => ?_, fun z => ?_⟩
      · show nw (aL (uL M (t + 2) (k / 64) _) (t + 2) (q / 64)) / _ % 2 = _
        rw [aL_uL, if_pos rfl]
        by_cases eq : q = k
        · rw [eq, if_pos rfl, hnew, hfk, Nat.add_mul_div_right _ _ (Nat.two_pow_pos _), Nat.div_eq_of_lt hw]
          omega
        · by_cases ew : q / 64 = k / 64
          · rw [if_pos ew, hnew]
            have := q1 q (by omega)
            rw [ew, ← hw2 (by omega)] at this
            rw [← this]
            exact div_low 1 (by omega)
          · rw [if_neg ew]
            exact q1 q (by omega)
      · have e1 : (k + 1) / 64 = k / 64 := by omega
        have e2 : (k + 1) % 64 = k % 64 + 1 := by omega
        show nw (aL (uL M (t + 2) (k / 64) _) (t + 2) ((k + 1) / 64)) < _
        rw [aL_uL, if_pos rfl, e1, if_pos rfl, hnew, e2, Nat.pow_add]
        have h1 : cc * 2 ^ (k % 64) ≤ 1 * 2 ^ (k % 64) := Nat.mul_le_mul (by omega) (Nat.le_refl _)
        omega
    have go : ∀ w : Int64, nw w < 2 ^ (k % 64) → (k % 64 ≠ 0 → w = aL M (t + 2) (k / 64)) → Ok (gd (okr (fR M 1 3) 14) (gd (inb (Int32.ofNat k) (ln (fR M 1 3 - 1))) (if aI M (fR M 1 3 - 1) k = 0 then gd (inb (Int32.ofNat (k / 64)) 5) (some (Sum.inl (uL M (t + 2) (k / 64) (w ||| 0 <<< Int64.ofNat (k % 64)), Int32.ofNat (k + 1)) : Sto × Int32 ⊕ Sto)) else gd (inb (Int32.ofNat (k / 64)) 5) (some (Sum.inl (uL M (t + 2) (k / 64) (w ||| 1 <<< Int64.ofNat (k % 64)), Int32.ofNat (k + 1)))))) ) (lp (fun s' => k + 1 ≤ ends f n + 1 ∧ s'.2 = Int32.ofNat (k + 1) ∧ Sm (fun a => a ≠ t + 2) σ1 s'.1 ∧ fR s'.1 = fR σ1 ∧ (∀ q, q < k + 1 → nw (aL s'.1 (t + 2) (q / 64)) / 2 ^ (q % 64) % 2 = (hd q).toNatClampNeg) ∧ ((k + 1) % 64 ≠ 0 → nw (aL s'.1 (t + 2) ((k + 1) / 64)) < 2 ^ ((k + 1) % 64))) (fun M => Sm (fun a => a ≠ t + 2) σ1 M ∧ fR M = fR σ1 ∧ ∀ q, q < ends f n + 1 → nw (aL M (t + 2) (q / 64)) / 2 ^ (q % 64) % 2 = (hd q).toNatClampNeg)) := by
      intro w hw hw2
      rw [rM, hH, okr_s.mpr cl.kcs.2.2.2.2.1, gd_true, Nat.add_sub_cancel, cl.kcs.2.2.2.2.2, inb_n (show k < 300 by omega) (by omega), gd_true, mH, hh k (by omega)]
      rcases h01 k (by omega) with z | z
      · rw [if_pos z]
        exact step w 0 0 nw_0 (by omega) (by rw [z]; decide) hw hw2
      · rw [if_neg (by rw [z]; decide)]
        exact step w 1 1 (by decide) (by omega) (by rw [z]; decide) hw hw2
    by_cases hr : k % 64 = 0
    · rw [if_pos hr]
      exact go 0 (by rw [nw_0]; exact Nat.two_pow_pos _) (fun z => absurd hr z)
    · have hst := go _ (q2 hr) (fun _ => rfl)
      rw [if_neg hr]
      rw [inb_n (show k / 64 < 5 by omega) (by omega)] at hst ⊢
      rw [gd_true]
      exact hst
theorem c5_take (s : SC σ 1 L B H (f, n, hd, c, cu, ma, lf, ml)) (g : GD (f, n, hd, c, cu, ma, lf, ml)) (cl : CL L B H) {t : Nat} (ht : 27 ≤ t) : ∃ σ', f5_take σ t 1 = some σ' ∧ MO σ' t (f, n, hd, c, cu, ma, lf, ml) ∧ Sm (fun a => a < t ∨ t + 5 < a) σ σ' ∧ fR σ' = fR σ := by
  obtain ⟨s1, ⟨s2, s3, s4, s5⟩, ⟨s6, s7⟩, s8, s9⟩ := s
  obtain ⟨g1, g2, g3, g4, g5, g6, g7, g8, g9, g10, g11⟩ := g
  have hcl : (L < t ∧ B < t ∧ H < t) ∨ False := by
    unfold CL at cl
    omega
  have hcl := hcl.resolve_right id
  have f1 : Sm (fun a => a < t ∨ t + 5 < a) σ (uI σ t 1 (Int32.ofNat n)) := Sm.uI (by omega)
  have r1 : fR (uI σ t 1 (Int32.ofNat n)) = fR σ := rfl
  have v1 : fI (uI σ t 1 (Int32.ofNat n)) t 1 = Int32.ofNat n := by rw [fI_uI, if_pos rfl, if_pos rfl]
  have ct1 : CT (uI σ t 1 (Int32.ofNat n)) 1 L B f n := s1.congr (f1 1 (Or.inl (by omega))).1 rfl rfl rfl
  obtain ⟨M1, k1, k2, k3, k4⟩ := c5_takeL (t := t) ct1 cl (Or.inr ht) v1 g3
  have f2 : Sm (fun a => a < t ∨ t + 5 < a) σ M1 := f1.trans (k2.weak (by omega))
  have ct2 : CT M1 1 L B f n := s1.congr (f2 1 (Or.inl (by omega))).1 (by rw [k3]; rfl) (f2 L (Or.inl hcl.1)).2.2.1 (f2 B (Or.inl hcl.2.1)).2.2.1
  obtain ⟨M2, j1, j2, j3, j4⟩ := c5_takeH (t := t) (hd := hd) ct2 cl ht (by rw [k3]; exact s2) (fun j hj => by rw [(f2 H (Or.inl hcl.2.2)).2.2.1]; exact s5 j hj) g5
  have f3 : Sm (fun a => a < t ∨ t + 5 < a) σ M2 := f2.trans (j2.weak (by omega))
  have r3 : fR M2 = fR σ := by rw [j3, k3]; rfl
  have c3 : cpok (0 : Int32) (0 : Int32) (8 : Int32) 8 8 = true := cpok_t (a := 0) (b := 0) (c := 8) (by omega) (by omega) (by omega) (by omega) (by omega)
  have c4 : cpok (0 : Int32) (0 : Int32) (16 : Int32) 16 16 = true := cpok_t (a := 0) (b := 0) (c := 16) (by omega) (by omega) (by omega) (by omega) (by omega)
  have z0 : (0 : Int32).toNatClampNeg = 0 := by decide
  have z8 : (8 : Int32).toNatClampNeg = 8 := by decide
  have z16 : (16 : Int32).toNatClampNeg = 16 := by decide
  have a5 : aI M2 (1 + 4) = aI σ (1 + 4) := (f3 (1 + 4) (Or.inl (by omega))).2.2.1
  have a6 : aI M2 (1 + 5) = aI σ (1 + 5) := (f3 (1 + 5) (Or.inl (by omega))).2.2.1
  have a7 : aI M2 (1 + 6) = aI σ (1 + 6) := (f3 (1 + 6) (Or.inl (by omega))).2.2.1
  have i1 : ∀ r : Nat → Int32, aI (rA M2 (t + 3) r) (1 + 5) = aI σ (1 + 5) := fun r => by rw [aI_rA' (by omega), a6]
  have i2 : ∀ r r' : Nat → Int32, aI (rA (rA M2 (t + 3) r) (t + 4) r') (1 + 6) = aI σ (1 + 6) := fun r r' => by rw [aI_rA' (by omega), aI_rA' (by omega), a7]
  have i6 : fI M2 1 6 = Int32.ofNat c := by rw [(f3 1 (Or.inl (by omega))).1]; exact s6
  have fz : fitZ (aI σ (1 + 6)) 0 16 = true := fitZ_t (fun i hi => by
    rw [Nat.zero_add, s9 i hi]
    exact (g11 i hi).1)
  have n0 : fI σ 1 1 = Int32.ofNat n := s1.2.2.1
  refine ⟨uI (rA (rA (rA M2 (t + 3) (va_cpy (aI σ (1 + 4)) (aI M2 (t + 3)) 0 0 8)) (t + 4) (va_cpy (aI σ (1 + 5)) (aI (rA M2 (t + 3) (va_cpy (aI σ (1 + 4)) (aI M2 (t + 3)) 0 0 8)) (t + 4)) 0 0 16)) (t + 5) (va_cpy (aI σ (1 + 6)) (aI (rA (rA M2 (t + 3) (va_cpy (aI σ (1 + 4)) (aI M2 (t + 3)) 0 0 8)) (t + 4) (va_cpy (aI σ (1 + 5)) (aI (rA M2 (t + 3) (va_cpy (aI σ (1 + 4)) (aI M2 (t + 3)) 0 0 8)) (t + 4)) 0 0 16)) (t + 5)) 0 0 16)) t 4 (Int32.ofNat c), ?_, ⟨?_, fun k hk => ?_, fun j hj => ?_, ⟨?_, fun k hk => ?_⟩, fun k hk => ?_, fun k hk => ?_⟩, ?_, r3⟩
  · unfold f5_take
    rw [n0, stp, stp, f5_take_j10, k1, bnd_some, stp, f5_take_j73, j1, bnd_some]
    simp only [c3, c4, gd_true, z0, z8, z16, a5, stp, i1, i2, fz, fI_rA, i6]
  · rw [fI_uI, if_pos rfl, if_neg (by decide)]
    show fI M2 t 1 = _
    rw [(j2 t (by omega)).1, (k2 t (by omega)).1]
    exact v1
  · have hx := k4 k hk
    rw [show aL (uI (rA (rA (rA M2 (t + 3) _) (t + 4) _) (t + 5) _) t 4 _) (t + 1) = aL M1 (t + 1) from (j2 (t + 1) (by omega)).2.2.2]
    have hf := isLt_in (g3 k hk)
    have hc : (f k).toNatClampNeg < 128 ∧ Int32.ofNat (f k).toNatClampNeg = f k := by
      constructor <;> grind
    rw [bl_nw (by omega) hx hc.1, hc.2]
  · have hx := j4 j (by omega)
    rw [show aL (uI (rA (rA (rA M2 (t + 3) _) (t + 4) _) (t + 5) _) t 4 _) (t + 2) = aL M2 (t + 2) from rfl]
    rw [hb_nw (by omega), hx]
    rcases g5 j hj with z | z
    · rw [z]; decide
    · rw [z]; decide
  · rw [fI_uI, if_pos rfl, if_pos rfl]
  · show aI (rA (rA (rA M2 (t + 3) _) (t + 4) _) (t + 5) _) (t + 3) k = _
    rw [aI_rA' (by omega), aI_rA' (by omega), aI_rA, if_pos rfl, cpy_at (by omega), Nat.zero_add]
    exact s7 k hk
  · show aI (rA (rA (rA M2 (t + 3) _) (t + 4) _) (t + 5) _) (t + 4) k = _
    rw [aI_rA' (by omega), aI_rA, if_pos rfl, cpy_at (by omega), Nat.zero_add]
    exact s8 k hk
  · show aI (rA (rA (rA M2 (t + 3) _) (t + 4) _) (t + 5) _) (t + 5) k = _
    rw [aI_rA, if_pos rfl, cpy_at (by omega), Nat.zero_add]
    exact s9 k hk
  · exact f3.trans (Sm.trans (Sm.rA (by omega)) (Sm.trans (Sm.rA (by omega)) (Sm.trans (Sm.rA (by omega)) (Sm.uI (by omega)))))
end R
