/-! letters are fed, eight in a number -/
theorem sh8u : ∀ k : Nat, k < 8 → Int64.toUInt64 (Int32.toInt64 (Int32.ofNat (8 * k))) &&& Int64.toUInt64 63 = UInt64.ofNat (8 * k) := by decide +kernel
theorem lby_nw {x : Int64} {i : Nat} (hi : i < 8) : lby x i = Int32.ofNat (nw x / 2 ^ (8 * i) % 256) := by
  unfold lby
  rw [sh8u i hi]
  apply Int32.toBitVec_inj.mp
  apply BitVec.eq_of_toNat_eq
  have h1 : (Int64.toInt32 (UInt64.toInt64 (x.toUInt64 >>> UInt64.ofNat (8 * i))) &&& 255).toBitVec = (UInt64.toInt64 (x.toUInt64 >>> UInt64.ofNat (8 * i))).toBitVec.signExtend 32 &&& 255#32 := rfl
  rw [h1, BitVec.signExtend_eq_setWidth_of_le _ (by omega), BitVec.toNat_and, BitVec.toNat_setWidth]
  have h2 : (UInt64.toInt64 (x.toUInt64 >>> UInt64.ofNat (8 * i))).toBitVec.toNat = nw x / 2 ^ (8 * i) := nw_shr (by omega)
  rw [h2]
  generalize nw x / 2 ^ (8 * i) = q
  have h3 : (Int32.ofNat (q % 256)).toBitVec.toNat = q % 256 := by
    show (BitVec.ofNat 32 _).toNat = _
    rw [BitVec.toNat_ofNat, Nat.mod_eq_of_lt (by omega)]
  rw [h3]
  show _ &&& 2 ^ 8 - 1 = _
  rw [Nat.and_two_pow_sub_one_eq_mod]
  omega
/-- letters packed, from the place i on -/
def pk (g : Nat → Int32) (i : Nat) : Nat → Int64
  | 0 => 0
  | j + 1 => (pk g i j <<< (Int32.toInt64 (8 : Int32) &&& 63)) ||| Int32.toInt64 (g (i + j))
theorem sh_c8 : (Int32.toInt64 (8 : Int32) &&& 63) = Int64.ofNat 8 := by decide
theorem isLt_nat {x : Int32} (h : isLt x = true) : ∃ c : Nat, 1 ≤ c ∧ c < 128 ∧ x = Int32.ofNat c := by
  have := isLt_in h
  exact ⟨x.toNatClampNeg, by grind, by grind, by grind⟩
theorem pk_nw {g : Nat → Int32} {i : Nat} : ∀ j, j ≤ 8 → (∀ t, t < j → isLt (g (i + t)) = true) → nw (pk g i j) < 2 ^ (8 * j) ∧ ∀ q, q < 8 → Int32.ofNat (nw (pk g i j) / 2 ^ (8 * q) % 256) = if q < j then g (i + (j - 1 - q)) else 0 := by
  intro j
  induction j with
  | zero =>
    intro _ _
    refine ⟨by rw [pk, nw_0]; decide, fun q hq => ?_⟩
    rw [pk, nw_0, Nat.zero_div]
    rfl
  | succ j ih =>
    intro hj hg
    obtain ⟨h1, h2⟩ := ih (by omega) (fun t ht => hg t (by omega))
    obtain ⟨c, c0, c1, c2⟩ := isLt_nat (hg j (by omega))
    have hv : nw (pk g i (j + 1)) = c + nw (pk g i j) * 2 ^ 8 := by
      rw [pk, nw_or, sh_c8, nw_shl (by omega), c2, nw_32 (by omega)]
      have h3 : nw (pk g i j) * 2 ^ 8 < 2 ^ 64 := by
        have h4 : 2 ^ (8 * j) ≤ 2 ^ 56 := Nat.pow_le_pow_right (by omega) (by omega)
        omega
      rw [Nat.mod_eq_of_lt h3, Nat.or_comm, or_add (by omega)]
    rw [hv]
    generalize nw (pk g i j) = v at h1 h2
    refine ⟨?_, fun q hq => ?_⟩
    · have e : 2 ^ (8 * (j + 1)) = 2 ^ (8 * j) * 256 := by rw [show 8 * (j + 1) = 8 * j + 8 by omega, Nat.pow_add]
      rw [e]
      omega
    · cases q with
      | zero =>
        rw [if_pos (by omega), show j + 1 - 1 - 0 = j by omega, c2]
        congr 1
        omega
      | succ q =>
        have e : (c + v * 2 ^ 8) / 2 ^ (8 * (q + 1)) = v / 2 ^ (8 * q) := by
          rw [show 8 * (q + 1) = 8 + 8 * q by omega, Nat.pow_add, ← Nat.div_div_eq_div_mul]
          congr 1
          omega
        rw [e, h2 q (by omega)]
        by_cases z : q < j
        · rw [if_pos z, if_pos (by omega), show j - 1 - q = j + 1 - 1 - (q + 1) by omega]
        · rw [if_neg z, if_neg (by omega)]
/-- the bytes in the order in which they are fed -/
def gk (g : Nat → Int32) (i j k : Nat) : Int32 := if 8 - j ≤ k then g (i + (k - (8 - j))) else 0
theorem gk_lby {g : Nat → Int32} {i j : Nat} (hj : j ≤ 8) (hg : ∀ t, t < j → isLt (g (i + t)) = true) : ∀ k, k < 8 → lby (pk g i j) (7 - k) = gk g i j k := by
  intro k hk
  rw [lby_nw (by omega), (pk_nw j hj hg).2 (7 - k) (by omega)]
  unfold gk
  by_cases z : 7 - k < j
  · rw [if_pos z, if_pos (by omega), show j - 1 - (7 - k) = k - (8 - j) by omega]
  · rw [if_neg z, if_neg (by omega)]
theorem gk_all {g : Nat → Int32} {i j m : Nat} {r : Nat → Int32} (hj : j ≤ 8) (hg : ∀ t, t < j → isLt (g (i + t)) = true) : ∀ k, k ≤ 8 → nB (gk g i j) k = k - (8 - j) ∧ aB (gk g i j) k = true ∧ ∀ t, wB (gk g i j) m r k t = if m ≤ t ∧ t < m + (k - (8 - j)) then g (i + (t - m)) else r t := by
  intro k
  induction k with
  | zero =>
    intro _
    refine ⟨by rw [nB]; omega, rfl, fun t => ?_⟩
    rw [wB, if_neg (by omega)]
  | succ k ih =>
    intro hk
    obtain ⟨h1, h2, h3⟩ := ih (by omega)
    rw [nB, aB, wB, h1, h2]
    by_cases z : 8 - j ≤ k
    · have hlt := hg (k - (8 - j)) (by omega)
      have e : gk g i j k = g (i + (k - (8 - j))) := if_pos z
      have hne : ¬ gk g i j k = 0 := by
        rw [e]
        have := isLt_in hlt
        grind
      rw [if_neg hne, if_neg hne]
      refine ⟨by omega, by rw [e, hlt]; simp, fun t => ?_⟩
      unfold up1
      by_cases z2 : t = m + (k - (8 - j))
      · rw [if_pos z2, if_pos (by omega), e, z2]
        congr 2
        omega
      · rw [if_neg z2, h3 t]
        by_cases z3 : m ≤ t ∧ t < m + (k - (8 - j))
        · rw [if_pos z3, if_pos (by omega)]
        · rw [if_neg z3, if_neg (by omega)]
    · have e : gk g i j k = 0 := if_neg z
      rw [if_pos e, if_pos e]
      refine ⟨by omega, by rw [e]; rfl, fun t => ?_⟩
      rw [h3 t, show k - (8 - j) = k + 1 - (8 - j) by omega]
theorem feed_ok {σ : Sto} {g : Nat → Int32} {i j m : Nat} (hj : j ≤ 8) (hg : ∀ t, t < j → isLt (g (i + t)) = true) (hl : fI σ 8 1 = Int32.ofNat m) (hm : m + j ≤ 200) : ∃ r, f11_feed σ (pk g i j) = some (.inl (Int32.ofNat (m + j), uI (rA σ 9 r) 8 1 (Int32.ofNat (m + j)))) ∧ ∀ t, r t = if m ≤ t ∧ t < m + j then g (i + (t - m)) else aI σ 9 t := by
  obtain ⟨h1, h2, h3⟩ := gk_all (m := m) (r := aI σ 9) hj hg 8 (Nat.le_refl _)
  rw [show 8 - (8 - j) = j by omega] at h1 h3
  refine ⟨_, ?_, h3⟩
  rw [c11_feedg (gk_lby hj hg) hl (by omega), h1, if_pos h2, if_pos hm]
theorem feeds_ok {τ : LawS} {a1 m : Nat} {D : Doc} {T : Hst} (h : In τ.2 D T) (hm : m ≤ 40) (hq : m ≤ lq a1) (hl : ∀ k, k < m → isLt (τ.1 a1 k) = true) : ∃ σ', fL_feeds τ a1 (Int32.ofNat m) = some (1, (τ.1, σ')) ∧ In σ' D T ∧ Sm (fun a => a ≠ 8 ∧ a ≠ 9) τ.2 σ' ∧ fI σ' 8 1 = Int32.ofNat m ∧ ∀ k, k < m → aI σ' 9 k = τ.1 a1 k := by
  have inner : ∀ (k : Nat) (M : LawS), M.1 = τ.1 → k < m → loopF (fun s_23 => fL_feeds_b23 a1 (Int32.ofNat m) M (Int32.ofNat k) s_23.1 s_23.2) FU (0, Int32.ofNat k) = some (pk (τ.1 a1) k (min 8 (m - k))) := by
    intro k M hM hk
    apply Ok_eq
    refine Ok_count (min 8 (m - k)) (fun t z => z = (pk (τ.1 a1) k t, Int32.ofNat (k + t))) ?_ 0 rfl (Nat.zero_le _) (by (show _ < FU); unfold FU; omega)
    rintro t z ht rfl
    show Ok (fL_feeds_b23 a1 (Int32.ofNat m) M (Int32.ofNat k) (pk (τ.1 a1) k t) (Int32.ofNat (k + t))) _
    unfold fL_feeds_b23
    have e8 : Int32.ofNat k + 8 = Int32.ofNat (k + 8) := i32_add
    rw [e8]
    simp only [i32_le (show k + 8 < 2147483648 by omega) (show k + t < 2147483648 by omega), i32_le (show m < 2147483648 by omega) (show k + t < 2147483648 by omega)]
    by_cases z1 : k + 8 ≤ k + t
    · rw [if_pos z1, Ok_some, lp_inr, show t = min 8 (m - k) by omega]
    rw [if_neg z1]
    by_cases z2 : m ≤ k + t
    · rw [if_pos z2, Ok_some, lp_inr, show t = min 8 (m - k) by omega]
    rw [if_neg z2, inb_n (show k + t < lq a1 by omega) (by unfold lq; repeat (first | split | omega)), gd_true, stp, stp, Ok_some, lp_inl, hM, ofNat_clamp (by omega), i32_succ]
    exact ⟨by omega, rfl⟩
  have outer : Ok (loopF (fun s_10 => fL_feeds_b10 a1 (Int32.ofNat m) s_10.1 s_10.2.1 s_10.2.2) FU ((τ.1, uI τ.2 8 1 0), 0, 0)) (fun r => ∃ σ', r = ((τ.1, σ'), Int32.ofNat m) ∧ Sm (fun a => a ≠ 8 ∧ a ≠ 9) τ.2 σ' ∧ fI σ' 8 1 = Int32.ofNat m ∧ ∀ k, k < m → aI σ' 9 k = τ.1 a1 k) := by
    refine Ok_count ((m + 7) / 8) (fun q z => ∃ σ', z = ((τ.1, σ'), Int32.ofNat (min (8 * q) m), Int32.ofNat (8 * q)) ∧ Sm (fun a => a ≠ 8 ∧ a ≠ 9) τ.2 σ' ∧ fI σ' 8 1 = Int32.ofNat (min (8 * q) m) ∧ ∀ k, k < min (8 * q) m → aI σ' 9 k = τ.1 a1 k) ?_ 0 ⟨uI τ.2 8 1 0, by rw [Nat.mul_zero, Nat.zero_min]; rfl, Sm.uI (fun b hb => hb.1), by rw [Nat.mul_zero, Nat.zero_min]; rfl, fun k hk => by omega⟩ (Nat.zero_le _) (by (show _ < FU); unfold FU; omega)
    rintro q z hq' ⟨σ', rfl, s1, s2, s3⟩
    show Ok (fL_feeds_b10 a1 (Int32.ofNat m) (τ.1, σ') (Int32.ofNat (min (8 * q) m)) (Int32.ofNat (8 * q))) _
    unfold fL_feeds_b10
    simp only [i32_le (show m < 2147483648 by omega) (show 8 * q < 2147483648 by omega)]
    by_cases z1 : m ≤ 8 * q
    · rw [if_pos z1, Ok_some, lp_inr]
      rw [show min (8 * q) m = m by omega] at s2 s3 ⊢
      exact ⟨σ', rfl, s1, s2, s3⟩
    rw [if_neg z1, stp, stp]
    unfold fL_feeds_j23
    rw [inner (8 * q) (τ.1, σ') rfl (by omega), bnd_some]
    unfold fL_feeds_j58
    obtain ⟨r, r1, r2⟩ := feed_ok (σ := σ') (g := τ.1 a1) (i := 8 * q) (j := min 8 (m - 8 * q)) (m := min (8 * q) m) (by omega) (fun t ht => hl _ (by omega)) s2 (by omega)
    rw [show (τ.1, σ').2 = σ' from rfl, r1, nox_inl, bnd_some, stp, stp, Ok_some, lp_inl]
    have e8 : Int32.ofNat (8 * q) + 8 = Int32.ofNat (8 * (q + 1)) := i32_add
    have em : min (8 * q) m + min 8 (m - 8 * q) = min (8 * (q + 1)) m := by omega
    rw [em, e8]
    refine ⟨by omega, _, rfl, s1.trans (Sm.trans (Sm.rA (fun b hb => hb.2)) (Sm.uI (fun b hb => hb.1))), rfl, fun k hk => ?_⟩
    show r k = _
    rw [r2 k]
    by_cases z2 : min (8 * q) m ≤ k ∧ k < min (8 * q) m + min 8 (m - 8 * q)
    · rw [if_pos z2, show 8 * q + (k - min (8 * q) m) = k by omega]
    · rw [if_neg z2]
      exact s3 k (by omega)
  obtain ⟨r, k1, σ', rfl, k2, k3, k4⟩ := outer
  have hin : In σ' D T := h.tape k2 (show m ≤ 200 by omega) k3 (fun k hk => by rw [k4 k hk]; exact hl k hk)
  refine ⟨σ', ?_, hin, k2, k3, k4⟩
  unfold fL_feeds fL_feeds_j10
  rw [q_clear, bnd_some, stp, stp, stp, k1, bnd_some, if_pos rfl]
  rw [show ((τ.1, σ'), Int32.ofNat m).1.2 = σ' from rfl, ob_c5, nox_inl, bnd_some, if_pos k3]
  unfold fL_feeds_j90
  rfl
