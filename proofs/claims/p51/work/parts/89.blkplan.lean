/-! a block's parts: the class's loop -/
theorem sg_mono {h : Nat → Nat} {k r : Nat} (hk : k ≤ r) : sg h k ≤ sg h r := by
  induction r with
  | zero =>
    have : k = 0 := by omega
    rw [this]
    exact Nat.le_refl _
  | succ r ih =>
    by_cases e : k = r + 1
    · rw [e]
      exact Nat.le_refl _
    · exact Nat.le_trans (ih (by omega)) (Nat.le_add_right _ _)
section R
variable {σ S : Sto} {L B H : Nat} {f : Nat → Int32} {n : Nat} {bf ef : Nat → Nat} {l0 col w r : Nat} {cl : Nat → Int32}
/-- what the block's parts go by -/
def BQ (σ : Sto) (f : Nat → Int32) (n : Nat) (bf ef : Nat → Nat) (l0 col w r : Nat) (cl : Nat → Int32) : Prop := isLn f n bf ef ∧ ends f n < 300 ∧ n ≤ 3000 ∧ l0 ≤ ends f n ∧ col ≤ n ∧ (1 ≤ r ∧ r ≤ 300 ∧ 1 ≤ w ∧ w ≤ 40) ∧ fI σ 10 2 = Int32.ofNat r ∧ fI σ 10 3 = Int32.ofNat w ∧ (∀ k, k < w * r → aI σ 12 k = cl k ∧ isLt (cl k) = true)
theorem c2_rowStep (q : BQ σ f n bf ef l0 col w r cl) (hC : CT σ 1 L B f n) (hL : (L = 2 ∧ B = 3 ∧ H = 4) ∨ (L = 20 ∧ B = 21 ∧ H = 22)) {k : Nat} (hk : k < r) (h : CS σ S (bqD (ends f n) n bf ef l0 col w cl k)) : ∃ S', f2_planBlock_b42 1 S (Int32.ofNat l0) (Int32.ofNat col) (Int32.ofNat k) = some (.inl (S', Int32.ofNat (k + 1))) ∧ (CS σ S' (bqD (ends f n) n bf ef l0 col w cl (k + 1)) ∨ FL σ S' (sg (bqL (ends f n) bf ef l0 col w) (k + 1))) := by
  obtain ⟨hbe, hE, hn, hl0, hcol, ⟨hr1, hr3, hw1, hw4⟩, h102, h103, hcl⟩ := q
  have hwr : w * r ≤ 12000 := Nat.le_trans (Nat.mul_le_mul hw4 hr3) (by omega)
  have hwk : w * k + w ≤ w * r := by
    have : w * (k + 1) ≤ w * r := Nat.mul_le_mul_left w hk
    rw [Nat.mul_succ] at this
    exact this
  obtain ⟨d1, d2, d3, d4, d5⟩ := bqD_in hbe (l0 := l0) (col := col) (fun k hk => (hcl k hk).2) k (by omega)
  have hP := bqP_le hbe (l0 := l0) (col := col) (i := k)
  have hfr : Sm (fun a => ¬ (13 ≤ a ∧ a ≤ 19)) σ S := h.1.1
  have hflag : fI S 13 6 = 0 := h.1.2.2.1
  have hC1 : CT S 1 L B f n := hC.congr (hfr 1 (by omega)).1 (hfr 1 (by omega)).2.1 (hfr L (by omega)).2.2.1 (hfr B (by omega)).2.2.1
  have hlast : (bqD (ends f n) n bf ef l0 col w cl k).1 ≠ 0 → (bqD (ends f n) n bf ef l0 col w cl k).2.1 ((bqD (ends f n) n bf ef l0 col w cl k).1 - 1) ≤ bqP (ends f n) n bf ef l0 col k := fun z => by
    cases k with
    | zero => exact absurd rfl z
    | succ j =>
      rw [d5 j rfl]
      exact (bqP_le hbe).2.1
  have hopen := c1_open h (p := bqP (ends f n) n bf ef l0 col k) (by omega) (by omega) (fun i hi => by
    have := d1.2.2.2.1 i hi
    show _ ≤ 3000
    exact Nat.le_trans this hn)
  obtain ⟨o1, o2, o3, o4, o5⟩ := d1.opn hP.1 hlast
  obtain ⟨S1, s1, s2⟩ := hopen
  have e0 : (Int32.ofNat r ≤ Int32.ofNat k) ↔ r ≤ k := i32_le (by omega) (by omega)
  have hln : fI S 1 4 = Int32.ofNat (ends f n + 1) := hC1.2.2.2.1
  have hgb : ∀ e, e = bqH (ends f n) l0 k → ∀ i, i < bqF (ends f n) bf ef l0 col k → bqG (ends f n) bf ef l0 col w cl k (e + i) = 32 := fun e he i hi => by
    unfold bqG
    rw [if_neg (by omega), if_pos (by omega)]
  have hgc : ∀ e, e = bqH (ends f n) l0 k + bqF (ends f n) bf ef l0 col k → ∀ i, i < w → bqG (ends f n) bf ef l0 col w cl k (e + i) = aI σ 12 (w * k + i) ∧ isLt (bqG (ends f n) bf ef l0 col w cl k (e + i)) = true := fun e he i hi => by
    have h1 : bqG (ends f n) bf ef l0 col w cl k (e + i) = cl (w * k + i) := by
      unfold bqG
      rw [if_neg (by omega), if_neg (by omega), he, Nat.add_sub_cancel_left]
    rw [h1, (hcl _ (by omega)).1]
    exact ⟨rfl, (hcl _ (by omega)).2⟩
  have ht : (bdO (bqP (ends f n) n bf ef l0 col k) (bqD (ends f n) n bf ef l0 col w cl k)).2.2.2.2.1 = sg (bqL (ends f n) bf ef l0 col w) k := o4.trans d3
  unfold f2_planBlock_b42 f2_planBlock_j142
  rw [(hfr 10 (by omega)).1, h102]
  simp only [e0]
  rw [if_neg (by omega), if_pos hflag, stp, hln, i32_add]
  simp only [i32_le (show ends f n + 1 < 2147483648 by omega) (show l0 + k < 2147483648 by omega)]
  by_cases c : l0 + k ≤ ends f n
  · rw [if_neg (by omega)]
    obtain ⟨c1, c2, c3⟩ := ct_ln hC1 hbe c
    obtain ⟨b1, b2, b3, b4⟩ := hbe _ c
    have hc9 := hC1.2.2.2.2.2.1
    have hen := b2.1
    have eP : bqP (ends f n) n bf ef l0 col k = min (ef (l0 + k)) (bf (l0 + k) + col) := by
      unfold bqP
      rw [if_pos c]
    have eF : bqF (ends f n) bf ef l0 col k = col - (min (ef (l0 + k)) (bf (l0 + k) + col) - bf (l0 + k)) := by
      unfold bqF
      rw [if_pos c]
    have eH : bqH (ends f n) l0 k = 0 := by
      unfold bqH
      rw [if_pos c]
    rw [c2, bnd_some, stp, hc9.1, okr_s.mpr hc9.2.1, gd_true, Nat.add_sub_cancel, c3, gd_true, ofNat_clamp (by omega), c1, i32_add, imin_n (by omega) (by omega), stp, gd_true, gd_true, i32_sub (by omega), i32_sub (by omega), stp, ← eP, s1, bnd_some]
    obtain ⟨S2, p1, p2⟩ := c2_putRow (Or.inl s2.zero) o2 (hgb 0 eH.symm) (by rw [eF]; omega) (hgc (0 + bqF (ends f n) bf ef l0 col k) (by rw [eH])) hk hr3 hw4 hwr h103 rfl (show Int32.ofNat (col - (bqP (ends f n) n bf ef l0 col k - bf (l0 + k))) = Int32.ofNat (bqF (ends f n) bf ef l0 col k) by rw [eF, eP])
    rw [p1, bnd_some, stp, i32_succ]
    refine ⟨S2, rfl, ?_⟩
    rw [ht] at p2
    have eL : 0 + bqF (ends f n) bf ef l0 col k + w = bqL (ends f n) bf ef l0 col w k := by
      unfold bqL
      rw [eH]
    rw [eL] at p2
    exact p2
  · rw [if_pos (by omega)]
    have eP : bqP (ends f n) n bf ef l0 col k = n := by
      unfold bqP
      rw [if_neg c]
    have eF : bqF (ends f n) bf ef l0 col k = col := by
      unfold bqF
      rw [if_neg c]
    have eH : bqH (ends f n) l0 k = 1 := by
      unfold bqH
      rw [if_neg c]
    have hnn : fI S 1 1 = Int32.ofNat n := hC1.2.2.1
    obtain ⟨S2, q1, q2⟩ := c1_put (g := bqG (ends f n) bf ef l0 col w cl k) (e := 0) (x := 10) s2.zero o2 (by
      unfold bqG
      rw [if_pos (by omega)]) (by decide)
    rw [eP] at s1
    obtain ⟨S3, p1, p2⟩ := c2_putRow q2 o2 (hgb 1 eH.symm) (by rw [eF]; omega) (hgc (1 + bqF (ends f n) bf ef l0 col k) (by rw [eH])) hk hr3 hw4 hwr h103 rfl (show Int32.ofNat col = Int32.ofNat (bqF (ends f n) bf ef l0 col k) by rw [eF])
    rw [hnn, s1, bnd_some, q1, bnd_some, p1, bnd_some, stp, i32_succ]
    refine ⟨S3, rfl, ?_⟩
    rw [ht] at p2
    have eL : 1 + bqF (ends f n) bf ef l0 col k + w = bqL (ends f n) bf ef l0 col w k := by
      unfold bqL
      rw [eH]
    rw [eL] at p2
    exact p2
theorem c2_planBlock (q : BQ σ f n bf ef l0 col w r cl) (hC : CT σ 1 L B f n) (hL : (L = 2 ∧ B = 3 ∧ H = 4) ∨ (L = 20 ∧ B = 21 ∧ H = 22)) {p : Nat} (hp : p ≤ n) (h5 : aI σ 5 0 = Int32.ofNat p) (hl : l0 = ends f p) (hcol : col = p - bf l0) : ∃ S', f2_planBlock σ 1 = some S' ∧ (CS σ S' (bqD (ends f n) n bf ef l0 col w cl r) ∨ FL σ S' (sg (bqL (ends f n) bf ef l0 col w) r)) := by
  have q' := q
  obtain ⟨hbe, hE, hn, hl0, hcol2, ⟨hr1, hr3, hw1, hw4⟩, h102, h103, hcl⟩ := q
  obtain ⟨c1, c2, c3⟩ := ct_ln hC hbe hl0
  have hc9 := hC.2.2.2.2.2.1
  have hbp : bf l0 ≤ p := (hbe l0 hl0).1.le_iff.mpr (by omega)
  obtain ⟨u, u1, u2⟩ := c1_begin (σ := σ) (a1 := 12) (s := 0) (m := 0) (x := 0) (y := 0) rfl rfl (by omega) (by omega) (by omega) (fun i hi => by omega)
  unfold f2_planBlock f2_planBlock_j42 f2_planBlock_j157
  have i0 : inb 0 8 = true := by decide
  have e0 : (0 : Int32).toNatClampNeg = 0 := by decide
  rw [i0, gd_true, e0, show aI σ (1 + 4) 0 = aI σ 5 0 from rfl, h5, c8_lineWith hC rfl hp, bnd_some, stp, gd_true, hc9.1, okr_s.mpr hc9.2.1, gd_true, Nat.add_sub_cancel, ← hl, c3, gd_true, ofNat_clamp (by omega), c1, i32_sub hbp, stp, ← hcol, u1, bnd_some, stp]
  have key : Ok (loopF (fun s_42 => f2_planBlock_b42 1 s_42.1 (Int32.ofNat l0) (Int32.ofNat col) s_42.2) FU (uI (rA (uI (uI σ 13 4 0) 13 6 0) 19 u) 18 1 (Int32.ofNat 0), 0)) (fun S' => CS σ S' (bqD (ends f n) n bf ef l0 col w cl r) ∨ FL σ S' (sg (bqL (ends f n) bf ef l0 col w) r)) := by
    refine Ok_count r (fun k z => z.2 = Int32.ofNat k ∧ (CS σ z.1 (bqD (ends f n) n bf ef l0 col w cl k) ∨ FL σ z.1 (sg (bqL (ends f n) bf ef l0 col w) k))) ?_ 0 ⟨rfl, Or.inl ?_⟩ (by omega) (by (show _ < FU; unfold FU; omega))
    · rintro k ⟨M, z⟩ hk ⟨rfl, h⟩
      show Ok (f2_planBlock_b42 1 M (Int32.ofNat l0) (Int32.ofNat col) (Int32.ofNat k)) _
      have hfr : Sm (fun a => ¬ (13 ≤ a ∧ a ≤ 19)) σ M := by
        rcases h with h | h
        · exact h.1.1
        · exact h.1.1
      by_cases hq : r ≤ k
      · have e1 : f2_planBlock_b42 1 M (Int32.ofNat l0) (Int32.ofNat col) (Int32.ofNat k) = some (.inr M) := by
          unfold f2_planBlock_b42
          rw [(hfr 10 (by omega)).1, h102, if_pos ((i32_le (by omega) (by omega)).mpr hq)]
        rw [e1, Ok_some, lp_inr, show r = k by omega]
        exact h
      · rcases h with h | h
        · obtain ⟨S', k1, k2⟩ := c2_rowStep q' hC hL (by omega) h
          rw [k1, Ok_some, lp_inl]
          exact ⟨by omega, rfl, k2⟩
        · have e1 : f2_planBlock_b42 1 M (Int32.ofNat l0) (Int32.ofNat col) (Int32.ofNat k) = some (.inr M) := by
            unfold f2_planBlock_b42
            rw [(hfr 10 (by omega)).1, h102, if_neg (fun z => hq ((i32_le (by omega) (by omega)).mp z)), if_neg h.2.1]
          rw [e1, Ok_some, lp_inr]
          exact Or.inr (h.mono (sg_mono (by omega)))
    · refine ⟨⟨?_, rfl, rfl, rfl, rfl⟩, ⟨Nat.zero_le _, Nat.zero_le _⟩, fun k hk => absurd hk (Nat.not_lt_zero k), fun q hq => absurd hq (Nat.not_lt_zero q)⟩
      exact Sm.trans (Sm.uI (by omega)) (Sm.trans (Sm.uI (by omega)) (Sm.trans (Sm.rA (by omega)) (Sm.uI (by omega))))
  obtain ⟨S', k1, k2⟩ := key
  exact ⟨S', by rw [k1, bnd_some], k2⟩
end R
