/-! what lies behind and ahead -/
theorem cB_mono {P : Nat → Bool} {a b : Nat} (h : a ≤ b) : cB P a ≤ cB P b := by
  induction b with
  | zero =>
    have : a = 0 := by omega
    rw [this]
    exact Nat.le_refl _
  | succ b ih =>
    by_cases e : a = b + 1
    · rw [e]
      exact Nat.le_refl _
    · have := ih (by omega)
      rw [cB]
      omega
theorem cB_hit {P : Nat → Bool} {c : Nat} : ∀ {N : Nat}, c < cB P N → ∃ j, j < N ∧ P j = true ∧ cB P j = c := by
  intro N
  induction N with
  | zero => intro h; exact absurd h (Nat.not_lt_zero _)
  | succ N ih =>
    intro h
    by_cases h1 : c < cB P N
    · obtain ⟨j, j1, j2, j3⟩ := ih h1
      exact ⟨j, by omega, j2, j3⟩
    · rw [cB] at h
      by_cases q : P N = true
      · rw [if_pos q] at h
        exact ⟨N, by omega, q, by omega⟩
      · rw [if_neg q] at h
        omega
theorem ofNat_eq {x y : Nat} (hx : x < 2147483648) (hy : y < 2147483648) : Int32.ofNat x = Int32.ofNat y ↔ x = y := by grind
section R
variable {σ μ : Sto} {L B H : Nat} {D : Doc} {N x : Nat} {par cho : Nat → Nat} {Bf Af : Nat → Doc} {o : Int64}
theorem depth_both (h : RH σ μ (N, x, par, cho, Bf, Af)) : ∃ k : Nat, f4_countBehind σ = some (Int32.ofNat k) ∧ f12_depth μ = some (Int32.ofNat k) ∧ k ≤ 150 ∧ upw par k x = 0 ∧ ∀ j, j < k → upw par j x ≠ 0 := by
  have h' := h
  obtain ⟨⟨g1, g2, g3, g4, g5, g6, g7, g8⟩, h5, h6, h7, h8, h9, h10⟩ := h
  have hpl : ∀ i, 1 ≤ i → i ≤ N → par i < i := fun i i1 i2 => (h5 i i1 i2).1
  have hup : ∀ k y, upw par (k + 1) y = par (upw par k y) := by
    intro k
    induction k with
    | zero => intro y; rfl
    | succ k ih =>
      intro y
      show upw par (k + 1) (par y) = par (upw par k (par y))
      exact ih (par y)
  have key : ∃ r r', loopF (fun s_10 => f4_countBehind_b10 σ s_10.1 s_10.2) FU (0, pRf par x) = some r ∧ loopF (fun s_7 => f12_depth_b7 μ s_7.1 s_7.2) FU (0, Int32.ofNat x) = some r' ∧ ∃ k : Nat, r = Int32.ofNat k ∧ r' = Int32.ofNat k ∧ k ≤ 150 ∧ upw par k x = 0 ∧ ∀ j, j < k → upw par j x ≠ 0 := by
    refine loop2 150 (fun k s s' => s = (Int32.ofNat k, pRf par (upw par k x)) ∧ s' = (Int32.ofNat k, Int32.ofNat (upw par k x)) ∧ upw par k x + k ≤ 150 ∧ upw par k x ≤ N ∧ ∀ j, j < k → upw par j x ≠ 0) ?_ 0 ⟨rfl, rfl, by show x + 0 ≤ 150; omega, g2, fun j hj => by omega⟩ (by omega) (by (show _ < FU; unfold FU; omega)) (by (show _ < FU; unfold FU; omega))
    rintro k s s' hk ⟨rfl, rfl, hb, hN, hj⟩
    show (∃ t t', f4_countBehind_b10 σ (Int32.ofNat k) (pRf par (upw par k x)) = _ ∧ f12_depth_b7 μ (Int32.ofNat k) (Int32.ofNat (upw par k x)) = _ ∧ _) ∨ ∃ r r', f4_countBehind_b10 σ (Int32.ofNat k) (pRf par (upw par k x)) = _ ∧ f12_depth_b7 μ (Int32.ofNat k) (Int32.ofNat (upw par k x)) = _ ∧ _
    rw [hup]
    generalize hy : upw par k x = y at hb hN
    unfold f4_countBehind_b10 f12_depth_b7
    by_cases e : y = 0
    · rw [if_pos (pRf_0.mpr e), if_pos ((ofNat_z0 (by omega)).mpr e)]
      exact Or.inr ⟨_, _, rfl, rfl, k, rfl, rfl, hk, by omega, hj⟩
    · rw [if_neg (fun z => e (pRf_0.mp z)), if_neg (fun z => e ((ofNat_z0 (by omega)).mp z))]
      obtain ⟨p1, p2, p3⟩ := h5 y (by omega) hN
      have e1 : pRf par y = 26 + 13 * par y + 1 := by
        unfold pRf
        rw [if_neg e]
      have e2 : fR σ (26 + 13 * par y) 0 = pRf par (par y) := by
        by_cases z : par y = 0
        · rw [pRf_0.mpr z, z]
          exact g7
        · unfold pRf
          rw [if_neg z]
          exact (h5 (par y) (by omega) (by omega)).2.1
      simp only [stp]
      rw [e1, okr_node (by omega), gd_true, Nat.add_sub_cancel, e2, inb_n (show y < 151 by omega) (by omega), gd_true, ofNat_clamp (by omega), p3, i32_succ]
      refine Or.inl ⟨_, _, rfl, rfl, by omega, rfl, rfl, by omega, by omega, fun j hj2 => ?_⟩
      by_cases z : j = k
      · rw [z, hy]
        exact e
      · exact hj j (by omega)
  obtain ⟨r, r', k1, k2, k, rfl, rfl, k3⟩ := key
  refine ⟨k, ?_, ?_, k3⟩
  · unfold f4_countBehind f4_countBehind_j10
    rw [stp, g5, okr_node (by omega), gd_true, Nat.add_sub_cancel, h'.pRf, stp, k1, bnd_some]
  · unfold f12_depth f12_depth_j7
    rw [stp, g6, stp, k2, bnd_some]
theorem chain_both (h : RH σ μ (N, x, par, cho, Bf, Af)) : ∃ v, f4_countAhead σ = some v ∧ f12_chain μ = some v := by
  have h' := h
  obtain ⟨⟨g1, g2, g3, g4, g5, g6, g7, g8⟩, h5, h6, h7, h8, h9, h10⟩ := h
  have key : ∃ r r', loopF (fun s_10 => f4_countAhead_b10 σ s_10.1 s_10.2) FU (0, cRf cho x) = some r ∧ loopF (fun s_12 => f12_chain_b12 μ s_12.1 s_12.2) FU (0, Int32.ofNat (cho x)) = some r' ∧ r = r' := by
    refine loop2 150 (fun k s s' => ∃ y, s = (Int32.ofNat k, cRf cho y) ∧ s' = (Int32.ofNat k, Int32.ofNat (cho y)) ∧ k ≤ y ∧ y ≤ N) ?_ 0 ⟨x, rfl, rfl, Nat.zero_le _, g2⟩ (by omega) (by (show _ < FU; unfold FU; omega)) (by (show _ < FU; unfold FU; omega))
    rintro k s s' hk ⟨y, rfl, rfl, hky, hyN⟩
    show (∃ t t', f4_countAhead_b10 σ (Int32.ofNat k) (cRf cho y) = _ ∧ f12_chain_b12 μ (Int32.ofNat k) (Int32.ofNat (cho y)) = _ ∧ _) ∨ ∃ r r', f4_countAhead_b10 σ (Int32.ofNat k) (cRf cho y) = _ ∧ f12_chain_b12 μ (Int32.ofNat k) (Int32.ofNat (cho y)) = _ ∧ _
    obtain ⟨c1, c2, c3, c4⟩ := h6 y hyN
    unfold f4_countAhead_b10 f12_chain_b12
    by_cases e : cho y = 0
    · rw [if_pos (cRf_0.mpr e), if_pos ((ofNat_z0 (by omega)).mpr e)]
      exact Or.inr ⟨_, _, rfl, rfl, rfl⟩
    · rw [if_neg (fun z => e (cRf_0.mp z)), if_neg (fun z => e ((ofNat_z0 (by omega)).mp z))]
      have hlt : y < cho y := by
        have := (h5 (cho y) (by omega) c1).1
        have := c2 e
        omega
      obtain ⟨d1, d2, d3, d4⟩ := h6 (cho y) c1
      have e1 : cRf cho y = 26 + 13 * cho y + 1 := by
        unfold cRf
        rw [if_neg e]
      simp only [stp]
      rw [e1, okr_node (by omega), gd_true, Nat.add_sub_cancel, show fR σ (26 + 13 * cho y) 1 = cRf cho (cho y) from d3, inb_n (show cho y < 151 by omega) (by omega), gd_true, ofNat_clamp (by omega), d4, i32_succ]
      exact Or.inl ⟨_, _, rfl, rfl, by omega, cho y, rfl, rfl, by omega, c1⟩
  obtain ⟨r, r', k1, k2, rfl⟩ := key
  refine ⟨r, ?_, ?_⟩
  · unfold f4_countAhead f4_countAhead_j10
    rw [stp, g5, okr_node (by omega), gd_true, Nat.add_sub_cancel, h'.cRf, stp, k1, bnd_some]
  · unfold f12_chain f12_chain_j12
    rw [stp, g6, inb_n (show x < 151 by omega) (by omega), gd_true, ofNat_clamp (by omega), (h6 x g2).2.2.2, stp, k2, bnd_some]
/-- node j + 1 goes on from the present one -/
def ctB (par : Nat → Nat) (x j : Nat) : Bool := decide (par (j + 1) = x)
theorem par_ref (h : RH σ μ (N, x, par, cho, Bf, Af)) {j : Nat} (hj : j < N) : (fR σ (39 + 13 * j) 0 = fR σ 24 2 ↔ ctB par x j = true) ∧ (aI μ 2034 (j + 1) = fI μ 2017 32 ↔ ctB par x j = true) := by
  obtain ⟨⟨g1, g2, g3, g4, g5, g6, g7, g8⟩, h5, h6, h7, h8, h9, h10⟩ := h
  obtain ⟨p1, p2, p3⟩ := h5 (j + 1) (by omega) (by omega)
  unfold ctB
  rw [decide_eq_true_eq, show 39 + 13 * j = 26 + 13 * (j + 1) by omega, p2, g5, p3, g6, ofNat_eq (by omega) (by omega)]
  exact ⟨by omega, Iff.rfl⟩
theorem count_both (h : RH σ μ (N, x, par, cho, Bf, Af)) : f4_countContinuations σ = some (Int32.ofNat (cB (ctB par x) N)) ∧ f12_continuations μ = some (Int32.ofNat (cB (ctB par x) N)) := by
  have h' := h
  obtain ⟨⟨g1, g2, g3, g4, g5, g6, g7, g8⟩, h5, h6, h7, h8, h9, h10⟩ := h
  have hle := cB_le (P := ctB par x)
  constructor
  · have key : Ok (loopF (fun s_4 => f4_countContinuations_b4 σ s_4.1 s_4.2) FU (0, 0)) (fun v => v = Int32.ofNat (cB (ctB par x) N)) := by
      refine Ok_count N (fun k s => s = (Int32.ofNat (cB (ctB par x) k), Int32.ofNat k)) ?_ 0 rfl (by omega) (by (show _ < FU; unfold FU; omega))
      rintro k s hk rfl
      show Ok (f4_countContinuations_b4 σ (Int32.ofNat (cB (ctB par x) k)) (Int32.ofNat k)) _
      unfold f4_countContinuations_b4 f4_countContinuations_j42 f4_countContinuations_j43
      rw [g3]
      simp only [i32_le (show N < 2147483648 by omega) (show k < 2147483648 by omega)]
      by_cases hq : N ≤ k
      · rw [if_pos hq, Ok_some, lp_inr, show N = k by omega]
      · have hr := (par_ref h' (show k < N by omega)).1
        rw [if_neg hq, inb_n (show k < 150 by omega) (by omega), gd_true, gd_true, ofNat_clamp (by omega), if_neg (by omega), show 39 + 13 * k + 1 = 26 + 13 * (k + 1) + 1 by omega, okr_node (by omega), gd_true, i32_succ]
        have hs : cB (ctB par x) (k + 1) = cB (ctB par x) k + (if ctB par x k = true then 1 else 0) := rfl
        by_cases q : ctB par x k = true
        · rw [if_pos (hr.mpr q), stp, stp, Ok_some, lp_inl, hs, if_pos q]
          exact ⟨by omega, by rw [i32_succ]⟩
        · rw [if_neg (fun z => q (hr.mp z)), stp, stp, Ok_some, lp_inl, hs, if_neg q]
          exact ⟨by omega, by rw [show (0 : Int32) = Int32.ofNat 0 from rfl, i32_add, i32_succ]⟩
    obtain ⟨v, k1, rfl⟩ := key
    unfold f4_countContinuations f4_countContinuations_j4
    rw [stp, stp, k1, bnd_some]
  · have key : Ok (loopF (fun s_4 => f12_continuations_b4 μ s_4.1 s_4.2) FU (0, 1)) (fun v => v = Int32.ofNat (cB (ctB par x) N)) := by
      refine Ok_count N (fun k s => s = (Int32.ofNat (cB (ctB par x) k), Int32.ofNat (k + 1))) ?_ 0 rfl (by omega) (by (show _ < FU; unfold FU; omega))
      rintro k s hk rfl
      show Ok (f12_continuations_b4 μ (Int32.ofNat (cB (ctB par x) k)) (Int32.ofNat (k + 1))) _
      unfold f12_continuations_b4 f12_continuations_j31
      rw [g4]
      simp only [i32n_lt (show N < 2147483648 by omega) (show k + 1 < 2147483648 by omega)]
      by_cases hq : N < k + 1
      · rw [if_pos hq, Ok_some, lp_inr, show N = k by omega]
      · have hr := (par_ref h' (show k < N by omega)).2
        rw [if_neg hq, inb_n (show k + 1 < 151 by omega) (by omega), gd_true, ofNat_clamp (by omega), i32_succ]
        have hs : cB (ctB par x) (k + 1) = cB (ctB par x) k + (if ctB par x k = true then 1 else 0) := rfl
        by_cases q : ctB par x k = true
        · rw [if_pos (hr.mpr q), stp, stp, Ok_some, lp_inl, hs, if_pos q]
          exact ⟨by omega, by rw [i32_succ]⟩
        · rw [if_neg (fun z => q (hr.mp z)), stp, stp, Ok_some, lp_inl, hs, if_neg q]
          exact ⟨by omega, by rw [show (0 : Int32) = Int32.ofNat 0 from rfl, i32_add, i32_succ]⟩
    obtain ⟨v, k1, rfl⟩ := key
    unfold f12_continuations f12_continuations_j4
    rw [stp, stp, k1, bnd_some]
theorem op_acts (h : Rel σ μ) {y : Int32} : stH (f11_acts σ y) [(2, 1)] o (f12_acts_ μ y) RQ := by
  obtain ⟨D, L, B, H, ⟨N, x, par, cho, Bf, Af⟩, h0⟩ := id h
  have rh := h0.2.2.2.2.2.2.2.2.2.2.2
  obtain ⟨k, b1, b2, _⟩ := depth_both rh
  obtain ⟨v, a1, a2⟩ := chain_both rh
  obtain ⟨c1, c2⟩ := count_both rh
  unfold f11_acts f12_acts_
  by_cases e0 : Int32.toInt y = 0
  · rw [if_pos e0, if_pos e0, rh.1.2.2.1, rh.1.2.2.2.1, c12_told, bnd_some]
    exact stH_ok rfl rfl h
  rw [if_neg e0, if_neg e0]
  by_cases e1 : Int32.toInt y = 1
  · rw [if_pos e1, if_pos e1, b1, bnd_some, b2, bnd_some, c12_told, bnd_some]
    exact stH_ok rfl rfl h
  rw [if_neg e1, if_neg e1]
  by_cases e2 : Int32.toInt y = 2
  · rw [if_pos e2, if_pos e2, a1, bnd_some, a2, bnd_some, c12_told, bnd_some]
    exact stH_ok rfl rfl h
  rw [if_neg e2, if_neg e2]
  by_cases e3 : Int32.toInt y = 3
  · rw [if_pos e3, if_pos e3, c1, bnd_some, c2, bnd_some, c12_told, bnd_some]
    exact stH_ok rfl rfl h
  rw [if_neg e3, if_neg e3, c12_refuse, bnd_some]
  exact stH_er (c := 2) (t := 1) rfl (by decide) (by decide) rfl h
theorem contin (h : RH σ μ (N, x, par, cho, Bf, Af)) {y : Int32} : (∃ j, j < N ∧ ctB par x j = true ∧ y = Int32.ofNat (cB (ctB par x) j) ∧ f4_continuation σ y = some (26 + 13 * (j + 1) + 1)) ∨ ((∀ j, j < N → ctB par x j = true → y ≠ Int32.ofNat (cB (ctB par x) j)) ∧ f4_continuation σ y = some 0) := by
  have h' := h
  obtain ⟨⟨g1, g2, g3, g4, g5, g6, g7, g8⟩, h5, h6, h7, h8, h9, h10⟩ := h
  have key : Ok (loopF (fun s_4 => f4_continuation_b4 y σ s_4.1 s_4.2) FU (0, 0)) (fun r => (∃ j, j < N ∧ ctB par x j = true ∧ y = Int32.ofNat (cB (ctB par x) j) ∧ r = .inr (26 + 13 * (j + 1) + 1)) ∨ ((∀ j, j < N → ctB par x j = true → y ≠ Int32.ofNat (cB (ctB par x) j)) ∧ r = .inl ())) := by
    refine Ok_count N (fun k s => s = (Int32.ofNat (cB (ctB par x) k), Int32.ofNat k) ∧ ∀ j, j < k → ctB par x j = true → y ≠ Int32.ofNat (cB (ctB par x) j)) ?_ 0 ⟨rfl, fun j hj => by omega⟩ (by omega) (by (show _ < FU; unfold FU; omega))
    rintro k s hk ⟨rfl, hn⟩
    show Ok (f4_continuation_b4 y σ (Int32.ofNat (cB (ctB par x) k)) (Int32.ofNat k)) _
    unfold f4_continuation_b4 f4_continuation_j48
    rw [g3]
    simp only [i32_le (show N < 2147483648 by omega) (show k < 2147483648 by omega)]
    by_cases hq : N ≤ k
    · rw [if_pos hq, Ok_some, lp_inr]
      exact Or.inr ⟨fun j hj => hn j (by omega), rfl⟩
    · have hr := (par_ref h' (show k < N by omega)).1
      have hs : cB (ctB par x) (k + 1) = cB (ctB par x) k + (if ctB par x k = true then 1 else 0) := rfl
      rw [if_neg hq, inb_n (show k < 150 by omega) (by omega), gd_true, ofNat_clamp (by omega), stp, if_neg (by omega), show 39 + 13 * k + 1 = 26 + 13 * (k + 1) + 1 by omega, okr_node (by omega), gd_true, Nat.add_sub_cancel, i32_succ, show 26 + 13 * (k + 1) = 39 + 13 * k by omega]
      by_cases q : ctB par x k = true
      · rw [if_pos (hr.mpr q)]
        by_cases q2 : Int32.ofNat (cB (ctB par x) k) = y
        · rw [if_pos q2, Ok_some, lp_inr]
          exact Or.inl ⟨k, by omega, q, q2.symm, by congr 1; omega⟩
        · rw [if_neg q2, i32_succ, stp, stp, Ok_some, lp_inl, hs, if_pos q]
          refine ⟨by omega, rfl, fun j hj hc => ?_⟩
          by_cases e : j = k
          · rw [e]
            exact fun z => q2 z.symm
          · exact hn j (by omega) hc
      · rw [if_neg (fun z => q (hr.mp z)), stp, Ok_some, lp_inl, hs, if_neg q, i32_succ]
        refine ⟨by omega, rfl, fun j hj hc => ?_⟩
        by_cases e : j = k
        · rw [e] at hc
          exact absurd hc q
        · exact hn j (by omega) hc
  obtain ⟨r, k1, k2⟩ := key
  have e0 : ∀ v, r = .inr v → f4_continuation σ y = some v := fun v hv => by
    unfold f4_continuation f4_continuation_j4
    rw [stp, stp, k1, bnd_some, hv]
  have e1 : r = .inl () → f4_continuation σ y = some 0 := fun hv => by
    unfold f4_continuation f4_continuation_j4
    rw [stp, stp, k1, bnd_some, hv]
  rcases k2 with ⟨j, j1, j2, j3, j4⟩ | ⟨k2, k3⟩
  · exact Or.inl ⟨j, j1, j2, j3, e0 _ j4⟩
  · exact Or.inr ⟨k2, e1 k3⟩
theorem branch31 (h : RH σ μ (N, x, par, cho, Bf, Af)) {j : Nat} (hj : j < N) (hc : ctB par x j = true) {y z : Int32} : loopF (fun s_31 => f12_branch_b31 y μ z s_31.1 s_31.2) FU (Int32.ofNat (cB (ctB par x) j), 0) = some (Int32.ofNat (j + 1)) := by
  have h' := h
  obtain ⟨⟨g1, g2, g3, g4, g5, g6, g7, g8⟩, h5, h6, h7, h8, h9, h10⟩ := h
  have hle := cB_le (P := ctB par x)
  have key : Ok (loopF (fun s_31 => f12_branch_b31 y μ z s_31.1 s_31.2) FU (Int32.ofNat (cB (ctB par x) j), 0)) (fun v => v = Int32.ofNat (j + 1)) := by
    refine Ok_count (j + 1) (fun k s => s = ((if k ≤ j then Int32.ofNat (cB (ctB par x) j - cB (ctB par x) k) else -1), Int32.ofNat k)) ?_ 0 (by rw [if_pos (Nat.zero_le _)]; rfl) (by omega) (by (show _ < FU; unfold FU; omega))
    rintro k s hk rfl
    show Ok (f12_branch_b31 y μ z (if k ≤ j then Int32.ofNat (cB (ctB par x) j - cB (ctB par x) k) else -1) (Int32.ofNat k)) _
    unfold f12_branch_b31 f12_branch_j58
    by_cases hq : k ≤ j
    · have hm := cB_mono (P := ctB par x) hq
      have hjle := hle j
      have hr := (par_ref h' (show k < N by omega)).2
      have hs : cB (ctB par x) (k + 1) = cB (ctB par x) k + (if ctB par x k = true then 1 else 0) := rfl
      rw [if_pos hq, if_neg (i32_lt0 (by omega)), i32_succ, stp, inb_n (show k + 1 < 151 by omega) (by omega), gd_true, ofNat_clamp (by omega)]
      have fin : ∀ v : Int32, v = (if k + 1 ≤ j then Int32.ofNat (cB (ctB par x) j - cB (ctB par x) (k + 1)) else -1) → Ok (some (Sum.inl (v, Int32.ofNat (k + 1))) : Option (Int32 × Int32 ⊕ Int32)) (lp (fun s' => k + 1 ≤ j + 1 ∧ s' = ((if k + 1 ≤ j then Int32.ofNat (cB (ctB par x) j - cB (ctB par x) (k + 1)) else -1), Int32.ofNat (k + 1))) (fun v => v = Int32.ofNat (j + 1))) := fun v hv => by
        rw [Ok_some, lp_inl, hv]
        exact ⟨by omega, rfl⟩
      by_cases q : ctB par x k = true
      · rw [if_pos (hr.mpr q), stp]
        refine fin _ ?_
        by_cases q2 : k + 1 ≤ j
        · have hm2 := cB_mono (P := ctB par x) q2
          rw [hs, if_pos q] at hm2
          rw [if_pos q2, hs, if_pos q, show (1 : Int32) = Int32.ofNat 1 from rfl, i32_sub (by omega)]
          congr 1
        · have : k = j := by omega
          rw [if_neg q2, this, Nat.sub_self]
          rfl
      · rw [if_neg (fun z => q (hr.mp z)), stp]
        refine fin _ ?_
        have hkj : k + 1 ≤ j := by
          rcases Nat.lt_or_ge k j with w | w
          · exact w
          · have : k = j := by omega
            rw [this] at q
            exact absurd hc q
        rw [if_pos hkj, hs, if_neg q, show (0 : Int32) = Int32.ofNat 0 from rfl, i32_sub (by omega)]
        rfl
    · rw [if_neg hq, if_pos (by decide), Ok_some, lp_inr, show k = j + 1 by omega]
  obtain ⟨v, k1, rfl⟩ := key
  exact k1
theorem op_branch (h : Rel σ μ) {y : Int32} : stH (f11_branch σ y) [(4, 1)] o (f12_branch μ y) RQ := by
  obtain ⟨D, L, B, H, ⟨N, x, par, cho, Bf, Af⟩, h0⟩ := id h
  have rh := h0.2.2.2.2.2.2.2.2.2.2.2
  obtain ⟨c1, c2⟩ := count_both rh
  have hle := cB_le (P := ctB par x)
  have g1 : N ≤ 150 := rh.1.1
  have g2 : x ≤ N := rh.1.2.1
  unfold f11_branch f12_branch
  rw [c2, bnd_some, stp, c12_in, bnd_some]
  simp only [ite_tz, decide_eq_true_eq]
  rcases contin rh (y := y) with ⟨j, j1, j2, rfl, j3⟩ | ⟨j1, j2⟩
  · have hlt : cB (ctB par x) j < cB (ctB par x) N := by
      have h1 := cB_mono (P := ctB par x) (show j + 1 ≤ N by omega)
      have h2 : cB (ctB par x) (j + 1) = cB (ctB par x) j + (if ctB par x j = true then 1 else 0) := rfl
      rw [if_pos j2] at h2
      omega
    have hN := hle N
    have hin : 0 ≤ Int32.ofNat (cB (ctB par x) j) ∧ Int32.ofNat (cB (ctB par x) j) ≤ Int32.ofNat (cB (ctB par x) N) - 1 := by
      have hj := hle j
      rw [show (1 : Int32) = Int32.ofNat 1 from rfl, i32_sub (by omega)]
      exact ⟨(i32_le (a := 0) (by omega) (by omega)).mpr (by omega), (i32_le (by omega) (by omega)).mpr (by omega)⟩
    rw [j3, bnd_some, stp, if_neg (by omega), if_pos hin]
    have hcl := h0.close
    unfold f4_closeGroup f12_closes
    rw [stp, stp, bnd_some, stp, stp, stp, bnd_some, stp, stp]
    generalize uI (uI σ 24 3 0) 24 4 0 = σc at hcl
    generalize uI (uI μ 2017 34 0) 2017 33 (-1) = μc at hcl
    have rc := hcl.2.2.2.2.2.2.2.2.2.2.2
    obtain ⟨⟨k1, k2, k3, k4, k5, k6, k7, k8⟩, h5, h6, h7, h8, h9, h10⟩ := id rc
    have hpj : par (j + 1) = x := by
      unfold ctB at j2
      exact of_decide_eq_true j2
    have hpl : ∀ i, 1 ≤ i → i ≤ N → par i < i := fun i i1 i2 => (h5 i i1 i2).1
    have hnew : RH (uR σc (26 + 13 * x) 1 (26 + 13 * (j + 1) + 1)) (uA μc 2035 x (Int32.ofNat (j + 1))) (N, x, par, upn cho x (j + 1), Bf, Af) := by
      have hf0 : ∀ i, fR (uR σc (26 + 13 * x) 1 (26 + 13 * (j + 1) + 1)) (26 + 13 * i) 0 = fR σc (26 + 13 * i) 0 := fun i => by
        rw [fR_uR]
        by_cases e : 26 + 13 * i = 26 + 13 * x
        · rw [if_pos e, if_neg (by decide)]
        · rw [if_neg e]
      have hf1 : ∀ i, fR (uR σc (26 + 13 * x) 1 (26 + 13 * (j + 1) + 1)) (26 + 13 * i) 1 = if i = x then 26 + 13 * (j + 1) + 1 else fR σc (26 + 13 * i) 1 := fun i => by
        rw [fR_uR]
        by_cases e : i = x
        · rw [if_pos (by omega), if_pos rfl, if_pos e]
        · rw [if_neg (by omega), if_neg e]
      refine ⟨⟨k1, k2, k3, k4, ?_, k6, ?_, k8⟩, fun i i1 i2 => ?_, fun i i2 => ?_, fun i i1 i2 => ?_, fun i i1 i2 => ?_, fun i i1 i2 i3 => ?_, fun i i1 i2 => ?_⟩
      · rw [fR_uR, if_neg (by omega)]
        exact k5
      · have := hf0 0
        exact this.trans k7
      · rw [hf0 i, aI_uA' (by decide)]
        exact h5 i i1 i2
      · rw [hf1 i, aI_uA, if_pos rfl]
        by_cases e : i = x
        · rw [e, if_pos rfl, if_pos rfl, upn_at]
          exact ⟨by omega, fun _ => hpj, by rw [if_neg (by omega)], rfl⟩
        · rw [if_neg e, if_neg e, upn_ne e]
          exact h6 i i2
      · rw [hf1 i, if_neg (by omega)]
        exact h7 i i1 i2
      · obtain ⟨d1, d2, d3⟩ := h8 i i1 i2
        exact ⟨d1, d2.congr (fun a a1 a2 => ⟨rfl, rfl, rfl⟩), d3.congr (fun a a1 a2 => aI_uA' (by omega))⟩
      · obtain ⟨d1, d2, d3⟩ := h9 i i1 i2 i3
        exact ⟨d1, d2.congr (fun a a1 a2 => ⟨rfl, rfl, rfl⟩), d3.congr (fun a a1 a2 => aI_uA' (by omega))⟩
      · obtain ⟨k, hk⟩ := id i2
        have hix := upw_le hpl k8 k x k2
        have := hpl i i1 (by omega)
        rw [upn_ne (by omega)]
        exact h10 i i1 i2
    obtain ⟨c3, _⟩ := count_both hnew
    have hR : Rel0 (uR σc (26 + 13 * x) 1 (26 + 13 * (j + 1) + 1)) (uA μc 2035 x (Int32.ofNat (j + 1))) D L B H (N, x, par, upn cho x (j + 1), Bf, Af) := by
      have hs : Sm (fun a => a ≠ 26 + 13 * x) σc (uR σc (26 + 13 * x) 1 (26 + 13 * (j + 1) + 1)) := Sm.uR (by omega)
      have hw := hcl.2.2.2.1.cells
      refine RelT.act (P := RT) hcl (hs.weak (by omega)) (fun _ _ => rfl) (fun a ha => aI_uA' (by omega)) hcl.1 (hcl.2.1.congr rfl (hs 1 (by omega)).2.1 rfl rfl rfl rfl rfl rfl) (hcl.2.2.1.congr rfl rfl (aI_uA' (by decide)) (aI_uA' (by decide)) (aI_uA' (by decide)) (aI_uA' (by decide)) (aI_uA' (by decide))) ?_ hcl.2.2.2.2.2.2.2.2.2.2.1 hnew
      unfold SW
      rw [(hs 13 (by omega)).2.1]
      exact hcl.2.2.2.1
    unfold f12_branch_j31
    rw [k5, okr_node (by omega), gd_true, Nat.add_sub_cancel, c3, bnd_some, branch31 rc j1 j2, bnd_some, k6, inb_n (show x < 151 by omega) (by omega), gd_true, ofNat_clamp (by omega), stp, c12_told, bnd_some]
    exact stH_ok rfl rfl ⟨_, _, _, _, _, hR⟩
  · rw [j2, bnd_some, stp, if_pos rfl]
    have hout : ¬ (0 ≤ y ∧ y ≤ Int32.ofNat (cB (ctB par x) N) - 1) := by
      rintro ⟨z1, z2⟩
      have hN := hle N
      by_cases e : cB (ctB par x) N = 0
      · rw [e] at z2
        have : Int32.ofNat 0 - 1 = -1 := rfl
        rw [this] at z2
        grind
      · rw [show (1 : Int32) = Int32.ofNat 1 from rfl, i32_sub (by omega)] at z2
        obtain ⟨c, hc1, rfl⟩ := of_range ⟨z1, z2⟩ (by omega)
        obtain ⟨j, q1, q2, q3⟩ := cB_hit (P := ctB par x) (c := c) (N := N) (by omega)
        exact j1 j q1 q2 (by rw [q3])
    rw [if_neg hout, c12_refuse, bnd_some]
    exact stH_er (c := 4) (t := 1) rfl (by decide) (by decide) rfl h
end R
