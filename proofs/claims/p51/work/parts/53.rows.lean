section R
variable {σ μ : Sto} {o : Int64} {L B H : Nat} {f : Nat → Int32} {n pn : Nat} {pt : Nat → Int32} {w : Int32}
theorem c7_countFinds (h : CT σ 1 L B f n) (h1 : fI σ 1990 1 = Int32.ofNat pn) (hw : fI σ 1989 1 = w) (hp : ∀ k, k < pn → aI σ 1991 k = pt k) (h40 : pn ≤ 40) (hp1 : 1 ≤ pn) : f7_countFinds σ 1 = some (Int32.ofNat (cB (fdB f n pt pn w) n)) := by
  apply Ok_eq
  have hn := h.1
  have hz : cB (fdB f n pt pn w) n = cB (fdB f n pt pn w) (n + 1 - pn) := by
    by_cases hc : pn ≤ n
    · have := cB_zero (P := fdB f n pt pn w) (m := n + 1 - pn) (pn - 1) (fun j a b => fdB_out (by omega))
      rw [show n + 1 - pn + (pn - 1) = n by omega] at this
      exact this
    · rw [show n + 1 - pn = 0 by omega]
      have := cB_zero (P := fdB f n pt pn w) (m := 0) n (fun j a b => fdB_out (by omega))
      rw [Nat.zero_add] at this
      exact this
  rw [hz]
  unfold f7_countFinds f7_countFinds_j4
  simp only [Ok_stp, Ok_bnd, Ok_some]
  refine Ok_count (n + 1 - pn) (fun k z => z = (Int32.ofNat (cB (fdB f n pt pn w) k), Int32.ofNat k)) ?_ 0 rfl (by omega) (by (show _ < FU; unfold FU; omega))
  rintro k z hk rfl
  have hle := cB_le (P := fdB f n pt pn w) k
  have e1 : Int32.ofNat n - Int32.ofNat pn < Int32.ofNat k ↔ k = n + 1 - pn := by grind
  unfold f7_countFinds_b4 f7_countFinds_j35
  simp only [h.2.2.1, h1, e1]
  by_cases hq : k = n + 1 - pn
  · simp only [if_pos hq]
    simp only [Ok_stp, Ok_bnd, Ok_bndX, Ok_some, Ok_none, Ok_ite, Ok_gd, inb_iff, isB_iff, lp_inl, lp_inr, Prod.mk.injEq, Sum.inl.injEq, Sum.inr.injEq, reduceCtorEq, forall_eq', false_imp_iff, imp_self, true_and, and_true, implies_true, forall_const]
    rw [hq]
  · have hs : cB (fdB f n pt pn w) (k + 1) = cB (fdB f n pt pn w) k + (if fdB f n pt pn w k = true then 1 else 0) := rfl
    simp only [if_neg hq, c7_isFind h h1 hw hp h40 rfl (show k + pn ≤ n by omega), bnd_some, ite_tz, i32_succ]
    by_cases hf : fdB f n pt pn w k = true
    · simp only [if_pos hf, stp, i32_succ]
      rw [if_pos hf] at hs
      simp only [Ok_stp, Ok_bnd, Ok_bndX, Ok_some, Ok_none, Ok_ite, Ok_gd, inb_iff, isB_iff, lp_inl, lp_inr, Prod.mk.injEq, Sum.inl.injEq, Sum.inr.injEq, reduceCtorEq, forall_eq', false_imp_iff, imp_self, true_and, and_true, implies_true, forall_const]
      exact ⟨by omega, by rw [hs]⟩
    · simp only [if_neg hf, stp]
      rw [if_neg hf] at hs
      simp only [Ok_stp, Ok_bnd, Ok_bndX, Ok_some, Ok_none, Ok_ite, Ok_gd, inb_iff, isB_iff, lp_inl, lp_inr, Prod.mk.injEq, Sum.inl.injEq, Sum.inr.injEq, reduceCtorEq, forall_eq', false_imp_iff, imp_self, true_and, and_true, implies_true, forall_const]
      exact ⟨by omega, by rw [hs, Int32.add_zero, Nat.add_zero]⟩
theorem c12_countFinds (h : MT μ f n) (h1 : fI μ 2017 15 = Int32.ofNat pn) (hw : fI μ 2017 19 = w) (hp : ∀ k, k < pn → aI μ 2025 k = pt k) (h40 : pn ≤ 40) {x : Int32} : f12_setPattern_j64 x μ 0 0 = some (Int32.ofNat (cB (fdB f n pt pn w) n), uI μ 2017 18 0) := by
  have hn := h.1
  have key : Ok (loopF (fun s_64 => f12_setPattern_b64 x μ s_64.1 s_64.2) FU (0, 0)) (fun r => r = Int32.ofNat (cB (fdB f n pt pn w) n)) := by
    refine Ok_count n (fun k z => z = (Int32.ofNat (cB (fdB f n pt pn w) k), Int32.ofNat k)) ?_ 0 rfl (by omega) (by (show _ < FU; unfold FU; omega))
    rintro k z hk rfl
    have hle := cB_le (P := fdB f n pt pn w) k
    unfold f12_setPattern_b64 f12_setPattern_j86
    simp only [h.2.1, i32_le (show n < 2147483648 by omega) (show k < 2147483648 by omega)]
    by_cases hq : n ≤ k
    · simp only [if_pos hq]
      simp only [Ok_stp, Ok_bnd, Ok_bndX, Ok_some, Ok_none, Ok_ite, Ok_gd, inb_iff, isB_iff, lp_inl, lp_inr, Prod.mk.injEq, Sum.inl.injEq, Sum.inr.injEq, reduceCtorEq, forall_eq', false_imp_iff, imp_self, true_and, and_true, implies_true, forall_const]
      rw [show k = n by omega]
    · have hs : cB (fdB f n pt pn w) (k + 1) = cB (fdB f n pt pn w) k + (if fdB f n pt pn w k = true then 1 else 0) := rfl
      simp only [if_neg hq, c12_isFind h h1 hw hp h40 rfl hk, bnd_some, ite_tz, i32_succ]
      by_cases hf : fdB f n pt pn w k = true
      · simp only [if_pos hf, stp, i32_succ]
        rw [if_pos hf] at hs
        simp only [Ok_stp, Ok_bnd, Ok_bndX, Ok_some, Ok_none, Ok_ite, Ok_gd, inb_iff, isB_iff, lp_inl, lp_inr, Prod.mk.injEq, Sum.inl.injEq, Sum.inr.injEq, reduceCtorEq, forall_eq', false_imp_iff, imp_self, true_and, and_true, implies_true, forall_const]
        exact ⟨by omega, by rw [hs]⟩
      · simp only [if_neg hf, stp]
        rw [if_neg hf] at hs
        simp only [Ok_stp, Ok_bnd, Ok_bndX, Ok_some, Ok_none, Ok_ite, Ok_gd, inb_iff, isB_iff, lp_inl, lp_inr, Prod.mk.injEq, Sum.inl.injEq, Sum.inr.injEq, reduceCtorEq, forall_eq', false_imp_iff, imp_self, true_and, and_true, implies_true, forall_const]
        exact ⟨by omega, by rw [hs, Int32.add_zero, Nat.add_zero]⟩
  obtain ⟨r, k1, rfl⟩ := key
  unfold f12_setPattern_j64
  rw [k1, bnd_some, c12_told, bnd_some]
theorem c12_patCopy {x : Int32} {m : Nat} (hm : m ≤ 40) (h1 : fI μ 2017 11 = Int32.ofNat m) : ∃ r, loopF (fun s_34 => f12_setPattern_b34 x s_34.1 s_34.2) FU (μ, 0) = some (rA μ 2025 r) ∧ ∀ k, k < m → r k = aI μ 2023 k := by
  have key : Ok (loopF (fun s_34 => f12_setPattern_b34 x s_34.1 s_34.2) FU (μ, 0)) (fun s => ∃ r, s = rA μ 2025 r ∧ ∀ k, k < m → r k = aI μ 2023 k) := by
    refine Ok_count m (fun k z => ∃ r, z = (rA μ 2025 r, Int32.ofNat k) ∧ ∀ i, i < k → r i = aI μ 2023 i) ?_ 0 ⟨aI μ 2025, by rw [rA_self]; rfl, fun i hi => by omega⟩ (by omega) (by (show _ < FU; unfold FU; omega))
    rintro k z hk ⟨r, rfl, hr⟩
    have e1 : fI (rA μ 2025 r) 2017 11 = Int32.ofNat m := h1
    have e2 : aI (rA μ 2025 r) 2023 = aI μ 2023 := rfl
    unfold f12_setPattern_b34
    simp only [e1, e2, i32_le (show m < 2147483648 by omega) (show k < 2147483648 by omega), ofNat_clamp (show k < 2147483648 by omega), i32_succ, rA_uA]
    by_cases hq : m ≤ k
    · simp only [if_pos hq]
      simp only [Ok_stp, Ok_bnd, Ok_bndX, Ok_some, Ok_none, Ok_ite, Ok_gd, inb_iff, isB_iff, lp_inl, lp_inr, Prod.mk.injEq, Sum.inl.injEq, Sum.inr.injEq, reduceCtorEq, forall_eq', false_imp_iff, imp_self, true_and, and_true, implies_true, forall_const]
      exact ⟨r, rfl, fun i hi => hr i (by omega)⟩
    · simp only [if_neg hq, inb_n (show k < 200 by omega) (by omega), inb_n (show k < 40 by omega) (by omega), gd_true, stp]
      simp only [Ok_stp, Ok_bnd, Ok_bndX, Ok_some, Ok_none, Ok_ite, Ok_gd, inb_iff, isB_iff, lp_inl, lp_inr, Prod.mk.injEq, Sum.inl.injEq, Sum.inr.injEq, reduceCtorEq, forall_eq', false_imp_iff, imp_self, true_and, and_true, implies_true, forall_const]
      refine ⟨by omega, up1 r k (aI μ 2023 k), rfl, fun i hi => ?_⟩
      unfold up1
      by_cases e : i = k
      · rw [if_pos e, e]
      · rw [if_neg e]
        exact hr i (by omega)
  obtain ⟨s, k1, r, rfl, k2⟩ := key
  exact ⟨r, k1, k2⟩
theorem op_setPattern (h : Rel σ μ) {x : Int32} (hx : x = 0 ∨ x = 1) : stH (f11_setPattern σ x) [(3, 1)] o (f12_setPattern μ x) RQ := by
  obtain ⟨⟨f, n, hd, c, cu, ma, lf, ml⟩, L, B, H, T, h0⟩ := id h
  have hC : CT σ 1 L B f n := h0.2.1.1
  have hM : MT μ f n := h0.2.2.1.1
  obtain ⟨tn, q0, q1, q2, q3⟩ := h0.2.2.2.2.1
  have hw := h0.2.2.2.1.cells
  have hn := hC.1
  have hB : isB x = true := isB_iff.mpr hx
  unfold f11_setPattern f11_setPattern_j22 f12_setPattern
  rw [q1, q2, c12_in, bnd_some]
  have e1 : Int32.ofNat tn = 0 ↔ tn = 0 := by grind
  have e2 : Int32.ofNat tn ≤ 40 ↔ tn ≤ 40 := by grind
  have e3 : (1 ≤ Int32.ofNat tn ∧ Int32.ofNat tn ≤ 40) ↔ (1 ≤ tn ∧ tn ≤ 40) := by grind
  simp only [e1, ite_tz, decide_eq_true_eq, e3, c12_refuse, bnd_some]
  by_cases ht : 1 ≤ tn ∧ tn ≤ 40
  · simp only [if_pos ht, if_neg (show ¬ tn = 0 by omega), if_pos (e2.mpr ht.2), hB, gd_true, stp]
    have hbc : f6_become σ 1990 9 0 (Int32.ofNat tn) = _ := c6_become (s := 0) (m := tn) rfl rfl (by omega) (by omega) (by show 0 + tn ≤ 200; omega) (by show tn ≤ 40; omega) (fun i hi => by
      rw [Nat.zero_add, (q3 i hi).1]
      have := isLt_in (q3 i hi).2
      grind)
    rw [hbc, bnd_some]
    have hC2 : CT (uI (uI (rA σ (1990 + 1) (va_cpy (aI σ 9) (aI σ (1990 + 1)) 0 0 tn)) 1990 1 (Int32.ofNat tn)) 1989 1 x) 1 L B f n := hC.congr rfl rfl (aI_rA' (by omega)) (aI_rA' (by omega))
    have hcp : ∀ k, k < tn → va_cpy (aI σ 9) (aI σ (1990 + 1)) 0 0 tn k = aI μ 2023 k := fun k hk => by
      rw [cpy_at hk, Nat.zero_add]
      exact (q3 k hk).1
    rw [c7_countFinds (pn := tn) (w := x) (pt := aI μ 2023) hC2 rfl rfl hcp ht.2 ht.1, bnd_some]
    unfold f12_setPattern_j34
    have e4 : fI (uI μ 2017 19 x) 2017 11 = Int32.ofNat tn := q2
    rw [e4]
    obtain ⟨r, r1, r2⟩ := c12_patCopy (μ := uI (uI μ 2017 19 x) 2017 15 (Int32.ofNat tn)) (x := x) ht.2 q2
    rw [r1, bnd_some]
    have hM2 : MT (rA (uI (uI μ 2017 19 x) 2017 15 (Int32.ofNat tn)) 2025 r) f n := hM.congr rfl rfl
    simp only [stp]
    rw [c12_countFinds (pn := tn) (w := x) (pt := aI μ 2023) hM2 rfl rfl (fun k hk => r2 k hk) ht.2]
    refine stH_ok rfl rfl ?_
    obtain ⟨g, s, m, w, t1, t2, t3, t4, t5, t6, t7, t8⟩ := h0
    have f0 : ∀ P : Nat → Prop, (∀ b, P b → b ≠ 1989 ∧ b ≠ 1990 ∧ b ≠ 1991) → Sm P σ (uI (uI (rA σ (1990 + 1) (va_cpy (aI σ 9) (aI σ (1990 + 1)) 0 0 tn)) 1990 1 (Int32.ofNat tn)) 1989 1 x) := fun P hP => Sm.trans (Sm.rA (fun b hb => (hP b hb).2.2)) (Sm.trans (Sm.uI (fun b hb => (hP b hb).2.1)) (Sm.uI (fun b hb => (hP b hb).1)))
    refine ⟨_, L, B, H, T, g, s.congr rfl rfl (aI_rA' (by omega)) (aI_rA' (by omega)) (aI_rA' (by omega)) rfl rfl rfl, m.congr rfl rfl rfl rfl rfl rfl rfl, w, t1, t2, ⟨rfl, hx, tn, ht.2, rfl, rfl, fun k hk => ?_⟩, t4, t5.congr (f0 _ (by omega)) rfl rfl, t6.congr (f0 _ (by omega)) rfl rfl (fun a a1 a2 => aI_rA' (by omega)), t7, t8.congr (f0 _ (by omega)) rfl rfl rfl rfl (fun a a1 a2 => aI_rA' (by omega))⟩
    show va_cpy (aI σ 9) (aI σ (1990 + 1)) 0 0 tn k = r k
    rw [hcp k hk]
    exact (r2 k hk).symm
  · simp only [if_neg ht]
    refine stH_er (c := 3) (t := 1) (σ' := σ) ?_ (by decide) (by decide) rfl h
    by_cases ht0 : tn = 0
    · rw [if_pos ht0]
    · rw [if_neg ht0, if_neg (fun z => ht ⟨by omega, e2.mp z⟩)]
/-- the line of a row: so many visible ones on -/
def rwo (h : Nat → Int32) (m : Nat) : Nat → Nat → Nat → Nat
  | 0, line, _ => line
  | d + 1, line, left => if left = 0 then line else rwo h m d (line + 1) (if line + 1 < m ∧ h (line + 1) = 0 then left - 1 else left)
def isVis (h : Nat → Int32) (l j : Nat) : Prop := j ≤ l ∧ h j = 0 ∧ ∀ k, j < k → k ≤ l → h k ≠ 0
theorem isVis.ex {h : Nat → Int32} (h0 : h 0 = 0) : ∀ l, ∃ j, isVis h l j := by
  intro l
  induction l with
  | zero => exact ⟨0, Nat.le_refl _, h0, fun k a b => by omega⟩
  | succ l ih =>
    by_cases hl : h (l + 1) = 0
    · exact ⟨l + 1, Nat.le_refl _, hl, fun k a b => by omega⟩
    · obtain ⟨j, a, b, c⟩ := ih
      refine ⟨j, by omega, b, fun k d e => ?_⟩
      by_cases hk : k = l + 1
      · rw [hk]; exact hl
      · exact c k d (by omega)
theorem op_rowOf (h : Rel σ μ) {x y : Int32} : stH (f11_rowOf σ x y) [(1, 1), (2, 2)] o (f12_rowOf μ x y) RQ := by
  obtain ⟨⟨f, n, hd, c, cu, ma, lf, ml⟩, L, B, H, T, h0⟩ := id h
  obtain ⟨g, s, m, w, t⟩ := id h0
  obtain ⟨s1, ⟨s2, s3, s4, s5⟩, ⟨s6, s7⟩, s8, s9⟩ := s
  obtain ⟨m1, m2, ⟨m3, m4⟩, m5, m6⟩ := m
  have hv := h0.2.2.2.2.2.2.2.1.2
  have hE := g.2.1
  unfold f11_rowOf f11_rowOf_j19 f12_rowOf
  rw [c11_requireView, c12_isView, bnd_some]
  simp only [ite_tz, decide_eq_true_eq, c12_refuse, bnd_some, c12_in]
  by_cases hx : 0 ≤ x ∧ x ≤ 1
  · have hi : inb x 2 = true := inb_t (by clear h h0 t; grind)
    have hk : x.toNatClampNeg < 2 := by clear h h0 t; grind
    have hvk := hv _ hk
    simp only [if_pos hx, bndX_inl, hi, gd_true, ← hvk.1, ← hvk.2.1]
    generalize x.toNatClampNeg = k at hk hvk
    by_cases hy : 0 ≤ y ∧ y < aI σ 2016 k
    · have hy1 : ¬ y < 0 := by clear h h0 t; grind
      have hy2 : 0 ≤ y ∧ y ≤ aI σ 2016 k - 1 := by clear h h0 t; grind
      simp only [if_neg hy1, if_pos hy.2, if_pos hy2, stp, s1.2.2.2.1, c12_lines m1, bnd_some, c12_less]
      obtain ⟨l0, hl0, el0⟩ : ∃ l0 : Nat, l0 ≤ ends f n ∧ (if aI σ 2015 k < Int32.ofNat (ends f n + 1) - 1 then aI σ 2015 k else Int32.ofNat (ends f n + 1) - 1) = Int32.ofNat l0 := by
        have e1 : Int32.ofNat (ends f n + 1) - 1 = Int32.ofNat (ends f n) := by clear h h0 t; grind
        rw [e1]
        by_cases hc : aI σ 2015 k < Int32.ofNat (ends f n)
        · rw [if_pos hc]
          have := hvk.2.2.1
          exact ⟨(aI σ 2015 k).toNatClampNeg, by clear h h0 t; grind, by clear h h0 t; grind⟩
        · rw [if_neg hc]
          exact ⟨ends f n, Nat.le_refl _, rfl⟩
      have el1 : imin (aI σ 2015 k) (Int32.ofNat (ends f n + 1) - 1) = Int32.ofNat l0 := by
        rw [← el0]
        unfold imin
        clear h h0 t el0
        by_cases hc : aI σ 2015 k < Int32.ofNat (ends f n + 1) - 1
        · rw [if_pos hc, if_neg (by grind)]
        · rw [if_neg hc]
          by_cases hc2 : Int32.ofNat (ends f n + 1) - 1 < aI σ 2015 k
          · rw [if_pos hc2]
          · rw [if_neg hc2]
            grind
      rw [el0, el1]
      obtain ⟨left, hleft, rfl⟩ : ∃ left : Nat, left < 40 ∧ y = Int32.ofNat left := ⟨y.toNatClampNeg, by have := hvk.2.2.2.2; clear h h0 t; grind, by clear h h0 t; grind⟩
      obtain ⟨j, hj⟩ := isVis.ex g.2.2.2.1 l0
      have hj1 := hj.1
      have c1 : loopF (fun s_49 => f11_rowOf_b49 x (Int32.ofNat left) σ s_49) FU (Int32.ofNat l0) = some (Int32.ofNat j) := by
        apply Ok_eq
        refine Ok_count (l0 - j) (fun q z => z = Int32.ofNat (l0 - q)) ?_ 0 rfl (by omega) (by (show _ < FU; unfold FU; omega))
        rintro q z hq rfl
        have e1 : Int32.ofNat (l0 - q) ≤ 0 ↔ l0 - q = 0 := by clear h h0 t; grind
        have e2 : 0 < l0 - q → Int32.ofNat (l0 - q) + -1 = Int32.ofNat (l0 - (q + 1)) := by clear h h0 t; intro; grind
        unfold f11_rowOf_b49
        simp only [e1, s2, okr_s.mpr s3, Nat.add_sub_cancel, s4, gd_true, ofNat_clamp (show l0 - q < 2147483648 by omega), inb_n (show l0 - q < 300 by omega) (by omega), s5 (l0 - q) (by omega)]
        by_cases hz : l0 - q = 0
        · simp only [if_pos hz]
          simp only [Ok_stp, Ok_bnd, Ok_bndX, Ok_some, Ok_none, Ok_ite, Ok_gd, inb_iff, isB_iff, lp_inl, lp_inr, Prod.mk.injEq, Sum.inl.injEq, Sum.inr.injEq, reduceCtorEq, forall_eq', false_imp_iff, imp_self, true_and, and_true, implies_true, forall_const]
          congr 1
          omega
        · simp only [if_neg hz, e2 (by omega)]
          by_cases hqj : l0 - q = j
          · rw [hqj, if_pos hj.2.1]
            simp only [Ok_stp, Ok_bnd, Ok_bndX, Ok_some, Ok_none, Ok_ite, Ok_gd, inb_iff, isB_iff, lp_inl, lp_inr, Prod.mk.injEq, Sum.inl.injEq, Sum.inr.injEq, reduceCtorEq, forall_eq', false_imp_iff, imp_self, true_and, and_true, implies_true, forall_const]
          · rw [if_neg (hj.2.2 (l0 - q) (by omega) (by omega))]
            simp only [Ok_stp, Ok_bnd, Ok_bndX, Ok_some, Ok_none, Ok_ite, Ok_gd, inb_iff, isB_iff, lp_inl, lp_inr, Prod.mk.injEq, Sum.inl.injEq, Sum.inr.injEq, reduceCtorEq, forall_eq', false_imp_iff, imp_self, true_and, and_true, implies_true, forall_const]
            omega
      have d1 : loopF (fun s_54 => f12_rowOf_b54 x (Int32.ofNat left) μ (Int32.ofNat (ends f n + 1)) s_54) FU (Int32.ofNat l0) = some (Int32.ofNat j) := by
        apply Ok_eq
        refine Ok_count (l0 - j) (fun q z => z = Int32.ofNat (l0 - q)) ?_ 0 rfl (by omega) (by (show _ < FU; unfold FU; omega))
        rintro q z hq rfl
        have e2 : 0 < l0 - q → Int32.ofNat (l0 - q) + -1 = Int32.ofNat (l0 - (q + 1)) := by clear h h0 t; intro; grind
        unfold f12_rowOf_b54
        simp only [gd_true, ofNat_clamp (show l0 - q < 2147483648 by omega), inb_n (show l0 - q < 301 by omega) (by omega), m2 (l0 - q) (by omega), if_pos (show l0 - q ≤ ends f n by omega)]
        by_cases hqj : l0 - q = j
        · rw [hqj, if_pos hj.2.1]
          simp only [Ok_stp, Ok_bnd, Ok_bndX, Ok_some, Ok_none, Ok_ite, Ok_gd, inb_iff, isB_iff, lp_inl, lp_inr, Prod.mk.injEq, Sum.inl.injEq, Sum.inr.injEq, reduceCtorEq, forall_eq', false_imp_iff, imp_self, true_and, and_true, implies_true, forall_const]
        · rw [if_neg (hj.2.2 (l0 - q) (by omega) (by omega)), e2 (by omega)]
          simp only [Ok_stp, Ok_bnd, Ok_bndX, Ok_some, Ok_none, Ok_ite, Ok_gd, inb_iff, isB_iff, lp_inl, lp_inr, Prod.mk.injEq, Sum.inl.injEq, Sum.inr.injEq, reduceCtorEq, forall_eq', false_imp_iff, imp_self, true_and, and_true, implies_true, forall_const]
          omega
      have c2 : loopF (fun s_74 => f11_rowOf_b74 x (Int32.ofNat left) σ s_74.1 s_74.2) FU (Int32.ofNat j, Int32.ofNat left) = some (Int32.ofNat (rwo hd (ends f n + 1) (ends f n + 1 - j) j left)) := by
        apply Ok_eq
        refine Ok_count (ends f n + 1 - j) (fun q z => ∃ l', l' < 40 ∧ z = (Int32.ofNat (j + q), Int32.ofNat l') ∧ rwo hd (ends f n + 1) (ends f n + 1 - j) j left = rwo hd (ends f n + 1) (ends f n + 1 - (j + q)) (j + q) l') ?_ 0 ⟨left, hleft, rfl, rfl⟩ (by omega) (by (show _ < FU; unfold FU; omega))
        rintro q z hq ⟨l', hl', rfl, hr⟩
        have e1 : Int32.ofNat l' ≤ 0 ↔ l' = 0 := by clear h h0 t; grind
        have e2 : l' ≠ 0 → Int32.ofNat l' + -1 = Int32.ofNat (l' - 1) := by clear h h0 t; intro; grind
        unfold f11_rowOf_b74
        simp only [e1, s1.2.2.2.1, s2, okr_s.mpr s3, Nat.add_sub_cancel, s4, gd_true, i32_succ, i32_le (show ends f n + 1 < 2147483648 by omega) (show j + q < 2147483648 by omega), i32_le (show ends f n + 1 < 2147483648 by omega) (show j + q + 1 < 2147483648 by omega), stp]
        by_cases hz : l' = 0
        · simp only [if_pos hz]
          simp only [Ok_stp, Ok_bnd, Ok_bndX, Ok_some, Ok_none, Ok_ite, Ok_gd, inb_iff, isB_iff, lp_inl, lp_inr, Prod.mk.injEq, Sum.inl.injEq, Sum.inr.injEq, reduceCtorEq, forall_eq', false_imp_iff, imp_self, true_and, and_true, implies_true, forall_const]
          rw [hr, hz]
          cases ends f n + 1 - (j + q) <;> rfl
        · simp only [if_neg hz]
          by_cases hE2 : ends f n + 1 ≤ j + q
          · simp only [if_pos hE2]
            simp only [Ok_stp, Ok_bnd, Ok_bndX, Ok_some, Ok_none, Ok_ite, Ok_gd, inb_iff, isB_iff, lp_inl, lp_inr, Prod.mk.injEq, Sum.inl.injEq, Sum.inr.injEq, reduceCtorEq, forall_eq', false_imp_iff, imp_self, true_and, and_true, implies_true, forall_const]
            rw [hr, show ends f n + 1 - (j + q) = 0 by omega]
            rfl
          · simp only [if_neg hE2]
            have hst : rwo hd (ends f n + 1) (ends f n + 1 - (j + q)) (j + q) l' = rwo hd (ends f n + 1) (ends f n + 1 - (j + (q + 1))) (j + q + 1) (if j + q + 1 < ends f n + 1 ∧ hd (j + q + 1) = 0 then l' - 1 else l') := by
              rw [show ends f n + 1 - (j + q) = (ends f n + 1 - (j + (q + 1))) + 1 by omega, rwo, if_neg hz]
            rw [hst] at hr
            by_cases hE3 : ends f n + 1 ≤ j + q + 1
            · simp only [if_pos hE3]
              rw [if_neg (by omega)] at hr
              simp only [Ok_stp, Ok_bnd, Ok_bndX, Ok_some, Ok_none, Ok_ite, Ok_gd, inb_iff, isB_iff, lp_inl, lp_inr, Prod.mk.injEq, Sum.inl.injEq, Sum.inr.injEq, reduceCtorEq, forall_eq', false_imp_iff, imp_self, true_and, and_true, implies_true, forall_const]
              exact ⟨by omega, l', hl', ⟨rfl, rfl⟩, hr⟩
            · simp only [if_neg hE3, inb_n (show j + q + 1 < 300 by omega) (by omega), gd_true, ofNat_clamp (show j + q + 1 < 2147483648 by omega), s5 (j + q + 1) (by omega), e2 hz]
              by_cases hh : hd (j + q + 1) = 0
              · rw [if_pos ⟨by omega, hh⟩] at hr
                simp only [if_pos hh]
                simp only [Ok_stp, Ok_bnd, Ok_bndX, Ok_some, Ok_none, Ok_ite, Ok_gd, inb_iff, isB_iff, lp_inl, lp_inr, Prod.mk.injEq, Sum.inl.injEq, Sum.inr.injEq, reduceCtorEq, forall_eq', false_imp_iff, imp_self, true_and, and_true, implies_true, forall_const]
                exact ⟨by omega, l' - 1, by omega, ⟨rfl, rfl⟩, hr⟩
              · rw [if_neg (fun z => hh z.2)] at hr
                simp only [if_neg hh]
                simp only [Ok_stp, Ok_bnd, Ok_bndX, Ok_some, Ok_none, Ok_ite, Ok_gd, inb_iff, isB_iff, lp_inl, lp_inr, Prod.mk.injEq, Sum.inl.injEq, Sum.inr.injEq, reduceCtorEq, forall_eq', false_imp_iff, imp_self, true_and, and_true, implies_true, forall_const]
                exact ⟨by omega, l', hl', ⟨rfl, rfl⟩, hr⟩
      have d2 : loopF (fun s_73 => f12_rowOf_b73 x (Int32.ofNat left) μ (Int32.ofNat (ends f n + 1)) s_73.1 s_73.2) FU (Int32.ofNat j, Int32.ofNat left) = some (Int32.ofNat (rwo hd (ends f n + 1) (ends f n + 1 - j) j left)) := by
        apply Ok_eq
        refine Ok_count (ends f n + 1 - j) (fun q z => ∃ l', l' < 40 ∧ z = (Int32.ofNat (j + q), Int32.ofNat l') ∧ rwo hd (ends f n + 1) (ends f n + 1 - j) j left = rwo hd (ends f n + 1) (ends f n + 1 - (j + q)) (j + q) l') ?_ 0 ⟨left, hleft, rfl, rfl⟩ (by omega) (by (show _ < FU; unfold FU; omega))
        rintro q z hq ⟨l', hl', rfl, hr⟩
        have e1 : Int32.ofNat l' ≤ 0 ↔ l' = 0 := by clear h h0 t; grind
        have e2 : l' ≠ 0 → Int32.ofNat l' - 1 = Int32.ofNat (l' - 1) := by clear h h0 t; intro; grind
        unfold f12_rowOf_b73 f12_rowOf_j109 f12_rowOf_j110
        simp only [e1, gd_true, i32_succ, i32_le (show ends f n + 1 < 2147483648 by omega) (show j + q < 2147483648 by omega), i32_le (show ends f n + 1 < 2147483648 by omega) (show j + q + 1 < 2147483648 by omega), stp, Int32.sub_zero]
        by_cases hz : l' = 0
        · simp only [if_pos hz]
          simp only [Ok_stp, Ok_bnd, Ok_bndX, Ok_some, Ok_none, Ok_ite, Ok_gd, inb_iff, isB_iff, lp_inl, lp_inr, Prod.mk.injEq, Sum.inl.injEq, Sum.inr.injEq, reduceCtorEq, forall_eq', false_imp_iff, imp_self, true_and, and_true, implies_true, forall_const]
          rw [hr, hz]
          cases ends f n + 1 - (j + q) <;> rfl
        · simp only [if_neg hz]
          by_cases hE2 : ends f n + 1 ≤ j + q
          · simp only [if_pos hE2]
            simp only [Ok_stp, Ok_bnd, Ok_bndX, Ok_some, Ok_none, Ok_ite, Ok_gd, inb_iff, isB_iff, lp_inl, lp_inr, Prod.mk.injEq, Sum.inl.injEq, Sum.inr.injEq, reduceCtorEq, forall_eq', false_imp_iff, imp_self, true_and, and_true, implies_true, forall_const]
            rw [hr, show ends f n + 1 - (j + q) = 0 by omega]
            rfl
          · simp only [if_neg hE2]
            have hst : rwo hd (ends f n + 1) (ends f n + 1 - (j + q)) (j + q) l' = rwo hd (ends f n + 1) (ends f n + 1 - (j + (q + 1))) (j + q + 1) (if j + q + 1 < ends f n + 1 ∧ hd (j + q + 1) = 0 then l' - 1 else l') := by
              rw [show ends f n + 1 - (j + q) = (ends f n + 1 - (j + (q + 1))) + 1 by omega, rwo, if_neg hz]
            rw [hst] at hr
            by_cases hE3 : ends f n + 1 ≤ j + q + 1
            · simp only [if_pos hE3]
              rw [if_neg (by omega)] at hr
              simp only [Ok_stp, Ok_bnd, Ok_bndX, Ok_some, Ok_none, Ok_ite, Ok_gd, inb_iff, isB_iff, lp_inl, lp_inr, Prod.mk.injEq, Sum.inl.injEq, Sum.inr.injEq, reduceCtorEq, forall_eq', false_imp_iff, imp_self, true_and, and_true, implies_true, forall_const]
              exact ⟨by omega, l', hl', ⟨rfl, rfl⟩, hr⟩
            · simp only [if_neg hE3, inb_n (show j + q + 1 < 301 by omega) (by omega), gd_true, ofNat_clamp (show j + q + 1 < 2147483648 by omega), m2 (j + q + 1) (by omega), if_pos (show j + q + 1 ≤ ends f n by omega), e2 hz]
              by_cases hh : hd (j + q + 1) = 0
              · rw [if_pos ⟨by omega, hh⟩] at hr
                simp only [if_pos hh]
                simp only [Ok_stp, Ok_bnd, Ok_bndX, Ok_some, Ok_none, Ok_ite, Ok_gd, inb_iff, isB_iff, lp_inl, lp_inr, Prod.mk.injEq, Sum.inl.injEq, Sum.inr.injEq, reduceCtorEq, forall_eq', false_imp_iff, imp_self, true_and, and_true, implies_true, forall_const]
                exact ⟨by omega, l' - 1, by omega, ⟨rfl, rfl⟩, hr⟩
              · rw [if_neg (fun z => hh z.2)] at hr
                simp only [if_neg hh]
                simp only [Ok_stp, Ok_bnd, Ok_bndX, Ok_some, Ok_none, Ok_ite, Ok_gd, inb_iff, isB_iff, lp_inl, lp_inr, Prod.mk.injEq, Sum.inl.injEq, Sum.inr.injEq, reduceCtorEq, forall_eq', false_imp_iff, imp_self, true_and, and_true, implies_true, forall_const]
                exact ⟨by omega, l', hl', ⟨rfl, rfl⟩, hr⟩
      unfold f11_rowOf_j49 f11_rowOf_j71 f11_rowOf_j74 f12_rowOf_j54 f12_rowOf_j73
      rw [c1, d1]
      simp only [bnd_some, stp]
      rw [c2, d2]
      unfold f11_rowOf_j122 f11_rowOf_j138 f12_rowOf_j116 f12_rowOf_j129
      simp only [bnd_some, c12_told, s1.2.2.2.1]
      by_cases hz : Int32.ofNat (ends f n + 1) ≤ Int32.ofNat (rwo hd (ends f n + 1) (ends f n + 1 - j) j left)
      · simp only [if_pos hz]
        exact stH_ok rfl rfl h
      · simp only [if_neg hz]
        exact stH_ok rfl rfl h
    · have hy2 : ¬ (0 ≤ y ∧ y ≤ aI σ 2016 k - 1) := by have := hvk.2.2.2; clear h h0 t; grind
      simp only [if_neg hy2]
      refine stH_er (c := 2) (t := 2) (σ' := σ) ?_ (by decide) (by decide) rfl h
      by_cases hy3 : y < 0
      · rw [if_pos hy3]
      · rw [if_neg hy3, if_neg (fun z => hy ⟨by clear h h0 t; grind, z⟩)]
  · simp only [if_neg hx]
    exact stH_er (c := 1) (t := 1) rfl (by decide) (by decide) rfl h
end R
