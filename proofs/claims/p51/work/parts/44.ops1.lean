section R
variable {σ μ : Sto} {o : Int64}
theorem op_letterAt (h : Rel σ μ) {x : Int32} : stH (f11_letterAt σ x) [(1, 1)] o (f12_letterAt μ x) RQ := by
  obtain ⟨⟨f, n, hd, c, cu, ma, lf, ml⟩, L, B, H, T, h0⟩ := id h
  have hC : CT σ 1 L B f n := h0.2.1.1
  have hM : MT μ f n := h0.2.2.1.1
  obtain ⟨hn, -, h3, -, ⟨h5, h6, h7⟩, -, hL, -⟩ := hC
  obtain ⟨-, m2, m3⟩ := hM
  unfold f11_letterAt f11_letterAt_j15 f12_letterAt f12_letterAt_j32
  rw [h3, m2, h5, c12_in, bnd_some]
  have e1 : Int32.ofNat n - 1 = if n = 0 then -1 else Int32.ofNat (n - 1) := by grind
  by_cases hx : 0 ≤ x ∧ x < Int32.ofNat n
  · have hk : x.toNatClampNeg < n := by grind
    refine stH_ok (v := f x.toNatClampNeg) (σ' := σ) (μ' := μ) ?_ ?_ h
    · apply Ok_eq
      simp only [Ok_stp, Ok_bnd, Ok_bndX, Ok_some, Ok_none, Ok_ite, Ok_gd, inb_iff, isB_iff, lp_inl, lp_inr, Prod.mk.injEq, Sum.inl.injEq, Sum.inr.injEq, reduceCtorEq, forall_eq', false_imp_iff, imp_self, true_and, and_true, implies_true, forall_const]
      simp (disch := omega) only [okr_s, Nat.add_sub_cancel, h6, h7, hL _ hk]
      grind
    · apply Ok_eq
      simp only [tz_0, c12_refuse, c12_told]
      simp only [Ok_stp, Ok_bnd, Ok_bndX, Ok_some, Ok_none, Ok_ite, Ok_gd, inb_iff, isB_iff, lp_inl, lp_inr, Prod.mk.injEq, Sum.inl.injEq, Sum.inr.injEq, reduceCtorEq, forall_eq', false_imp_iff, imp_self, true_and, and_true, implies_true, forall_const]
      simp only [m3 _ hk]
      grind
  · refine stH_er (c := 1) (t := 1) (v := 0) (σ' := σ) (μ' := μ) ?_ (by decide) (by decide) ?_ h
    · grind
    · simp only [tz_0, c12_refuse, bnd_some]
      rw [if_pos]
      grind
theorem op_lineOf (h : Rel σ μ) {x : Int32} : stH (f11_lineOf σ x) [(1, 1)] o (f12_lineOf μ x) RQ := by
  obtain ⟨⟨f, n, hd, c, cu, ma, lf, ml⟩, L, B, H, T, h0⟩ := id h
  have hC : CT σ 1 L B f n := h0.2.1.1
  have hM : MT μ f n := h0.2.2.1.1
  unfold f11_lineOf f12_lineOf f12_lineOf_j25
  rw [c11_requirePlace hC, c12_isPlace hM, bnd_some]
  by_cases hx : 0 ≤ x ∧ x ≤ Int32.ofNat n
  · obtain ⟨p, hp, rfl⟩ := of_range hx (by have := hC.1; omega)
    refine stH_ok (v := Int32.ofNat (ends f p)) (σ' := σ) (μ' := μ) ?_ ?_ h
    · rw [if_pos hx, bndX_inl, c8_lineWith hC rfl hp, bnd_some]
    · rw [if_neg (by simp [tz_0, hx]), c12_lineAt hM rfl hp]
      rfl
  · refine stH_er (c := 1) (t := 1) (v := 0) (σ' := σ) (μ' := μ) ?_ (by decide) (by decide) ?_ h
    · rw [if_neg hx, bndX_inr]
    · rw [if_pos (by simp only [hx, decide_false, tz_f])]
      rfl
theorem op_columnOf (h : Rel σ μ) {x : Int32} : stH (f11_columnOf σ x) [(1, 1)] o (f12_columnOf μ x) RQ := by
  obtain ⟨⟨f, n, hd, c, cu, ma, lf, ml⟩, L, B, H, T, h0⟩ := id h
  have hC : CT σ 1 L B f n := h0.2.1.1
  have hM : MT μ f n := h0.2.2.1.1
  obtain ⟨t, t1, t8, ht, hu⟩ := h0.2.2.2.2.2.2.2.1.1
  unfold f11_columnOf f12_columnOf f12_columnOf_j25
  rw [c11_requirePlace hC, c12_isPlace hM, bnd_some]
  by_cases hx : 0 ≤ x ∧ x ≤ Int32.ofNat n
  · obtain ⟨p, hp, rfl⟩ := of_range hx (by have := hC.1; omega)
    obtain ⟨b, -, hb⟩ := isBg.ex (ends_mono (f := f) hp)
    refine stH_ok (v := Int32.ofNat (cw t f b (p - b))) (σ' := σ) (μ' := μ) ?_ ?_ h
    · rw [if_pos hx, bndX_inl, c8_columnWith hC t1 t8 rfl ht hp hb, bnd_some]
    · rw [if_neg (by simp [tz_0, hx]), c12_column hM hu t1 t8 rfl hp hb]
      rfl
  · refine stH_er (c := 1) (t := 1) (v := 0) (σ' := σ) (μ' := μ) ?_ (by decide) (by decide) ?_ h
    · rw [if_neg hx, bndX_inr]
    · rw [if_pos (by simp only [hx, decide_false, tz_f])]
      rfl
theorem of_nonneg {x : Int32} (h : 0 ≤ x) : ∃ p : Nat, p < 2147483648 ∧ x = Int32.ofNat p := ⟨x.toNatClampNeg, by grind, by grind⟩
theorem op_placeAt (h : Rel σ μ) {x y : Int32} : stH (f11_placeAt σ x y) [(1, 1), (2, 2)] o (f12_placeAt μ x y) RQ := by
  obtain ⟨⟨f, n, hd, c, cu, ma, lf, ml⟩, L, B, H, T, h0⟩ := id h
  have hC : CT σ 1 L B f n := h0.2.1.1
  have hM : MT μ f n := h0.2.2.1.1
  obtain ⟨t, t1, t8, ht, hu⟩ := h0.2.2.2.2.2.2.2.1.1
  unfold f11_placeAt f12_placeAt f12_placeAt_j36
  rw [c11_requireLine hC, c12_isLine hM, bnd_some]
  simp only [ite_tz, decide_eq_true_eq, c12_refuse, c12_told, bnd_some]
  by_cases hx : 0 ≤ x ∧ x ≤ Int32.ofNat (ends f n)
  · simp only [if_pos hx, bndX_inl]
    obtain ⟨j, hj, rfl⟩ := of_range hx (by have := hC.2.1; omega)
    by_cases hy : 0 ≤ y
    · simp only [if_pos hy]
      obtain ⟨q, hq, rfl⟩ := of_nonneg hy
      obtain ⟨b, hb1, hb⟩ := isBg.ex hj
      obtain ⟨e, he1, he⟩ := isEn.ex hb1 hb.1
      obtain ⟨r, hr⟩ := isPl.ex (t := t) (f := f) (c := q) he1
      refine stH_ok (v := Int32.ofNat r) (σ' := σ) (μ' := μ) ?_ ?_ h
      · rw [c8_placeWith hC t1 t8 rfl hj rfl hq ht hb he hr, bnd_some]
      · rw [c12_placeIn hM hu t1 t8 rfl hj rfl hq hb he hr, bnd_some]
    · simp only [if_neg hy]
      exact stH_er (c := 2) (t := 2) rfl (by decide) (by decide) rfl h
  · simp only [if_neg hx]
    exact stH_er (c := 1) (t := 1) rfl (by decide) (by decide) rfl h
theorem op_hash (h : Rel σ μ) : Ok (f11_hash σ) (fun p => Ok (f12_hash μ) (fun r => p = r.1 ∧ RQ σ r.2 o)) := by
  obtain ⟨⟨f, n, hd, c, cu, ma, lf, ml⟩, L, B, H, T, h0⟩ := id h
  have hC : CT σ 1 L B f n := h0.2.1.1
  have hM : MT μ f n := h0.2.2.1.1
  unfold f11_hash
  rw [c8_sumOf hC (a := 0) (x := 0) rfl hC.2.2.1 (Nat.zero_le _) (Nat.le_refl _), bnd_some, Ok_some, c12_hash hM, Ok_some]
  exact ⟨rfl, h.thr⟩
theorem op_cursorAt (h : Rel σ μ) {x : Int32} : stH (f11_cursorAt σ x) [(1, 1)] o (f12_cursorAt μ x) RQ := by
  obtain ⟨⟨f, n, hd, c, cu, ma, lf, ml⟩, L, B, H, T, h0⟩ := id h
  obtain ⟨hc1, hc2⟩ := h0.2.1.2.2.1
  obtain ⟨hm1, hm2⟩ := h0.2.2.1.2.2.1
  have hG : 1 ≤ c ∧ c ≤ 8 := h0.1.2.2.2.2.2.1
  unfold f11_cursorAt f11_cursorAt_j15 f12_cursorAt f12_cursorAt_j32
  rw [hc1, hm1, c12_in, bnd_some]
  have e1 : Int32.ofNat c - 1 = Int32.ofNat (c - 1) := by grind
  rw [e1]
  have hq : 0 ≤ x ∧ x < Int32.ofNat c ↔ 0 ≤ x ∧ x ≤ Int32.ofNat (c - 1) := by grind
  by_cases hx : 0 ≤ x ∧ x < Int32.ofNat c
  · have hk : x.toNatClampNeg < c := by grind
    have hx2 := hq.mp hx
    refine stH_ok (v := Int32.ofNat (cu x.toNatClampNeg)) (σ' := σ) (μ' := μ) ?_ ?_ h
    · apply Ok_eq
      simp only [Ok_stp, Ok_bnd, Ok_bndX, Ok_some, Ok_none, Ok_ite, Ok_gd, inb_iff, isB_iff, lp_inl, lp_inr, Prod.mk.injEq, Sum.inl.injEq, Sum.inr.injEq, reduceCtorEq, forall_eq', false_imp_iff, imp_self, true_and, and_true, implies_true, forall_const]
      simp only [hc2 _ hk]
      grind
    · rw [if_neg (by simp [tz_0, hx2])]
      apply Ok_eq
      simp only [c12_told]
      simp only [Ok_stp, Ok_bnd, Ok_bndX, Ok_some, Ok_none, Ok_ite, Ok_gd, inb_iff, isB_iff, lp_inl, lp_inr, Prod.mk.injEq, Sum.inl.injEq, Sum.inr.injEq, reduceCtorEq, forall_eq', false_imp_iff, imp_self, true_and, and_true, implies_true, forall_const]
      simp only [hm2 _ hk]
      grind
  · have hx2 : ¬ (0 ≤ x ∧ x ≤ Int32.ofNat (c - 1)) := fun z => hx (hq.mpr z)
    refine stH_er (c := 1) (t := 1) (v := 0) (σ' := σ) (μ' := μ) ?_ (by decide) (by decide) ?_ h
    · grind
    · rw [if_pos (by simp only [hx2, decide_false, tz_f])]
      rfl
end R
section R
variable {σ μ : Sto} {o : Int64}
theorem c12_isMark {x : Int32} : f12_isMark x = some (tz (decide (0 ≤ x ∧ x ≤ 15))) := by
  unfold f12_isMark
  rw [c12_in]
  simp only [bnd, Option.bind, tz_B, gd, if_true]
theorem c12_isView {x : Int32} : f12_isView x = some (tz (decide (0 ≤ x ∧ x ≤ 1))) := by
  unfold f12_isView
  rw [c12_in]
  simp only [bnd, Option.bind, tz_B, gd, if_true]
theorem c11_requireMark {x : Int32} : f11_requireMark σ x = if 0 ≤ x ∧ x ≤ 15 then some (.inl σ) else some (.inr (1, σ)) := by
  unfold f11_requireMark f11_requireMark_j10
  have e : x < 16 ↔ x ≤ 15 := by grind
  simp only [e]
  grind
theorem c11_requireView {x : Int32} : f11_requireView σ x = if 0 ≤ x ∧ x ≤ 1 then some (.inl σ) else some (.inr (1, σ)) := by
  unfold f11_requireView f11_requireView_j9
  have e : x < 2 ↔ x ≤ 1 := by grind
  simp only [e]
  grind
theorem inb_t {x : Int32} {n : Nat} (h : 0 ≤ x ∧ x.toInt < n) : inb x n = true := inb_iff.mpr h
theorem op_markAt (h : Rel σ μ) {x : Int32} : stH (f11_markAt σ x) [(1, 1)] o (f12_markAt μ x) RQ := by
  obtain ⟨⟨f, n, hd, c, cu, ma, lf, ml⟩, L, B, H, T, h0⟩ := id h
  have hc : ∀ k, k < 16 → aI σ 6 k = ma k := h0.2.1.2.2.2.1
  have hm : ∀ k, k < 16 → aI μ 2020 k = ma k := h0.2.2.1.2.2.2.1
  unfold f11_markAt f12_markAt f12_markAt_j25
  rw [c11_requireMark, c12_isMark, bnd_some]
  simp only [ite_tz, decide_eq_true_eq, c12_refuse, c12_told, bnd_some]
  by_cases hx : 0 ≤ x ∧ x ≤ 15
  · have hi : inb x 16 = true := inb_t (by grind)
    have hk : x.toNatClampNeg < 16 := by grind
    simp only [if_pos hx, bndX_inl, hi, gd_true, hc _ hk, hm _ hk]
    exact stH_ok rfl rfl h
  · simp only [if_neg hx]
    exact stH_er (c := 1) (t := 1) rfl (by decide) (by decide) rfl h
theorem op_markBeside (h : Rel σ μ) {x y : Int32} : stH (f11_markBeside σ x y) [(1, 1)] o (f12_markBeside μ x y) RQ := by
  obtain ⟨⟨f, n, hd, c, cu, ma, lf, ml⟩, L, B, H, T, h0⟩ := id h
  have hC : CT σ 1 L B f n := h0.2.1.1
  have hM : MT μ f n := h0.2.2.1.1
  have hc : ∀ k, k < 16 → aI σ 6 k = ma k := h0.2.1.2.2.2.1
  have hm : ∀ k, k < 16 → aI μ 2020 k = ma k := h0.2.2.1.2.2.2.1
  unfold f11_markBeside f11_markBeside_j28
  rw [c11_requirePlace hC, c12_markBeside hM hm]
  by_cases hx : 0 ≤ x ∧ x ≤ Int32.ofNat n
  · simp only [if_pos hx, bndX_inl, c8_markFrom (s := 1) hc, c8_markUpTo (s := 1) hc, bnd_some]
    by_cases hy : y = 0
    · simp only [if_pos hy]
      exact stH_ok rfl rfl h
    · simp only [if_neg hy]
      exact stH_ok rfl rfl h
  · simp only [if_neg hx]
    exact stH_er (c := 1) (t := 1) rfl (by decide) (by decide) rfl h
theorem op_setMark (h : Rel σ μ) {x y z : Int32} (hz : z = 0 ∨ z = 1) : stH (f11_setMark σ x y z) [(1, 1)] o (f12_setMark μ x y z) RQ := by
  obtain ⟨⟨f, n, hd, c, cu, ma, lf, ml⟩, L, B, H, T, h0⟩ := id h
  have hC : CT σ 1 L B f n := h0.2.1.1
  have hM : MT μ f n := h0.2.2.1.1
  have hc : ∀ k, k < 16 → aI σ 6 k = ma k := h0.2.1.2.2.2.1
  have hm : ∀ k, k < 16 → aI μ 2020 k = ma k := h0.2.2.1.2.2.2.1
  unfold f11_setMark f12_setMark f12_setMark_j15
  rw [c11_requireMark, c12_isMark, bnd_some, c12_isPlace hM, bnd_some]
  simp only [ite_tz, decide_eq_true_eq, c12_refuse, c12_told, bnd_some]
  by_cases hx : 0 ≤ x ∧ x ≤ 15
  · simp only [if_pos hx, bndX_inl, c11_requirePlace hC]
    by_cases hy : 0 ≤ y ∧ y ≤ Int32.ofNat n
    · have hi : inb x 16 = true := inb_t (by grind)
      have hk : x.toNatClampNeg < 16 := by grind
      simp only [if_pos hy, bndX_inl, hi, gd_true, hc _ hk, hm _ hk, stp, nar_b hz]
      generalize x.toNatClampNeg = k at hk
      refine stH_ok rfl rfl ?_
      obtain ⟨g, s, m, w, t1, t2, t3, t4, t5, t6, t7, t8⟩ := h0
      obtain ⟨p, hp, rfl⟩ := of_range hy (by have := hC.1; omega)
      have hL : L ≠ 6 ∧ L ≠ 7 ∧ B ≠ 6 ∧ B ≠ 7 ∧ H ≠ 6 ∧ H ≠ 7 := by rcases w with w | w <;> omega
      refine ⟨(f, n, hd, c, cu, fun j => if j = k then Int32.ofNat p else ma j, fun j => if j = k then z else lf j, fun j => if j = k then z else ml j), L, B, H, T, ?_, ?_, ?_, w, t1, t2, t3, t4, t5.congr (Sm.trans (Sm.uA (by omega)) (Sm.uA (by omega))) rfl rfl, t6.congr (Sm.trans (Sm.uA (by omega)) (Sm.uA (by omega))) rfl rfl (fun a a1 a2 => (aI_uA' (by omega)).trans (aI_uA' (by omega))), t7, t8.congr (Sm.trans (Sm.uA (by omega)) (Sm.uA (by omega))) rfl rfl rfl rfl (fun a a1 a2 => (aI_uA' (by omega)).trans (aI_uA' (by omega)))⟩
      · obtain ⟨g1, g2, g3, g4, g5, g6, g7, g8, g9, g10, g11⟩ := g
        refine ⟨g1, g2, g3, g4, g5, g6, g7, g8, g9, fun j hj => ?_, fun j hj => ?_⟩
        · by_cases e : j = k
          · simp only [e, if_true]
            exact Or.inr ⟨p, hp, rfl⟩
          · simp only [e, if_false]
            exact g10 j hj
        · by_cases e : j = k
          · simp only [e, if_true]
            exact ⟨hz, hz, fun _ => trivial⟩
          · simp only [e, if_false]
            exact g11 j hj
      · obtain ⟨s1, s2, s3, s4, s5⟩ := s
        refine ⟨s1.congr rfl rfl ((aI_uA' hL.2.1).trans (aI_uA' hL.1)) ((aI_uA' hL.2.2.2.1).trans (aI_uA' hL.2.2.1)), ?_, s3, fun j hj => ?_, fun j hj => ?_⟩
        · rw [aI_uA' hL.2.2.2.2.2, aI_uA' hL.2.2.2.2.1]
          exact s2
        · rw [aI_uA' (by omega), aI_uA, if_pos rfl, hc j hj]
        · rw [aI_uA, if_pos rfl, aI_uA' (by omega), s5 j hj]
      · obtain ⟨m1, m2, m3, m4, m5⟩ := m
        refine ⟨m1.congr rfl rfl, m2, m3, fun j hj => ?_, fun j hj => ?_⟩
        · rw [aI_uA' (by omega), aI_uA, if_pos rfl, hm j hj]
        · rw [aI_uA, if_pos rfl, aI_uA' (by omega), m5 j hj]
    · simp only [if_neg hy]
      exact stH_er (c := 1) (t := 1) rfl (by decide) (by decide) rfl h
  · simp only [if_neg hx]
    exact stH_er (c := 1) (t := 1) rfl (by decide) (by decide) rfl h
theorem op_dropMark (h : Rel σ μ) {x : Int32} : stH (f11_dropMark σ x) [(1, 1)] o (f12_dropMark μ x) RQ := by
  obtain ⟨⟨f, n, hd, c, cu, ma, lf, ml⟩, L, B, H, T, h0⟩ := id h
  have hc : ∀ k, k < 16 → aI σ 6 k = ma k := h0.2.1.2.2.2.1
  have hm : ∀ k, k < 16 → aI μ 2020 k = ma k := h0.2.2.1.2.2.2.1
  unfold f11_dropMark f12_dropMark
  rw [c11_requireMark, c12_isMark, bnd_some]
  simp only [ite_tz, decide_eq_true_eq, c12_refuse, c12_told, bnd_some]
  by_cases hx : 0 ≤ x ∧ x ≤ 15
  · have hi : inb x 16 = true := inb_t (by grind)
    have hk : x.toNatClampNeg < 16 := by grind
    simp only [if_pos hx, bndX_inl, hi, gd_true, hc _ hk, hm _ hk, stp, nar_b (Or.inl rfl)]
    generalize x.toNatClampNeg = k at hk
    refine stH_ok rfl rfl ?_
    obtain ⟨g, s, m, w, t1, t2, t3, t4, t5, t6, t7, t8⟩ := h0
    have hL : L ≠ 6 ∧ B ≠ 6 ∧ H ≠ 6 := by rcases w with w | w <;> omega
    refine ⟨(f, n, hd, c, cu, fun j => if j = k then -1 else ma j, lf, fun j => if j = k then 0 else ml j), L, B, H, T, ?_, ?_, ?_, w, t1, t2, t3, t4, t5.congr (Sm.uA (by omega)) rfl rfl, t6.congr (Sm.uA (by omega)) rfl rfl (fun a a1 a2 => (aI_uA' (by omega)).trans (aI_uA' (by omega))), t7, t8.congr (Sm.uA (by omega)) rfl rfl rfl rfl (fun a a1 a2 => (aI_uA' (by omega)).trans (aI_uA' (by omega)))⟩
    · obtain ⟨g1, g2, g3, g4, g5, g6, g7, g8, g9, g10, g11⟩ := g
      refine ⟨g1, g2, g3, g4, g5, g6, g7, g8, g9, fun j hj => ?_, fun j hj => ?_⟩
      · by_cases e : j = k
        · simp only [e, if_true]
          exact Or.inl trivial
        · simp only [e, if_false]
          exact g10 j hj
      · have := g11 j hj
        by_cases e : j = k
        · simp only [e, if_true]
          subst e
          exact ⟨this.1, Or.inl trivial, fun z => absurd rfl z⟩
        · simp only [e, if_false]
          exact this
    · obtain ⟨s1, s2, s3, s4, s5⟩ := s
      refine ⟨s1.congr rfl rfl (aI_uA' hL.1) (aI_uA' hL.2.1), ?_, s3, fun j hj => ?_, s5⟩
      · rw [aI_uA' hL.2.2]
        exact s2
      · rw [aI_uA, if_pos rfl, hc j hj]
    · obtain ⟨m1, m2, m3, m4, m5⟩ := m
      refine ⟨m1.congr rfl rfl, m2, m3, fun j hj => ?_, fun j hj => ?_⟩
      · rw [aI_uA' (by omega), aI_uA, if_pos rfl, hm j hj]
      · rw [aI_uA, if_pos rfl, aI_uA' (by omega), m5 j hj]
  · simp only [if_neg hx]
    exact stH_er (c := 1) (t := 1) rfl (by decide) (by decide) rfl h
theorem op_count (h : Rel σ μ) {x : Int32} : stH (f11_count σ x) [(2, 1)] o (f12_count μ x) RQ := by
  obtain ⟨⟨f, n, hd, c, cu, ma, lf, ml⟩, L, B, H, T, h0⟩ := id h
  have hC : CT σ 1 L B f n := h0.2.1.1
  have hM : MT μ f n := h0.2.2.1.1
  have hc : ∀ k, k < 16 → aI σ 6 k = ma k := h0.2.1.2.2.2.1
  have hm : ∀ k, k < 16 → aI μ 2020 k = ma k := h0.2.2.1.2.2.2.1
  obtain ⟨i1, i2, i3, i4⟩ := h0.2.1.2.1
  have j1 := h0.2.2.1.2.1
  have k1 := h0.2.1.2.2.1.1
  have k2 := h0.2.2.1.2.2.1.1
  obtain ⟨tn, -, q1, q2, -⟩ := h0.2.2.2.2.1
  obtain ⟨cl, -, q3, q4, -⟩ := h0.2.2.2.2.2.1
  unfold f11_count f12_count
  rw [c8_countMarks (s := 1) hc, c8_countHidden hC i1 i2 i3 i4, c8_countWords hC, c12_lines hM, c12_marks hm, c12_hiddenMany hC.2.1 (fun j hj => j1 j (by omega)), c12_words hM, hC.2.2.1, hC.2.2.2.1, hM.2.1, k1, k2, q1, q2, q3, q4]
  simp only [c12_refuse, c12_told, bnd_some]
  by_cases h_0 : x.toInt = 0
  · simp only [if_pos h_0]; exact stH_ok rfl rfl h
  simp only [if_neg h_0]
  by_cases h_1 : x.toInt = 1
  · simp only [if_pos h_1]; exact stH_ok rfl rfl h
  simp only [if_neg h_1]
  by_cases h_2 : x.toInt = 2
  · simp only [if_pos h_2]; exact stH_ok rfl rfl h
  simp only [if_neg h_2]
  by_cases h_3 : x.toInt = 3
  · simp only [if_pos h_3]; exact stH_ok rfl rfl h
  simp only [if_neg h_3]
  by_cases h_4 : x.toInt = 4
  · simp only [if_pos h_4]; exact stH_ok rfl rfl h
  simp only [if_neg h_4]
  by_cases h_5 : x.toInt = 5
  · simp only [if_pos h_5]; exact stH_ok rfl rfl h
  simp only [if_neg h_5]
  by_cases h_6 : x.toInt = 6
  · simp only [if_pos h_6]; exact stH_ok rfl rfl h
  simp only [if_neg h_6]
  by_cases h_7 : x.toInt = 7
  · simp only [if_pos h_7]; exact stH_ok rfl rfl h
  simp only [if_neg h_7]
  exact stH_er (c := 2) (t := 1) rfl (by decide) (by decide) rfl h
end R
section R
variable {σ μ : Sto} {o : Int64}
theorem op_setTab (h : Rel σ μ) {x : Int32} : stH (f11_setTab σ x) [(2, 1)] o (f12_setTab μ x) RQ := by
  obtain ⟨D, L, B, H, T, h0⟩ := id h
  obtain ⟨t, t1, t8, ht, hu⟩ := h0.2.2.2.2.2.2.2.1.1
  unfold f11_setTab f11_setTab_j11 f12_setTab
  rw [c12_in, bnd_some]
  simp only [ite_tz, decide_eq_true_eq, c12_refuse, c12_told, bnd_some, stp, ht, hu]
  by_cases hx : 1 ≤ x ∧ x ≤ 8
  · have hx1 : ¬ x < 1 := by grind
    simp only [if_pos hx, if_neg hx1, if_pos hx.2]
    refine stH_ok rfl rfl ?_
    obtain ⟨g, s, m, w, t1, t2, t3, t4, t5, t6, t7, t8⟩ := h0
    exact ⟨D, L, B, H, T, g, s.congr rfl rfl rfl rfl rfl rfl rfl rfl, m.congr rfl rfl rfl rfl rfl rfl rfl, w, t1, t2, t3, ⟨⟨x.toNatClampNeg, by grind, by grind, by show x = _; grind, by show x = _; grind⟩, t4.2⟩, t5.congr (Sm.uI (by omega)) rfl rfl, t6.congr (Sm.uI (by omega)) rfl rfl (fun _ _ _ => rfl), t7, t8.congr (Sm.uI (by omega)) rfl rfl rfl rfl (fun _ _ _ => rfl)⟩
  · simp only [if_neg hx]
    refine stH_er (c := 2) (t := 1) (σ' := σ) ?_ (by decide) (by decide) rfl h
    grind
theorem op_setView (h : Rel σ μ) {x y z : Int32} : stH (f11_setView σ x y z) [(1, 1), (2, 2)] o (f12_setView μ x y z) RQ := by
  obtain ⟨D, L, B, H, T, h0⟩ := id h
  have hv := h0.2.2.2.2.2.2.2.1.2
  unfold f11_setView f11_setView_j20 f12_setView f12_setView_j27
  rw [c11_requireView, c12_isView, bnd_some]
  simp only [ite_tz, decide_eq_true_eq, c12_refuse, c12_told, bnd_some, c12_in]
  by_cases hx : 0 ≤ x ∧ x ≤ 1
  · have hi : inb x 2 = true := inb_t (by grind)
    have hk : x.toNatClampNeg < 2 := by grind
    simp only [if_pos hx, bndX_inl]
    by_cases hy : y < 0
    · simp only [if_pos hy]
      exact stH_er (c := 2) (t := 2) rfl (by decide) (by decide) rfl h
    · simp only [if_neg hy]
      by_cases hz : 1 ≤ z ∧ z ≤ 40
      · have hz1 : ¬ z < 1 := by grind
        simp only [if_pos hz, if_neg hz1, if_pos hz.2, hi, gd_true, stp, (hv _ hk).1]
        generalize x.toNatClampNeg = k at hk
        refine stH_ok rfl rfl ?_
        obtain ⟨g, s, m, w, t1, t2, t3, t4, t5, t6, t7, t8⟩ := h0
        have hL : L < 2000 ∧ B < 2000 ∧ H < 2000 := by rcases w with w | w <;> omega
        refine ⟨D, L, B, H, T, g, s.congr rfl rfl ((aI_uA' (by omega)).trans (aI_uA' (by omega))) ((aI_uA' (by omega)).trans (aI_uA' (by omega))) ((aI_uA' (by omega)).trans (aI_uA' (by omega))) rfl rfl rfl, m.congr rfl rfl rfl rfl rfl rfl rfl, w, t1, t2, t3, ⟨t4.1, fun j hj => ?_⟩, t5.congr (Sm.trans (Sm.uA (by omega)) (Sm.uA (by omega))) rfl rfl, t6.congr (Sm.trans (Sm.uA (by omega)) (Sm.uA (by omega))) rfl rfl (fun a a1 a2 => (aI_uA' (by omega)).trans (aI_uA' (by omega))), t7, t8.congr (Sm.trans (Sm.uA (by omega)) (Sm.uA (by omega))) rfl rfl rfl rfl (fun a a1 a2 => (aI_uA' (by omega)).trans (aI_uA' (by omega)))⟩
        have hj2 := hv j hj
        change (if j = k then y else aI σ 2015 j) = (if j = k then y else aI μ 2027 j) ∧ (if j = k then z else aI σ 2016 j) = (if j = k then z else aI μ 2028 j) ∧ 0 ≤ (if j = k then y else aI σ 2015 j) ∧ 1 ≤ (if j = k then z else aI σ 2016 j) ∧ (if j = k then z else aI σ 2016 j) ≤ 40
        by_cases e : j = k
        · simp only [e, if_true]
          grind
        · simp only [e, if_false]
          exact hj2
      · simp only [if_neg hz]
        refine stH_er (c := 2) (t := 2) (σ' := σ) ?_ (by decide) (by decide) rfl h
        grind
  · simp only [if_neg hx]
    exact stH_er (c := 1) (t := 1) rfl (by decide) (by decide) rfl h
theorem op_clearTape (h : Rel σ μ) : Ok (f11_clearTape σ) (fun p => Ok (f12_clearTape μ) (fun r => p.1 = r.1 ∧ RQ p.2 r.2 o)) := by
  obtain ⟨D, L, B, H, T, h0⟩ := id h
  obtain ⟨g, s, m, w, ⟨tn, t1, q1, q2, q3⟩, t2, t3, t4, t5, t6, t7, t8⟩ := h0
  unfold f11_clearTape f12_clearTape
  simp only [stp, c12_told, bnd_some, Ok_some]
  refine ⟨q1.trans q2.symm, Rel.thr ⟨D, L, B, H, T, g, s.congr rfl rfl rfl rfl rfl rfl rfl rfl, m.congr rfl rfl rfl rfl rfl rfl rfl, w, ⟨0, by omega, rfl, rfl, fun k hk => by omega⟩, t2, t3, t4, t5.congr (Sm.uI (by omega)) rfl rfl, t6.congr (Sm.uI (by omega)) rfl rfl (fun _ _ _ => rfl), t7, t8.congr (Sm.uI (by omega)) rfl rfl rfl rfl (fun _ _ _ => rfl)⟩⟩
theorem stHZ_ok {fc : Option ((Int32 × Sto) ⊕ (Nat × Sto))} {tab : List (Nat × Int32)} {fm : Option (Int32 × Sto)} {v : Int32} {σ' μ' : Sto} (h1 : fc = some (.inl (v, σ'))) (h2 : fm = some (v, uI μ' 2017 18 0)) (h : Rel σ' μ') : stHZ fc tab o fm RQ := by
  unfold stHZ
  rw [h1, h2, Ok_some]
  exact Ok_some.mpr (Ok_some.mpr ⟨rfl, fun _ => rfl, h.thr⟩)
theorem stHZ_er {fc : Option ((Int32 × Sto) ⊕ (Nat × Sto))} {tab : List (Nat × Int32)} {fm : Option (Int32 × Sto)} {c : Nat} {t v : Int32} {σ' μ' : Sto} (h1 : fc = some (.inr (c, σ'))) (ht : (c, t) ∈ tab) (hn : t ≠ 0) (h2 : fm = some (v, uI μ' 2017 18 t)) (h : Rel σ' μ') : stHZ fc tab o fm RQ := by
  unfold stHZ
  rw [h1, h2, Ok_some]
  exact ⟨t, ht, Ok_some.mpr (Ok_some.mpr ⟨rfl, fun e => absurd e hn, h.thr⟩)⟩
theorem op_isHidden (h : Rel σ μ) {x : Int32} : stHZ (f11_isHidden σ x) [(1, 1)] o (f12_isHidden μ x) RQ := by
  obtain ⟨⟨f, n, hd, c, cu, ma, lf, ml⟩, L, B, H, T, h0⟩ := id h
  have hC : CT σ 1 L B f n := h0.2.1.1
  have hM : MT μ f n := h0.2.2.1.1
  obtain ⟨i1, i2, i3, i4⟩ := h0.2.1.2.1
  have j1 := h0.2.2.1.2.1
  have hz := h0.1.2.2.2.2.1
  have hE := hC.2.1
  unfold f11_isHidden f12_isHidden f12_isHidden_j26
  rw [c11_requireLine hC, c12_isLine hM, bnd_some]
  simp only [ite_tz, decide_eq_true_eq, c12_denies, bnd_some]
  by_cases hx : 0 ≤ x ∧ x ≤ Int32.ofNat (ends f n)
  · obtain ⟨j, hj, rfl⟩ := of_range hx (by omega)
    have hi : inb (Int32.ofNat j) 301 = true := inb_t (by grind)
    have hi2 : inb (Int32.ofNat j) 300 = true := inb_t (by grind)
    have hB : isB (hd j) = true := isB_iff.mpr (hz j hj)
    have e1 : hd j = tz (decide (hd j = 1)) := by rcases hz j hj with e | e <;> rw [e] <;> decide
    simp (disch := omega) only [if_pos hx, bndX_inl, hi, hi2, gd_true, i1, okr_s.mpr i2, Nat.add_sub_cancel, i3, ofNat_clamp, i4 j hj, j1 j (by omega), if_pos hj, hB]
    rw [e1, c12_says, bnd_some]
    simp only [tz_B, gd_true]
    exact stHZ_ok rfl rfl h
  · simp only [if_neg hx]
    exact stHZ_er (c := 1) (t := 1) rfl (by decide) (by decide) rfl h
theorem op_record (h : Rel σ μ) {x : Int32} (hx : x = 0 ∨ x = 1) : Ok (f11_record σ x) (fun p => Ok (f12_record μ x) (fun r => p.1 = r.1 ∧ RQ p.2 r.2 o)) := by
  obtain ⟨D, L, B, H, T, h0⟩ := id h
  obtain ⟨g, s, m, w, t1, t2, t3, t4, t5, t6, t7, t8⟩ := h0
  obtain ⟨sn, q1, q2, q3, q4, q5, q6⟩ := t6
  have hB : isB x = true := isB_iff.mpr hx
  unfold f11_record f11_record_j20 f12_record f12_record_j14
  simp only [stp, c12_told, bnd_some, hB, gd_true, q2, q3]
  rcases hx with rfl | rfl
  · simp only [if_true, Ok_some]
    exact ⟨trivial, Rel.thr ⟨D, L, B, H, T, g, s.congr rfl rfl rfl rfl rfl rfl rfl rfl, m.congr rfl rfl rfl rfl rfl rfl rfl, w, t1, t2, t3, t4, t5.congr (Sm.uI (by omega)) rfl rfl, ⟨sn, q1, q2, q3, rfl, Or.inl rfl, q6⟩, t7, t8.congr (Sm.uI (by omega)) rfl rfl rfl rfl (fun _ _ _ => rfl)⟩⟩
  · simp only [show ¬ ((1 : Int32) = 0) by decide, if_false, Ok_some]
    exact ⟨trivial, Rel.thr ⟨D, L, B, H, T, g, s.congr rfl rfl rfl rfl rfl rfl rfl rfl, m.congr rfl rfl rfl rfl rfl rfl rfl, w, t1, t2, t3, t4, t5.congr (Sm.trans (Sm.uI (by omega)) (Sm.uI (by omega))) rfl rfl, ⟨0, by omega, rfl, rfl, rfl, Or.inr rfl, fun k hk => by omega⟩, t7, t8.congr (Sm.trans (Sm.uI (by omega)) (Sm.uI (by omega))) rfl rfl rfl rfl (fun _ _ _ => rfl)⟩⟩
theorem op_group (h : Rel σ μ) {x : Int32} (hx : x = 0 ∨ x = 1) : Ok (f11_group σ x) (fun p => Ok (f12_group μ x) (fun r => p.1 = r.1 ∧ RQ p.2 r.2 o)) := by
  obtain ⟨D, L, B, H, T, h0⟩ := id h
  obtain ⟨g, s, m, w, t1, t2, t3, t4, t5, t6, t7, t8⟩ := h0
  obtain ⟨q1, q2, q3, q4⟩ := t7
  have hB : isB x = true := isB_iff.mpr hx
  have hB2 : isB (fI σ 24 3) = true := isB_iff.mpr q1
  unfold f11_group f12_group f4_closeGroup f12_closes f12_says
  simp only [stp, bnd_some, hB, hB2, gd_true, q2, Ok_some]
  exact ⟨trivial, Rel.thr ⟨D, L, B, H, T, g, s.congr rfl rfl rfl rfl rfl rfl rfl rfl, m.congr rfl rfl rfl rfl rfl rfl rfl, w, t1, t2, t3, t4, t5.congr (Sm.trans (Sm.uI (by omega)) (Sm.trans (Sm.uI (by omega)) (Sm.uI (by omega)))) rfl rfl, t6.congr (Sm.trans (Sm.uI (by omega)) (Sm.trans (Sm.uI (by omega)) (Sm.uI (by omega)))) rfl rfl (fun _ _ _ => rfl), ⟨hx, rfl, rfl, fun z => absurd rfl z⟩, t8.congr (Sm.trans (Sm.uI (by omega)) (Sm.trans (Sm.uI (by omega)) (Sm.uI (by omega)))) rfl rfl rfl rfl (fun _ _ _ => rfl)⟩⟩
end R
