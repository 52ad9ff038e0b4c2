section R
variable {σ μ : Sto} {o : Int64} {L B H : Nat} {f : Nat → Int32} {n pn : Nat} {pt : Nat → Int32} {w : Int32}
theorem c7_next (h : CT σ 1 L B f n) (h1 : fI σ 1990 1 = Int32.ofNat pn) (hw : fI σ 1989 1 = w) (hp : ∀ k, k < pn → aI σ 1991 k = pt k) (h40 : pn ≤ 40) (hp1 : 1 ≤ pn) {a : Nat} {x : Int32} (hx : x = Int32.ofNat a) (ha : a ≤ n) : ∃ r, f7_next σ 1 x = some r ∧ isNx (fdB f n pt pn w) n a r := by
  subst hx
  have hn := h.1
  have key : Ok (f7_next σ 1 (Int32.ofNat a)) (isNx (fdB f n pt pn w) n a) := by
    unfold f7_next f7_next_j2
    simp only [Ok_stp, Ok_bnd]
    refine Ok.imp (Q := fun r => (r = .inl () ∧ ∀ q, a ≤ q → q < n → fdB f n pt pn w q = false) ∨ ∃ p, r = .inr (Int32.ofNat p) ∧ a ≤ p ∧ p < n ∧ fdB f n pt pn w p = true ∧ ∀ q, a ≤ q → q < p → fdB f n pt pn w q = false) ?_ ?_
    · refine Ok_count (n + 1 - a) (fun k z => z = Int32.ofNat (a + k) ∧ ∀ q, a ≤ q → q < a + k → fdB f n pt pn w q = false) ?_ 0 ⟨rfl, fun q c d => by omega⟩ (by omega) (by (show _ < FU; unfold FU; omega))
      rintro k z hk ⟨rfl, g1⟩
      have e1 : Int32.ofNat n - Int32.ofNat pn < Int32.ofNat (a + k) ↔ n < a + k + pn := by grind
      unfold f7_next_b2
      simp only [h.2.2.1, h1, e1]
      by_cases hq : n < a + k + pn
      · simp only [if_pos hq]
        simp only [Ok_stp, Ok_bnd, Ok_bndX, Ok_some, Ok_none, Ok_ite, Ok_gd, inb_iff, isB_iff, lp_inl, lp_inr, Prod.mk.injEq, Sum.inl.injEq, Sum.inr.injEq, reduceCtorEq, forall_eq', false_imp_iff, imp_self, true_and, and_true, implies_true, forall_const]
        refine Or.inl (fun q c d => ?_)
        by_cases e : q < a + k
        · exact g1 q c e
        · exact fdB_out (by omega)
      · simp only [if_neg hq, c7_isFind h h1 hw hp h40 rfl (show a + k + pn ≤ n by omega), bnd_some, ite_tz, i32_succ]
        by_cases hf : fdB f n pt pn w (a + k) = true
        · simp only [if_pos hf]
          simp only [Ok_stp, Ok_bnd, Ok_bndX, Ok_some, Ok_none, Ok_ite, Ok_gd, inb_iff, isB_iff, lp_inl, lp_inr, Prod.mk.injEq, Sum.inl.injEq, Sum.inr.injEq, reduceCtorEq, forall_eq', false_imp_iff, imp_self, true_and, and_true, implies_true, forall_const]
          exact Or.inr ⟨a + k, rfl, by omega, by omega, hf, g1⟩
        · simp only [if_neg hf, stp]
          have e2 : a + k + 1 = a + (k + 1) := by omega
          simp only [Ok_stp, Ok_bnd, Ok_bndX, Ok_some, Ok_none, Ok_ite, Ok_gd, inb_iff, isB_iff, lp_inl, lp_inr, Prod.mk.injEq, Sum.inl.injEq, Sum.inr.injEq, reduceCtorEq, forall_eq', false_imp_iff, imp_self, true_and, and_true, implies_true, forall_const]
          refine ⟨by omega, by rw [e2], fun q c d => ?_⟩
          by_cases e : q = a + k
          · rw [e]; exact Bool.not_eq_true _ ▸ hf
          · exact g1 q c (by omega)
    · rintro r (⟨rfl, g1⟩ | ⟨p, rfl, g1, g2, g3, g4⟩)
      · simp only [Ok_some]
        exact Or.inr ⟨g1, rfl⟩
      · simp only [Ok_some]
        exact Or.inl ⟨p, g1, g2, g3, g4, rfl⟩
  exact key
theorem c12_findFrom (h : MT μ f n) (h1 : fI μ 2017 15 = Int32.ofNat pn) (hw : fI μ 2017 19 = w) (hp : ∀ k, k < pn → aI μ 2025 k = pt k) (h40 : pn ≤ 40) {a : Nat} {x : Int32} (hx : x = Int32.ofNat a) (ha : a ≤ n) : ∃ r, f12_findFrom μ x = some r ∧ isNx (fdB f n pt pn w) n a r := by
  subst hx
  have hn := h.1
  have key : Ok (f12_findFrom μ (Int32.ofNat a)) (isNx (fdB f n pt pn w) n a) := by
    unfold f12_findFrom f12_findFrom_j2
    simp only [Ok_stp, Ok_bnd]
    refine Ok.imp (Q := fun r => ∃ p, r = Int32.ofNat p ∧ a ≤ p ∧ p ≤ n ∧ (p < n → fdB f n pt pn w p = true) ∧ ∀ q, a ≤ q → q < p → fdB f n pt pn w q = false) ?_ ?_
    · refine Ok_count (n - a) (fun k z => z = Int32.ofNat (a + k) ∧ ∀ q, a ≤ q → q < a + k → fdB f n pt pn w q = false) ?_ 0 ⟨rfl, fun q c d => by omega⟩ (by omega) (by (show _ < FU; unfold FU; omega))
      rintro k z hk ⟨rfl, g1⟩
      unfold f12_findFrom_b2
      simp only [h.2.1, i32_le (show n < 2147483648 by omega) (show a + k < 2147483648 by omega)]
      by_cases hq : n ≤ a + k
      · simp only [if_pos hq]
        simp only [Ok_stp, Ok_bnd, Ok_bndX, Ok_some, Ok_none, Ok_ite, Ok_gd, inb_iff, isB_iff, lp_inl, lp_inr, Prod.mk.injEq, Sum.inl.injEq, Sum.inr.injEq, reduceCtorEq, forall_eq', false_imp_iff, imp_self, true_and, and_true, implies_true, forall_const]
        exact ⟨a + k, rfl, by omega, by omega, fun _ => by omega, g1⟩
      · simp only [if_neg hq, c12_isFind h h1 hw hp h40 rfl (show a + k ≤ n by omega), bnd_some, ite_tz, i32_succ]
        by_cases hf : fdB f n pt pn w (a + k) = true
        · simp only [if_pos hf]
          simp only [Ok_stp, Ok_bnd, Ok_bndX, Ok_some, Ok_none, Ok_ite, Ok_gd, inb_iff, isB_iff, lp_inl, lp_inr, Prod.mk.injEq, Sum.inl.injEq, Sum.inr.injEq, reduceCtorEq, forall_eq', false_imp_iff, imp_self, true_and, and_true, implies_true, forall_const]
          exact ⟨a + k, rfl, by omega, by omega, fun _ => hf, g1⟩
        · simp only [if_neg hf, stp]
          have e2 : a + k + 1 = a + (k + 1) := by omega
          simp only [Ok_stp, Ok_bnd, Ok_bndX, Ok_some, Ok_none, Ok_ite, Ok_gd, inb_iff, isB_iff, lp_inl, lp_inr, Prod.mk.injEq, Sum.inl.injEq, Sum.inr.injEq, reduceCtorEq, forall_eq', false_imp_iff, imp_self, true_and, and_true, implies_true, forall_const]
          refine ⟨by omega, by rw [e2], fun q c d => ?_⟩
          by_cases e : q = a + k
          · rw [e]; exact Bool.not_eq_true _ ▸ hf
          · exact g1 q c (by omega)
    · rintro r ⟨p, rfl, g1, g2, g3, g4⟩
      unfold f12_findFrom_j24 f12_findFrom_j37
      simp only [h.2.1, i32_le (show n < 2147483648 by omega) (show p < 2147483648 by omega)]
      by_cases hq : n ≤ p
      · simp only [if_pos hq, Ok_some]
        exact Or.inr ⟨fun q c d => g4 q c (by omega), rfl⟩
      · simp only [if_neg hq, Ok_some]
        exact Or.inl ⟨p, g1, by omega, g3 (by omega), g4, rfl⟩
  exact key
theorem c7_before (h : CT σ 1 L B f n) (h1 : fI σ 1990 1 = Int32.ofNat pn) (hw : fI σ 1989 1 = w) (hp : ∀ k, k < pn → aI σ 1991 k = pt k) (h40 : pn ≤ 40) {a : Nat} {x : Int32} (hx : x = Int32.ofNat a) (ha : a ≤ n) : ∃ r, f7_before σ 1 x = some r ∧ isBf (fdB f n pt pn w) a r := by
  subst hx
  have hn := h.1
  have key : Ok (f7_before σ 1 (Int32.ofNat a)) (isBf (fdB f n pt pn w) a) := by
    unfold f7_before f7_before_j19 imin
    simp only [Ok_stp, Ok_bnd, h.2.2.1, h1]
    by_cases hneg : a = 0 ∨ n < pn
    · have e1 : (if Int32.ofNat n - Int32.ofNat pn < Int32.ofNat a - 1 then Int32.ofNat n - Int32.ofNat pn else Int32.ofNat a - 1) < 0 := by grind
      generalize (if Int32.ofNat n - Int32.ofNat pn < Int32.ofNat a - 1 then Int32.ofNat n - Int32.ofNat pn else Int32.ofNat a - 1) = z at e1
      have e2 : loopF (fun s_19 => f7_before_b19 1 (Int32.ofNat a) σ s_19) FU z = some (.inl ()) := by
        unfold FU loopF f7_before_b19
        rw [if_pos e1]
      rw [e2]
      simp only [Ok_some]
      exact Or.inr ⟨fun q hq => fdB_out (by omega), rfl⟩
    · obtain ⟨m, hm1, hm2, hm3, hm4⟩ : ∃ m : Nat, (if Int32.ofNat n - Int32.ofNat pn < Int32.ofNat a - 1 then Int32.ofNat n - Int32.ofNat pn else Int32.ofNat a - 1) = Int32.ofNat m ∧ m < a ∧ (m + 1 < a → n < m + 1 + pn) ∧ m + pn ≤ n := by
        by_cases hc : n - pn < a - 1
        · exact ⟨n - pn, by grind, by omega, fun _ => by omega, by omega⟩
        · exact ⟨a - 1, by grind, by omega, fun _ => by omega, by omega⟩
      rw [hm1]
      refine Ok.imp (Q := fun r => (r = .inl () ∧ ∀ q, q < a → fdB f n pt pn w q = false) ∨ ∃ p, r = .inr (Int32.ofNat p) ∧ p < a ∧ fdB f n pt pn w p = true ∧ ∀ q, p < q → q < a → fdB f n pt pn w q = false) ?_ ?_
      · refine Ok_count (m + 1) (fun k z => z = Int32.ofInt ((m : Int) - k) ∧ ∀ q, m < q + k → q < a → fdB f n pt pn w q = false) ?_ 0 ⟨?_, fun q c d => fdB_out (by omega)⟩ (by omega) (by (show _ < FU; unfold FU; omega))
        · rintro k z hk ⟨rfl, g1⟩
          unfold f7_before_b19
          by_cases hq : k = m + 1
          · have e3 : Int32.ofInt ((m : Int) - k) < 0 := by
              rw [hq, show ((m : Int) - ((m + 1 : Nat) : Int)) = -1 by omega]
              decide
            simp only [if_pos e3]
            simp only [Ok_stp, Ok_bnd, Ok_bndX, Ok_some, Ok_none, Ok_ite, Ok_gd, inb_iff, isB_iff, lp_inl, lp_inr, Prod.mk.injEq, Sum.inl.injEq, Sum.inr.injEq, reduceCtorEq, forall_eq', false_imp_iff, imp_self, true_and, and_true, implies_true, forall_const]
            exact Or.inl (fun q c => g1 q (by omega) c)
          · have e3 : Int32.ofInt ((m : Int) - k) = Int32.ofNat (m - k) := by
              rw [show ((m : Int) - k) = ((m - k : Nat) : Int) by omega]
              rfl
            have e4 : ¬ Int32.ofNat (m - k) < 0 := by grind
            have e5 : Int32.ofNat (m - k) + -1 = Int32.ofInt ((m : Int) - ((k + 1 : Nat) : Int)) := by
              rw [← e3, show ((-1 : Int32)) = Int32.ofInt (-1) from rfl, ← Int32.ofInt_add]
              congr 1
              omega
            simp only [e3, if_neg e4, c7_isFind h h1 hw hp h40 rfl (show m - k + pn ≤ n by omega), bnd_some, ite_tz, e5]
            by_cases hf : fdB f n pt pn w (m - k) = true
            · simp only [if_pos hf]
              simp only [Ok_stp, Ok_bnd, Ok_bndX, Ok_some, Ok_none, Ok_ite, Ok_gd, inb_iff, isB_iff, lp_inl, lp_inr, Prod.mk.injEq, Sum.inl.injEq, Sum.inr.injEq, reduceCtorEq, forall_eq', false_imp_iff, imp_self, true_and, and_true, implies_true, forall_const]
              exact Or.inr ⟨m - k, rfl, by omega, hf, fun q c d => g1 q (by omega) d⟩
            · simp only [if_neg hf, stp]
              simp only [Ok_stp, Ok_bnd, Ok_bndX, Ok_some, Ok_none, Ok_ite, Ok_gd, inb_iff, isB_iff, lp_inl, lp_inr, Prod.mk.injEq, Sum.inl.injEq, Sum.inr.injEq, reduceCtorEq, forall_eq', false_imp_iff, imp_self, true_and, and_true, implies_true, forall_const]
              refine ⟨by omega, fun q c d => ?_⟩
              by_cases e : q = m - k
              · rw [e]; exact Bool.not_eq_true _ ▸ hf
              · exact g1 q (by omega) d
        · rw [show ((m : Int) - ((0 : Nat) : Int)) = (m : Int) by omega]
          rfl
      · rintro r (⟨rfl, g1⟩ | ⟨p, rfl, g1, g3, g4⟩)
        · simp only [Ok_some]
          exact Or.inr ⟨g1, rfl⟩
        · simp only [Ok_some]
          exact Or.inl ⟨p, g1, g3, g4, rfl⟩
  exact key
theorem c12_findBack (h : MT μ f n) (h1 : fI μ 2017 15 = Int32.ofNat pn) (hw : fI μ 2017 19 = w) (hp : ∀ k, k < pn → aI μ 2025 k = pt k) (h40 : pn ≤ 40) {a : Nat} {x y : Int32} (ha : a ≤ n) : ∃ r, f12_find_j45 x y μ (Int32.ofNat a - 1) = some (r, uI μ 2017 18 0) ∧ isBf (fdB f n pt pn w) a r := by
  have hn := h.1
  have key : Ok (loopF (fun s_45 => f12_find_b45 x y μ s_45) FU (Int32.ofNat a - 1)) (isBf (fdB f n pt pn w) a) := by
    refine Ok_count a (fun k z => z = Int32.ofInt ((a : Int) - 1 - k) ∧ ∀ q, a ≤ q + k → q < a → fdB f n pt pn w q = false) ?_ 0 ⟨?_, fun q c d => by omega⟩ (by omega) (by (show _ < FU; unfold FU; omega))
    · rintro k z hk ⟨rfl, g1⟩
      unfold f12_find_b45
      by_cases hq : k = a
      · have e3 : Int32.ofInt ((a : Int) - 1 - k) = -1 := by
          rw [hq, show ((a : Int) - 1 - (a : Int)) = -1 by omega]
          rfl
        rw [e3, if_pos (by decide)]
        simp only [Ok_stp, Ok_bnd, Ok_bndX, Ok_some, Ok_none, Ok_ite, Ok_gd, inb_iff, isB_iff, lp_inl, lp_inr, Prod.mk.injEq, Sum.inl.injEq, Sum.inr.injEq, reduceCtorEq, forall_eq', false_imp_iff, imp_self, true_and, and_true, implies_true, forall_const]
        exact Or.inr ⟨fun q c => g1 q (by omega) c, rfl⟩
      · have e3 : Int32.ofInt ((a : Int) - 1 - k) = Int32.ofNat (a - 1 - k) := by
          rw [show ((a : Int) - 1 - k) = ((a - 1 - k : Nat) : Int) by omega]
          rfl
        have e4 : ¬ Int32.ofNat (a - 1 - k) < 0 := by grind
        have e5 : Int32.ofNat (a - 1 - k) + -1 = Int32.ofInt ((a : Int) - 1 - ((k + 1 : Nat) : Int)) := by
          rw [← e3, show ((-1 : Int32)) = Int32.ofInt (-1) from rfl, ← Int32.ofInt_add]
          congr 1
          omega
        simp only [e3, if_neg e4, c12_isFind h h1 hw hp h40 rfl (show a - 1 - k ≤ n by omega), bnd_some, ite_tz, e5]
        by_cases hf : fdB f n pt pn w (a - 1 - k) = true
        · simp only [if_pos hf]
          simp only [Ok_stp, Ok_bnd, Ok_bndX, Ok_some, Ok_none, Ok_ite, Ok_gd, inb_iff, isB_iff, lp_inl, lp_inr, Prod.mk.injEq, Sum.inl.injEq, Sum.inr.injEq, reduceCtorEq, forall_eq', false_imp_iff, imp_self, true_and, and_true, implies_true, forall_const]
          exact Or.inl ⟨a - 1 - k, by omega, hf, fun q c d => g1 q (by omega) d, rfl⟩
        · simp only [if_neg hf, stp]
          simp only [Ok_stp, Ok_bnd, Ok_bndX, Ok_some, Ok_none, Ok_ite, Ok_gd, inb_iff, isB_iff, lp_inl, lp_inr, Prod.mk.injEq, Sum.inl.injEq, Sum.inr.injEq, reduceCtorEq, forall_eq', false_imp_iff, imp_self, true_and, and_true, implies_true, forall_const]
          refine ⟨by omega, fun q c d => ?_⟩
          by_cases e : q = a - 1 - k
          · rw [e]; exact Bool.not_eq_true _ ▸ hf
          · exact g1 q (by omega) d
    · rw [show ((a : Int) - 1 - ((0 : Nat) : Int)) = (a : Int) + (-1) by omega, Int32.ofInt_add]
      show Int32.ofNat a - 1 = Int32.ofNat a + Int32.ofInt (-1)
      rw [show Int32.ofInt (-1) = (-1 : Int32) from rfl]
      grind
  obtain ⟨r, k1, k2⟩ := key
  unfold f12_find_j45 f12_find_j63
  rw [k1, bnd_some, c12_told, bnd_some]
  exact ⟨r, rfl, k2⟩
theorem c7_isSet (h1 : fI σ 1990 1 = Int32.ofNat pn) (h40 : pn ≤ 40) : f7_isSet σ = some (tz (decide (1 ≤ pn))) := by
  unfold f7_isSet f7_isSet_j15
  rw [h1]
  have e : Int32.ofNat pn ≤ 0 ↔ ¬ 1 ≤ pn := by grind
  by_cases hp : 1 ≤ pn
  · rw [if_neg (fun z => e.mp z hp), decide_eq_true hp]
    rfl
  · rw [if_pos (e.mpr hp), decide_eq_false hp]
    rfl
theorem op_find (h : Rel σ μ) {x y : Int32} : stH (f11_find σ x y) [(1, 1), (3, 2)] o (f12_find μ x y) RQ := by
  obtain ⟨⟨f, n, hd, c, cu, ma, lf, ml⟩, L, B, H, T, h0⟩ := id h
  have hC : CT σ 1 L B f n := h0.2.1.1
  have hM : MT μ f n := h0.2.2.1.1
  obtain ⟨p1, p2, pn, p3, p4, p5, p6⟩ := h0.2.2.2.2.2.2.1
  have hn := hC.1
  unfold f11_find f11_find_j56 f12_find
  rw [c11_requirePlace hC, c12_isPlace hM]
  simp only [bnd_some, ite_tz, decide_eq_true_eq, c12_refuse, c12_told, p5]
  by_cases hx : 0 ≤ x ∧ x ≤ Int32.ofNat n
  · obtain ⟨a, ha, rfl⟩ := of_range hx (by omega)
    have e0 : Int32.ofNat pn = 0 ↔ ¬ 1 ≤ pn := by grind
    simp only [if_pos hx, bndX_inl, c7_isSet p4 p3, bnd_some, ite_tz, decide_eq_true_eq, e0]
    by_cases hp : 1 ≤ pn
    · simp only [if_pos hp, if_neg (fun z : ¬ 1 ≤ pn => z hp), stp]
      by_cases hy : y = 0
      · simp only [if_pos hy]
        obtain ⟨r, r1, r2⟩ := c7_before (w := fI σ 1989 1) hC p4 rfl p6 p3 rfl ha
        obtain ⟨r', r1', r2'⟩ := c12_findBack (x := Int32.ofNat a) (y := y) (w := fI σ 1989 1) (pt := aI μ 2025) hM p5 p1.symm (fun _ _ => rfl) p3 ha
        rw [r1, bnd_some, r1', r2.uniq r2']
        exact stH_ok rfl rfl h
      · simp only [if_neg hy]
        obtain ⟨r, r1, r2⟩ := c7_next (w := fI σ 1989 1) hC p4 rfl p6 p3 hp rfl ha
        obtain ⟨r', r1', r2'⟩ := c12_findFrom (w := fI σ 1989 1) (pt := aI μ 2025) hM p5 p1.symm (fun _ _ => rfl) p3 rfl ha
        rw [r1, r1', bnd_some, bnd_some, r2.uniq r2']
        exact stH_ok rfl rfl h
    · simp only [if_neg hp, if_pos hp]
      exact stH_er (c := 3) (t := 2) rfl (by decide) (by decide) rfl h
  · simp only [if_neg hx]
    exact stH_er (c := 1) (t := 1) rfl (by decide) (by decide) rfl h
end R
