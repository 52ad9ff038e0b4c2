/-! finds -/
def fdB (f : Nat → Int32) (n : Nat) (pt : Nat → Int32) (pn : Nat) (w : Int32) (p : Nat) : Bool := decide (p + pn ≤ n) && decide (∀ k, k < pn → f (p + k) = pt k) && (w == 0 || ((p == 0 || !isWd (f (p - 1))) && (decide (n ≤ p + pn) || !isWd (f (p + pn)))))
theorem fdB_in {f : Nat → Int32} {n : Nat} {pt : Nat → Int32} {pn : Nat} {w : Int32} {p : Nat} (h : fdB f n pt pn w p = true) : p + pn ≤ n := by
  unfold fdB at h
  simp only [Bool.and_eq_true, decide_eq_true_eq] at h
  exact h.1.1
theorem fdB_out {f : Nat → Int32} {n : Nat} {pt : Nat → Int32} {pn : Nat} {w : Int32} {p : Nat} (h : ¬ p + pn ≤ n) : fdB f n pt pn w p = false := by
  cases e : fdB f n pt pn w p
  · rfl
  · exact absurd (fdB_in e) h
/-- the first find from a place on, the last one ahead of a place; -1 for none -/
def isNx (P : Nat → Bool) (n a : Nat) (r : Int32) : Prop := (∃ p, a ≤ p ∧ p < n ∧ P p = true ∧ (∀ q, a ≤ q → q < p → P q = false) ∧ r = Int32.ofNat p) ∨ ((∀ q, a ≤ q → q < n → P q = false) ∧ r = -1)
def isBf (P : Nat → Bool) (a : Nat) (r : Int32) : Prop := (∃ p, p < a ∧ P p = true ∧ (∀ q, p < q → q < a → P q = false) ∧ r = Int32.ofNat p) ∨ ((∀ q, q < a → P q = false) ∧ r = -1)
theorem isNx.uniq {P : Nat → Bool} {n a : Nat} {r r' : Int32} (h : isNx P n a r) (h2 : isNx P n a r') : r = r' := by
  rcases h with ⟨p, a1, a2, a3, a4, rfl⟩ | ⟨a1, rfl⟩
  · rcases h2 with ⟨q, b1, b2, b3, b4, rfl⟩ | ⟨b1, rfl⟩
    · have : p = q := by
        rcases Nat.lt_trichotomy p q with hl | hl | hl
        · rw [b4 p a1 hl] at a3; cases a3
        · exact hl
        · rw [a4 q b1 hl] at b3; cases b3
      rw [this]
    · rw [b1 p a1 a2] at a3; cases a3
  · rcases h2 with ⟨q, b1, b2, b3, b4, rfl⟩ | ⟨b1, rfl⟩
    · rw [a1 q b1 b2] at b3; cases b3
    · rfl
theorem isBf.uniq {P : Nat → Bool} {a : Nat} {r r' : Int32} (h : isBf P a r) (h2 : isBf P a r') : r = r' := by
  rcases h with ⟨p, a1, a3, a4, rfl⟩ | ⟨a1, rfl⟩
  · rcases h2 with ⟨q, b1, b3, b4, rfl⟩ | ⟨b1, rfl⟩
    · have : p = q := by
        rcases Nat.lt_trichotomy p q with hl | hl | hl
        · rw [a4 q hl b1] at b3; cases b3
        · exact hl
        · rw [b4 p hl a1] at a3; cases a3
      rw [this]
    · rw [b1 p a1] at a3; cases a3
  · rcases h2 with ⟨q, b1, b3, b4, rfl⟩ | ⟨b1, rfl⟩
    · rw [a1 q b1] at b3; cases b3
    · rfl
def cB (P : Nat → Bool) : Nat → Nat
  | 0 => 0
  | k + 1 => cB P k + (if P k = true then 1 else 0)
theorem cB_le {P : Nat → Bool} : ∀ k, cB P k ≤ k := by
  intro k
  induction k with
  | zero => exact Nat.le_refl _
  | succ k ih => rw [cB]; split <;> omega
theorem cB_zero {P : Nat → Bool} {m : Nat} : ∀ d, (∀ j, m ≤ j → j < m + d → P j = false) → cB P (m + d) = cB P m := by
  intro d
  induction d with
  | zero => intro _; rfl
  | succ d ih =>
    intro h
    rw [← Nat.add_assoc, cB, h _ (by omega) (by omega), ih (fun j a b => h j a (by omega))]
    rfl
section R
variable {σ μ : Sto} {o : Int64} {L B H : Nat} {f : Nat → Int32} {n pn : Nat} {pt : Nat → Int32} {w : Int32}
theorem c7_isFind (h : CT σ 1 L B f n) (h1 : fI σ 1990 1 = Int32.ofNat pn) (hw : fI σ 1989 1 = w) (hp : ∀ k, k < pn → aI σ 1991 k = pt k) (h40 : pn ≤ 40) {p : Nat} {x : Int32} (hx : x = Int32.ofNat p) (hin : p + pn ≤ n) : f7_isFind σ 1 x = some (tz (fdB f n pt pn w p)) := by
  subst hx
  apply Ok_eq
  obtain ⟨hn, -, h3, -, ⟨h5, h6, h7⟩, -, hL, -⟩ := h
  unfold f7_isFind f7_isFind_j2
  simp only [Ok_stp, Ok_bnd]
  refine Ok.imp (Q := fun r => (r = .inl () ∧ ∀ k, k < pn → f (p + k) = pt k) ∨ (r = .inr () ∧ ¬ ∀ k, k < pn → f (p + k) = pt k)) ?_ ?_
  · refine Ok_count pn (fun k z => z = Int32.ofNat k ∧ ∀ i, i < k → f (p + i) = pt i) ?_ 0 ⟨rfl, fun i hi => by omega⟩ (by omega) (by (show _ < FU; unfold FU; omega))
    rintro k z hk ⟨rfl, g1⟩
    unfold f7_isFind_b2
    simp only [h1, h5, i32_le (show pn < 2147483648 by omega) (show k < 2147483648 by omega), ← Int32.ofNat_add, i32_succ, okr_s.mpr h6, Nat.add_sub_cancel, h7, gd_true, ofNat_clamp (show p + k < 2147483648 by omega), ofNat_clamp (show k < 2147483648 by omega)]
    by_cases hkp : pn ≤ k
    · simp only [if_pos hkp]
      simp only [Ok_stp, Ok_bnd, Ok_bndX, Ok_some, Ok_none, Ok_ite, Ok_gd, inb_iff, isB_iff, lp_inl, lp_inr, Prod.mk.injEq, Sum.inl.injEq, Sum.inr.injEq, reduceCtorEq, forall_eq', false_imp_iff, imp_self, true_and, and_true, implies_true, forall_const]
      exact Or.inl (fun i hi => g1 i (by omega))
    · simp only [if_neg hkp, inb_n (show p + k < 3000 by omega) (by omega), inb_n (show k < 40 by omega) (by omega), gd_true, hL (p + k) (by omega), hp k (by omega)]
      by_cases hq : f (p + k) = pt k
      · simp only [if_pos hq]
        simp only [Ok_stp, Ok_bnd, Ok_bndX, Ok_some, Ok_none, Ok_ite, Ok_gd, inb_iff, isB_iff, lp_inl, lp_inr, Prod.mk.injEq, Sum.inl.injEq, Sum.inr.injEq, reduceCtorEq, forall_eq', false_imp_iff, imp_self, true_and, and_true, implies_true, forall_const]
        exact ⟨by omega, fun i hi => by
          by_cases e : i = k
          · rw [e]; exact hq
          · exact g1 i (by omega)⟩
      · simp only [if_neg hq]
        simp only [Ok_stp, Ok_bnd, Ok_bndX, Ok_some, Ok_none, Ok_ite, Ok_gd, inb_iff, isB_iff, lp_inl, lp_inr, Prod.mk.injEq, Sum.inl.injEq, Sum.inr.injEq, reduceCtorEq, forall_eq', false_imp_iff, imp_self, true_and, and_true, implies_true, forall_const]
        exact Or.inr (fun z => hq (z k (by omega)))
  · rintro r (⟨rfl, g1⟩ | ⟨rfl, g1⟩)
    · unfold f7_isFind_j82 f7_isFind_j83 f7_isFind_j110 f7_isFind_j114 f7_isFind_j115 fdB
      have e1 : decide (p + pn ≤ n) = true := decide_eq_true hin
      have e2 : decide (∀ k, k < pn → f (p + k) = pt k) = true := decide_eq_true g1
      have e3 : Int32.ofNat p ≤ 0 ↔ p = 0 := by grind
      have e4 : 1 ≤ p → Int32.ofNat p - 1 = Int32.ofNat (p - 1) := by intro; grind
      simp only [hw, h1, h3, h5, e1, e2, e3, okr_s.mpr h6, Nat.add_sub_cancel, h7, gd_true, ← Int32.ofNat_add, c11_isOfWord, bnd_some, ite_tz, stp, i32_le (show n < 2147483648 by omega) (show p + pn < 2147483648 by omega), ofNat_clamp (show p + pn < 2147483648 by omega), Bool.true_and]
      by_cases hw0 : w = 0
      · rw [if_pos hw0, hw0]
        exact Ok_some.mpr rfl
      · have hw1 : (w == 0) = false := by simpa using hw0
        simp only [if_neg hw0, hw1, Bool.false_or]
        have tail : Ok (if n ≤ p + pn then gd (isB 1) (some (1 : Int32)) else gd (inb (Int32.ofNat (p + pn)) 3000) (if isWd (aI σ L (p + pn)) = true then gd (isB 0) (some 0) else gd (isB 1) (some 1))) (fun r => r = tz (decide (n ≤ p + pn) || !isWd (f (p + pn)))) := by
          by_cases hq : n ≤ p + pn
          · simp only [if_pos hq, decide_eq_true hq, Bool.true_or]
            exact Ok_some.mpr rfl
          · simp only [if_neg hq, decide_eq_false hq, Bool.false_or, inb_n (show p + pn < 3000 by omega) (by omega), gd_true, hL (p + pn) (by omega)]
            cases isWd (f (p + pn))
            · exact Ok_some.mpr rfl
            · exact Ok_some.mpr rfl
        by_cases hp0 : p = 0
        · simp only [if_pos hp0, if_true]
          have : (p == 0) = true := by simpa using hp0
          simp only [this, Bool.true_or, Bool.true_and]
          exact tail
        · have hp1 : (p == 0) = false := by simpa using hp0
          simp only [if_neg hp0, hp1, Bool.false_or, e4 (by omega), inb_n (show p - 1 < 3000 by omega) (by omega), ofNat_clamp (show p - 1 < 2147483648 by omega), gd_true, hL (p - 1) (by omega)]
          cases isWd (f (p - 1))
          · simp only [Bool.false_eq_true, if_false, if_true, Bool.not_false, Bool.true_and]
            exact tail
          · simp only [if_true, show ¬ ((1 : Int32) = 0) by decide, if_false, Bool.not_true, Bool.false_and]
            exact Ok_some.mpr rfl
    · have e2 : decide (∀ k, k < pn → f (p + k) = pt k) = false := decide_eq_false g1
      simp only [Ok_some]
      unfold fdB
      rw [e2, Bool.and_false, Bool.false_and]
      rfl
theorem c12_isFind (h : MT μ f n) (h1 : fI μ 2017 15 = Int32.ofNat pn) (hw : fI μ 2017 19 = w) (hp : ∀ k, k < pn → aI μ 2025 k = pt k) (h40 : pn ≤ 40) {p : Nat} {x : Int32} (hx : x = Int32.ofNat p) (hpn : p ≤ n) : f12_isFind μ x = some (tz (fdB f n pt pn w p)) := by
  subst hx
  apply Ok_eq
  obtain ⟨hn, h3, hL⟩ := h
  unfold f12_isFind
  simp only [h1, h3, ← Int32.ofNat_add, i32_le (show p + pn < 2147483648 by omega) (show n < 2147483648 by omega)]
  by_cases hin : p + pn ≤ n
  · simp only [if_pos hin]
    unfold f12_isFind_j17
    simp only [Ok_stp, Ok_bnd]
    refine Ok.imp (Q := fun r => (r = .inl () ∧ ∀ k, k < pn → f (p + k) = pt k) ∨ (r = .inr () ∧ ¬ ∀ k, k < pn → f (p + k) = pt k)) ?_ ?_
    · refine Ok_count pn (fun k z => z = Int32.ofNat k ∧ ∀ i, i < k → f (p + i) = pt i) ?_ 0 ⟨rfl, fun i hi => by omega⟩ (by omega) (by (show _ < FU; unfold FU; omega))
      rintro k z hk ⟨rfl, g1⟩
      unfold f12_isFind_b17
      simp only [h1, i32_le (show pn < 2147483648 by omega) (show k < 2147483648 by omega), ← Int32.ofNat_add, i32_succ, ofNat_clamp (show p + k < 2147483648 by omega), ofNat_clamp (show k < 2147483648 by omega)]
      by_cases hkp : pn ≤ k
      · simp only [if_pos hkp]
        simp only [Ok_stp, Ok_bnd, Ok_bndX, Ok_some, Ok_none, Ok_ite, Ok_gd, inb_iff, isB_iff, lp_inl, lp_inr, Prod.mk.injEq, Sum.inl.injEq, Sum.inr.injEq, reduceCtorEq, forall_eq', false_imp_iff, imp_self, true_and, and_true, implies_true, forall_const]
        exact Or.inl (fun i hi => g1 i (by omega))
      · simp only [if_neg hkp, inb_n (show p + k < 3000 by omega) (by omega), inb_n (show k < 40 by omega) (by omega), gd_true, hL (p + k) (by omega), hp k (by omega)]
        by_cases hq : f (p + k) = pt k
        · simp only [if_pos hq]
          simp only [Ok_stp, Ok_bnd, Ok_bndX, Ok_some, Ok_none, Ok_ite, Ok_gd, inb_iff, isB_iff, lp_inl, lp_inr, Prod.mk.injEq, Sum.inl.injEq, Sum.inr.injEq, reduceCtorEq, forall_eq', false_imp_iff, imp_self, true_and, and_true, implies_true, forall_const]
          exact ⟨by omega, fun i hi => by
            by_cases e : i = k
            · rw [e]; exact hq
            · exact g1 i (by omega)⟩
        · simp only [if_neg hq]
          simp only [Ok_stp, Ok_bnd, Ok_bndX, Ok_some, Ok_none, Ok_ite, Ok_gd, inb_iff, isB_iff, lp_inl, lp_inr, Prod.mk.injEq, Sum.inl.injEq, Sum.inr.injEq, reduceCtorEq, forall_eq', false_imp_iff, imp_self, true_and, and_true, implies_true, forall_const]
          exact Or.inr (fun z => hq (z k (by omega)))
    · rintro r (⟨rfl, g1⟩ | ⟨rfl, g1⟩)
      · unfold f12_isFind_j82 f12_isFind_j102 f12_isFind_j106 f12_isFind_j107 fdB
        have e1 : decide (p + pn ≤ n) = true := decide_eq_true hin
        have e2 : decide (∀ k, k < pn → f (p + k) = pt k) = true := decide_eq_true g1
        have e3 : Int32.ofNat p = 0 ↔ p = 0 := by rw [show (0 : Int32) = Int32.ofNat 0 from rfl, i32_eq (by omega) (by omega)]
        have e4 : 1 ≤ p → Int32.ofNat p - 1 = Int32.ofNat (p - 1) := by intro; grind
        simp only [hw, h1, h3, e1, e2, e3, ← Int32.ofNat_add, c12_isOfWord, bnd_some, ite_tz, stp, i32_eq (show p + pn < 2147483648 by omega) (show n < 2147483648 by omega), ofNat_clamp (show p + pn < 2147483648 by omega), Bool.true_and]
        by_cases hw0 : w = 0
        · rw [if_pos hw0, hw0]
          exact Ok_some.mpr rfl
        · have hw1 : (w == 0) = false := by simpa using hw0
          simp only [if_neg hw0, hw1, Bool.false_or]
          have tail : Ok (if p + pn = n then gd (isB 1) (some (1 : Int32)) else gd (inb (Int32.ofNat (p + pn)) 3000) (if isWd (aI μ 2018 (p + pn)) = true then gd (isB 0) (some 0) else gd (isB 1) (some 1))) (fun r => r = tz (decide (n ≤ p + pn) || !isWd (f (p + pn)))) := by
            by_cases hq : p + pn = n
            · simp only [if_pos hq, decide_eq_true (show n ≤ p + pn by omega), Bool.true_or]
              exact Ok_some.mpr rfl
            · simp only [if_neg hq, decide_eq_false (show ¬ n ≤ p + pn by omega), Bool.false_or, inb_n (show p + pn < 3000 by omega) (by omega), gd_true, hL (p + pn) (by omega)]
              cases isWd (f (p + pn))
              · exact Ok_some.mpr rfl
              · exact Ok_some.mpr rfl
          by_cases hp0 : p = 0
          · simp only [if_pos hp0]
            have : (p == 0) = true := by simpa using hp0
            simp only [this, Bool.true_or, Bool.true_and]
            exact tail
          · have hp1 : (p == 0) = false := by simpa using hp0
            simp only [if_neg hp0, hp1, Bool.false_or, e4 (by omega), inb_n (show p - 1 < 3000 by omega) (by omega), ofNat_clamp (show p - 1 < 2147483648 by omega), gd_true, hL (p - 1) (by omega)]
            cases isWd (f (p - 1))
            · simp only [Bool.false_eq_true, if_false, Bool.not_false, Bool.true_and]
              exact tail
            · simp only [if_true, Bool.not_true, Bool.false_and]
              exact Ok_some.mpr rfl
      · have e2 : decide (∀ k, k < pn → f (p + k) = pt k) = false := decide_eq_false g1
        simp only [Ok_some]
        unfold fdB
        rw [e2, Bool.and_false, Bool.false_and]
        rfl
  · simp only [if_neg hin, Ok_some, fdB_out hin]
    rfl
end R
