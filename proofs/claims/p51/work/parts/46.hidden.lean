/-! hidden lines: the run that a line stands in -/
def isRun (h : Nat → Int32) (m j lo hi : Nat) : Prop := lo ≤ j ∧ j < hi ∧ hi ≤ m ∧ (∀ k, lo ≤ k → k < hi → h k ≠ 0) ∧ (lo = 0 ∨ h (lo - 1) = 0) ∧ (hi = m ∨ h hi = 0)
theorem isRun.ex {h : Nat → Int32} {m j : Nat} (hj : j < m) (h0 : h j ≠ 0) : ∃ lo hi, isRun h m j lo hi := by
  have hlo : ∀ d, d ≤ j → (∀ k, j - d ≤ k → k ≤ j → h k ≠ 0) → ∃ lo, lo ≤ j ∧ (∀ k, lo ≤ k → k ≤ j → h k ≠ 0) ∧ (lo = 0 ∨ h (lo - 1) = 0) := by
    intro d
    obtain ⟨e, he⟩ : ∃ e, e = j - d := ⟨_, rfl⟩
    induction e generalizing d with
    | zero => intro hd hk; exact ⟨0, by omega, fun k _ a => hk k (by omega) a, Or.inl rfl⟩
    | succ e ih =>
      intro hd hk
      by_cases hz : h (j - d - 1) = 0
      · exact ⟨j - d, by omega, hk, Or.inr hz⟩
      · refine ih (d + 1) (by omega) (by omega) (fun k a b => ?_)
        by_cases hq : k = j - d - 1
        · rw [hq]; exact hz
        · exact hk k (by omega) b
  have hhi : ∀ d, j + d + 1 ≤ m → (∀ k, j ≤ k → k ≤ j + d → h k ≠ 0) → ∃ hi, j < hi ∧ hi ≤ m ∧ (∀ k, j ≤ k → k < hi → h k ≠ 0) ∧ (hi = m ∨ h hi = 0) := by
    intro d
    obtain ⟨e, he⟩ : ∃ e, e = m - (j + d + 1) := ⟨_, rfl⟩
    induction e generalizing d with
    | zero => intro hd hk; exact ⟨m, by omega, by omega, fun k a b => hk k a (by omega), Or.inl rfl⟩
    | succ e ih =>
      intro hd hk
      by_cases hz : h (j + d + 1) = 0
      · exact ⟨j + d + 1, by omega, by omega, fun k a b => hk k a (by omega), Or.inr hz⟩
      · refine ih (d + 1) (by omega) (by omega) (fun k a b => ?_)
        by_cases hq : k = j + d + 1
        · rw [hq]; exact hz
        · exact hk k a (by omega)
  obtain ⟨lo, l1, l2, l3⟩ := hlo 0 (by omega) (fun k a b => by have : k = j := by omega
                                                               rw [this]; exact h0)
  obtain ⟨hi, g1, g2, g3, g4⟩ := hhi 0 (by omega) (fun k a b => by have : k = j := by omega
                                                                   rw [this]; exact h0)
  refine ⟨lo, hi, l1, g1, g2, fun k a b => ?_, l3, g4⟩
  by_cases hk : k ≤ j
  · exact l2 k a hk
  · exact g3 k (by omega) b
def clr (r : Nat → Int32) (lo hi k : Nat) : Int32 := if lo ≤ k ∧ k < hi then 0 else r k
/-- the hidden lines after a fold is opened, and how many it had -/
def isOp (h : Nat → Int32) (m j : Nat) (h' : Nat → Int32) (c : Nat) : Prop := (h j = 0 ∧ c = 0 ∧ ∀ k, k < m → h' k = h k) ∨ ∃ lo hi, isRun h m j lo hi ∧ c = hi - lo ∧ ∀ k, k < m → h' k = clr h lo hi k
theorem isRun.uniq {h : Nat → Int32} {m j lo hi lo' hi' : Nat} (a : isRun h m j lo hi) (b : isRun h m j lo' hi') : lo = lo' ∧ hi = hi' := by
  obtain ⟨a1, a2, a3, a4, a5, a6⟩ := a
  obtain ⟨b1, b2, b3, b4, b5, b6⟩ := b
  have key1 : ∀ lo lo' : Nat, lo ≤ j → lo' ≤ j → (∀ k, lo ≤ k → k ≤ j → h k ≠ 0) → (lo' = 0 ∨ h (lo' - 1) = 0) → lo' ≤ lo := by
    intro lo lo' c1 c2 c3 c4
    rcases c4 with c4 | c4
    · omega
    · by_cases c5 : lo' ≤ lo
      · exact c5
      · exact absurd c4 (c3 _ (by omega) (by omega))
  have key2 : ∀ hi hi' : Nat, j < hi → j < hi' → hi ≤ m → (∀ k, j ≤ k → k < hi → h k ≠ 0) → (hi' = m ∨ h hi' = 0) → hi ≤ hi' := by
    intro hi hi' c1 c2 c3 c4 c5
    rcases c5 with c5 | c5
    · omega
    · by_cases c6 : hi ≤ hi'
      · exact c6
      · exact absurd c5 (c4 _ (by omega) (by omega))
  have k1 := key1 lo lo' a1 b1 (fun k c d => a4 k c (by omega)) b5
  have k2 := key1 lo' lo b1 a1 (fun k c d => b4 k c (by omega)) a5
  have k3 := key2 hi hi' a2 b2 a3 (fun k c d => a4 k (by omega) d) b6
  have k4 := key2 hi' hi b2 a2 b3 (fun k c d => b4 k (by omega) d) a6
  omega
theorem isOp.uniq {h h1 h2 : Nat → Int32} {m j c1 c2 : Nat} (a : isOp h m j h1 c1) (b : isOp h m j h2 c2) (hj : j < m) : c1 = c2 ∧ ∀ k, k < m → h1 k = h2 k := by
  rcases a with ⟨a1, a2, a3⟩ | ⟨lo, hi, a1, a2, a3⟩
  · rcases b with ⟨b1, b2, b3⟩ | ⟨lo', hi', b1, b2, b3⟩
    · exact ⟨by omega, fun k hk => (a3 k hk).trans (b3 k hk).symm⟩
    · exact absurd a1 (b1.2.2.2.1 j b1.1 b1.2.1)
  · rcases b with ⟨b1, b2, b3⟩ | ⟨lo', hi', b1, b2, b3⟩
    · exact absurd b1 (a1.2.2.2.1 j a1.1 a1.2.1)
    · obtain ⟨rfl, rfl⟩ := a1.uniq b1
      exact ⟨by omega, fun k hk => (a3 k hk).trans (b3 k hk).symm⟩
theorem isOp.ex {h : Nat → Int32} {m j : Nat} (hj : j < m) : ∃ h' c, isOp h m j h' c := by
  by_cases h0 : h j = 0
  · exact ⟨h, 0, Or.inl ⟨h0, rfl, fun _ _ => rfl⟩⟩
  · obtain ⟨lo, hi, hr⟩ := isRun.ex hj h0
    exact ⟨clr h lo hi, hi - lo, Or.inr ⟨lo, hi, hr, rfl, fun _ _ => rfl⟩⟩
theorem isOp.le {h h' : Nat → Int32} {m j c : Nat} (a : isOp h m j h' c) : c ≤ m := by
  rcases a with ⟨a1, a2, a3⟩ | ⟨lo, hi, a1, a2, a3⟩
  · omega
  · have := a1.2.2.1
    omega
/-- opened: every line is as it was, or seen -/
theorem isOp.or {h h' : Nat → Int32} {m j c : Nat} (a : isOp h m j h' c) : ∀ k, k < m → h' k = h k ∨ h' k = 0 := by
  intro k hk
  rcases a with ⟨a1, a2, a3⟩ | ⟨lo, hi, a1, a2, a3⟩
  · exact Or.inl (a3 k hk)
  · rw [a3 k hk]
    unfold clr
    split
    · exact Or.inr rfl
    · exact Or.inl rfl
theorem isOp.at {h h' : Nat → Int32} {m j c : Nat} (a : isOp h m j h' c) (hj : j < m) : h' j = 0 := by
  rcases a with ⟨a1, a2, a3⟩ | ⟨lo, hi, a1, a2, a3⟩
  · rw [a3 j hj, a1]
  · rw [a3 j hj]
    unfold clr
    rw [if_pos ⟨a1.1, a1.2.1⟩]
theorem isOp.none {h : Nat → Int32} {m j : Nat} (h0 : h j = 0) : isOp h m j h 0 := Or.inl ⟨h0, rfl, fun _ _ => rfl⟩
theorem isOp.none' {h h' : Nat → Int32} {m j c : Nat} (a : isOp h m j h' c) (h0 : h j = 0) : c = 0 ∧ ∀ k, k < m → h' k = h k := by
  rcases a with ⟨a1, a2, a3⟩ | ⟨lo, hi, a1, a2, a3⟩
  · exact ⟨a2, a3⟩
  · exact absurd h0 (a1.2.2.2.1 j a1.1 a1.2.1)
theorem clr_s {r : Nat → Int32} {lo q : Nat} (h : lo ≤ q) : up1 (clr r lo q) q 0 = clr r lo (q + 1) := by
  funext k
  unfold up1 clr
  by_cases e : k = q
  · rw [if_pos e, if_pos (by omega)]
  · rw [if_neg e]
    by_cases e2 : lo ≤ k ∧ k < q
    · rw [if_pos e2, if_pos (by omega)]
    · rw [if_neg e2, if_neg (by omega)]
theorem clr_0 {r : Nat → Int32} {lo : Nat} : clr r lo lo = r := by
  funext k
  unfold clr
  rw [if_neg (by omega)]
section R
variable {σ μ : Sto} {o : Int64}
theorem c11_openFold {H m j : Nat} {h h' : Nat → Int32} {c : Nat} {x y : Int32} (hH : ln H = 300) (hm : m ≤ 300) (hj : j < m) (hx : x = Int32.ofNat m) (hy : y = Int32.ofNat j) (hr : ∀ k, k < m → aI σ H k = h k) (ho : isOp h m j h' c) : ∃ r, f11_openFold σ H x y = some (Int32.ofNat c, rA σ H r) ∧ ∀ k, k < m → r k = h' k := by
  subst hx hy
  have i1 : inb (Int32.ofNat j) 300 = true := inb_t (by grind)
  have i2 : (Int32.ofNat j).toNatClampNeg = j := ofNat_clamp (by omega)
  unfold f11_openFold
  simp only [hH, i1, i2, gd_true, hr j hj]
  rcases ho with ⟨a1, a2, a3⟩ | ⟨lo, hi, a1, a2, a3⟩
  · rw [if_pos a1, a2]
    exact ⟨aI σ H, by rw [rA_self]; rfl, fun k hk => (hr k hk).trans (a3 k hk).symm⟩
  · have hr' := a1
    obtain ⟨b1, b2, b3, b4, b5, b6⟩ := a1
    rw [if_neg (b4 j b1 b2)]
    refine ⟨clr (aI σ H) lo hi, ?_, fun k hk => ?_⟩
    · apply Ok_eq
      unfold f11_openFold_j10
      simp only [Ok_stp, Ok_bnd, Ok_bndX, Ok_some, Ok_none, Ok_ite, Ok_gd, inb_iff, isB_iff, lp_inl, lp_inr, Prod.mk.injEq, Sum.inl.injEq, Sum.inr.injEq, reduceCtorEq, forall_eq', false_imp_iff, imp_self, true_and, and_true, implies_true, forall_const]
      refine Ok.imp (Q := fun r => r = Int32.ofNat lo) ?_ ?_
      · refine Ok_count (j - lo) (fun k s => s = Int32.ofNat (j - k)) ?_ 0 rfl (by omega) (by (show _ < FU; unfold FU; omega))
        rintro k s hk rfl
        unfold f11_openFold_b10
        rw [hH]
        have e1 : Int32.ofNat (j - k) ≤ 0 ↔ j - k = 0 := by grind
        have e2 : 0 < j - k → Int32.ofNat (j - k) - 1 = Int32.ofNat (j - k - 1) := by grind
        have e3 : 0 < j - k → Int32.ofNat (j - k) + -1 = Int32.ofNat (j - (k + 1)) := by grind
        simp only [e1]
        by_cases hz : j - k = 0
        · simp only [if_pos hz]
          simp only [Ok_stp, Ok_bnd, Ok_bndX, Ok_some, Ok_none, Ok_ite, Ok_gd, inb_iff, isB_iff, lp_inl, lp_inr, Prod.mk.injEq, Sum.inl.injEq, Sum.inr.injEq, reduceCtorEq, forall_eq', false_imp_iff, imp_self, true_and, and_true, implies_true, forall_const]
          congr 1
          omega
        · simp only [if_neg hz, e2 (by omega), e3 (by omega), ofNat_clamp (show j - k - 1 < 2147483648 by omega), hr (j - k - 1) (by omega)]
          have i3 : inb (Int32.ofNat (j - k - 1)) 300 = true := inb_t (by grind)
          simp only [i3, gd_true]
          by_cases hl : j - k = lo
          · have h9 : h (j - k - 1) = 0 := by
              rw [hl]
              rcases b5 with b5 | b5
              · omega
              · exact b5
            simp only [if_pos h9]
            simp only [Ok_stp, Ok_bnd, Ok_bndX, Ok_some, Ok_none, Ok_ite, Ok_gd, inb_iff, isB_iff, lp_inl, lp_inr, Prod.mk.injEq, Sum.inl.injEq, Sum.inr.injEq, reduceCtorEq, forall_eq', false_imp_iff, imp_self, true_and, and_true, implies_true, forall_const]
            congr 1
          · have h9 : ¬ h (j - k - 1) = 0 := b4 _ (by omega) (by omega)
            simp only [if_neg h9]
            simp only [Ok_stp, Ok_bnd, Ok_bndX, Ok_some, Ok_none, Ok_ite, Ok_gd, inb_iff, isB_iff, lp_inl, lp_inr, Prod.mk.injEq, Sum.inl.injEq, Sum.inr.injEq, reduceCtorEq, forall_eq', false_imp_iff, imp_self, true_and, and_true, implies_true, forall_const]
            omega
      · rintro r rfl
        unfold f11_openFold_j28 f11_openFold_j34 f11_openFold_j61
        simp only [Ok_stp, Ok_bnd, Ok_bndX, Ok_some, Ok_none, Ok_ite, Ok_gd, inb_iff, isB_iff, lp_inl, lp_inr, Prod.mk.injEq, Sum.inl.injEq, Sum.inr.injEq, reduceCtorEq, forall_eq', false_imp_iff, imp_self, true_and, and_true, implies_true, forall_const]
        refine Ok.imp (Q := fun s => s = (rA σ H (clr (aI σ H) lo hi), Int32.ofNat (hi - lo))) ?_ ?_
        · refine Ok_count (hi - lo) (fun k s => s = (rA σ H (clr (aI σ H) lo (lo + k)), Int32.ofNat k, Int32.ofNat (lo + k))) ?_ 0 ?_ (by omega) (by (show _ < FU; unfold FU; omega))
          · rintro k s hk rfl
            have e1 : Int32.ofNat m ≤ Int32.ofNat (lo + k) ↔ lo + k = m := by grind
            have e2 : (Int32.ofNat (lo + k)).toNatClampNeg = lo + k := ofNat_clamp (by omega)
            have e3 : aI (rA σ H (clr (aI σ H) lo (lo + k))) H (lo + k) = aI σ H (lo + k) := by
              rw [aI_rA, if_pos rfl]
              unfold clr
              rw [if_neg (by omega)]
            have e4 : Int32.ofNat k + 1 = Int32.ofNat (k + 1) := by grind
            have e5 : Int32.ofNat (lo + k) + 1 = Int32.ofNat (lo + (k + 1)) := by grind
            unfold f11_openFold_b34
            simp only [e1, hH, e2, e3, e4, e5, stp, rA_uA, nar_b (Or.inl rfl), clr_s (Nat.le_add_right lo k)]
            by_cases hq : lo + k = m
            · simp only [if_pos hq]
              simp only [Ok_stp, Ok_bnd, Ok_bndX, Ok_some, Ok_none, Ok_ite, Ok_gd, inb_iff, isB_iff, lp_inl, lp_inr, Prod.mk.injEq, Sum.inl.injEq, Sum.inr.injEq, reduceCtorEq, forall_eq', false_imp_iff, imp_self, true_and, and_true, implies_true, forall_const]
              have : k = hi - lo := by omega
              have h2 : lo + k = hi := by omega
              rw [h2, this]
              exact ⟨rfl, rfl⟩
            · have i3 : inb (Int32.ofNat (lo + k)) 300 = true := inb_t (by grind)
              simp only [if_neg hq, i3, gd_true, hr (lo + k) (by omega)]
              by_cases hq2 : k = hi - lo
              · have h2 : lo + k = hi := by omega
                have h9 : h (lo + k) = 0 := by
                  rw [h2]
                  rcases b6 with b6 | b6
                  · omega
                  · exact b6
                simp only [if_pos h9]
                simp only [Ok_stp, Ok_bnd, Ok_bndX, Ok_some, Ok_none, Ok_ite, Ok_gd, inb_iff, isB_iff, lp_inl, lp_inr, Prod.mk.injEq, Sum.inl.injEq, Sum.inr.injEq, reduceCtorEq, forall_eq', false_imp_iff, imp_self, true_and, and_true, implies_true, forall_const]
                rw [h2, hq2]
                exact ⟨rfl, rfl⟩
              · have h9 : ¬ h (lo + k) = 0 := b4 _ (by omega) (by omega)
                simp only [if_neg h9]
                simp only [Ok_stp, Ok_bnd, Ok_bndX, Ok_some, Ok_none, Ok_ite, Ok_gd, inb_iff, isB_iff, lp_inl, lp_inr, Prod.mk.injEq, Sum.inl.injEq, Sum.inr.injEq, reduceCtorEq, forall_eq', false_imp_iff, imp_self, true_and, and_true, implies_true, forall_const]
                exact ⟨by omega, rfl⟩
          · rw [Nat.add_zero, clr_0, rA_self]
            rfl
        · rintro s rfl
          rw [a2]
          exact ⟨rfl, rfl⟩
    · rw [a3 k hk]
      unfold clr
      rw [hr k hk]
theorem c12_opens {m j : Nat} {h h' : Nat → Int32} {c : Nat} {x : Int32} (hm : m ≤ 300) (hj : j < m) (h0 : h 0 = 0) (hy : x = Int32.ofNat j) (hr : ∀ k, k < 301 → aI μ 2022 k = if k < m then h k else 0) (ho : isOp h m j h' c) : ∃ r, f12_opens μ x = some (Int32.ofNat c, rA μ 2022 r) ∧ ∀ k, k < 301 → r k = if k < m then h' k else 0 := by
  subst hy
  have hr1 : ∀ k, k < m → aI μ 2022 k = h k := fun k hk => by rw [hr k (by omega), if_pos hk]
  have i1 : inb (Int32.ofNat j) 301 = true := inb_t (by grind)
  have i2 : (Int32.ofNat j).toNatClampNeg = j := ofNat_clamp (by omega)
  unfold f12_opens
  simp only [i1, i2, gd_true, hr1 j hj]
  rcases ho with ⟨a1, a2, a3⟩ | ⟨lo, hi, a1, a2, a3⟩
  · rw [if_pos a1, a2]
    refine ⟨aI μ 2022, by rw [rA_self]; rfl, fun k hk => ?_⟩
    rw [hr k hk]
    by_cases hkm : k < m
    · rw [if_pos hkm, if_pos hkm, a3 k hkm]
    · rw [if_neg hkm, if_neg hkm]
  · obtain ⟨b1, b2, b3, b4, b5, b6⟩ := a1
    have hlo : 1 ≤ lo := by
      by_cases e : lo = 0
      · subst e
        exact absurd h0 (b4 0 (by omega) (by omega))
      · omega
    have hhi : aI μ 2022 hi = 0 := by
      rcases b6 with b6 | b6
      · rw [hr hi (by omega), if_neg (by omega)]
      · rw [hr hi (by omega)]
        split
        · exact b6
        · rfl
    rw [if_neg (b4 j b1 b2)]
    refine ⟨clr (aI μ 2022) lo hi, ?_, fun k hk => ?_⟩
    · apply Ok_eq
      unfold f12_opens_j13
      simp only [Ok_stp, Ok_bnd, Ok_bndX, Ok_some, Ok_none, Ok_ite, Ok_gd, inb_iff, isB_iff, lp_inl, lp_inr, Prod.mk.injEq, Sum.inl.injEq, Sum.inr.injEq, reduceCtorEq, forall_eq', false_imp_iff, imp_self, true_and, and_true, implies_true, forall_const]
      refine Ok.imp (Q := fun r => r = Int32.ofNat lo) ?_ ?_
      · refine Ok_count (j - lo) (fun k s => s = Int32.ofNat (j - k)) ?_ 0 rfl (by omega) (by (show _ < FU; unfold FU; omega))
        rintro k s hk rfl
        unfold f12_opens_b13
        have e2 : Int32.ofNat (j - k) - 1 = Int32.ofNat (j - k - 1) := by grind
        have e3 : Int32.ofNat (j - k) + -1 = Int32.ofNat (j - (k + 1)) := by grind
        have i3 : inb (Int32.ofNat (j - k - 1)) 301 = true := inb_t (by grind)
        simp only [e2, e3, ofNat_clamp (show j - k - 1 < 2147483648 by omega), hr1 (j - k - 1) (by omega), i3, gd_true]
        by_cases hl : j - k = lo
        · have h9 : h (j - k - 1) = 0 := by
            rw [hl]
            rcases b5 with b5 | b5
            · omega
            · exact b5
          simp only [if_pos h9]
          simp only [Ok_stp, Ok_bnd, Ok_bndX, Ok_some, Ok_none, Ok_ite, Ok_gd, inb_iff, isB_iff, lp_inl, lp_inr, Prod.mk.injEq, Sum.inl.injEq, Sum.inr.injEq, reduceCtorEq, forall_eq', false_imp_iff, imp_self, true_and, and_true, implies_true, forall_const]
          congr 1
        · have h9 : ¬ h (j - k - 1) = 0 := b4 _ (by omega) (by omega)
          simp only [if_neg h9]
          simp only [Ok_stp, Ok_bnd, Ok_bndX, Ok_some, Ok_none, Ok_ite, Ok_gd, inb_iff, isB_iff, lp_inl, lp_inr, Prod.mk.injEq, Sum.inl.injEq, Sum.inr.injEq, reduceCtorEq, forall_eq', false_imp_iff, imp_self, true_and, and_true, implies_true, forall_const]
          omega
      · rintro r rfl
        unfold f12_opens_j32 f12_opens_j67
        simp only [Ok_stp, Ok_bnd, Ok_bndX, Ok_some, Ok_none, Ok_ite, Ok_gd, inb_iff, isB_iff, lp_inl, lp_inr, Prod.mk.injEq, Sum.inl.injEq, Sum.inr.injEq, reduceCtorEq, forall_eq', false_imp_iff, imp_self, true_and, and_true, implies_true, forall_const]
        refine Ok.imp (Q := fun s => s = (rA μ 2022 (clr (aI μ 2022) lo hi), Int32.ofNat (hi - lo))) ?_ ?_
        · refine Ok_count (hi - lo) (fun k s => s = (rA μ 2022 (clr (aI μ 2022) lo (lo + k)), Int32.ofNat k)) ?_ 0 ?_ (by omega) (by (show _ < FU; unfold FU; omega))
          · rintro k s hk rfl
            have e0 : Int32.ofNat lo + Int32.ofNat k = Int32.ofNat (lo + k) := by grind
            have e1 : 300 ≤ Int32.ofNat (lo + k) ↔ lo + k = 300 := by grind
            have e2 : (Int32.ofNat (lo + k)).toNatClampNeg = lo + k := ofNat_clamp (by omega)
            have e3 : aI (rA μ 2022 (clr (aI μ 2022) lo (lo + k))) 2022 (lo + k) = aI μ 2022 (lo + k) := by
              rw [aI_rA, if_pos rfl]
              unfold clr
              rw [if_neg (by omega)]
            have e4 : Int32.ofNat k + 1 = Int32.ofNat (k + 1) := by grind
            unfold f12_opens_b32
            simp only [e0, e1, e2, e3, e4, stp, rA_uA, nar_b (Or.inl rfl), clr_s (Nat.le_add_right lo k)]
            by_cases hq : lo + k = 300
            · simp only [if_pos hq]
              simp only [Ok_stp, Ok_bnd, Ok_bndX, Ok_some, Ok_none, Ok_ite, Ok_gd, inb_iff, isB_iff, lp_inl, lp_inr, Prod.mk.injEq, Sum.inl.injEq, Sum.inr.injEq, reduceCtorEq, forall_eq', false_imp_iff, imp_self, true_and, and_true, implies_true, forall_const]
              have : k = hi - lo := by omega
              have h2 : lo + k = hi := by omega
              rw [h2, this]
              exact ⟨rfl, rfl⟩
            · have i3 : inb (Int32.ofNat (lo + k)) 301 = true := inb_t (by grind)
              simp only [if_neg hq, i3, gd_true]
              by_cases hq2 : k = hi - lo
              · have h2 : lo + k = hi := by omega
                have h9 : aI μ 2022 (lo + k) = 0 := by rw [h2, hhi]
                simp only [if_pos h9]
                simp only [Ok_stp, Ok_bnd, Ok_bndX, Ok_some, Ok_none, Ok_ite, Ok_gd, inb_iff, isB_iff, lp_inl, lp_inr, Prod.mk.injEq, Sum.inl.injEq, Sum.inr.injEq, reduceCtorEq, forall_eq', false_imp_iff, imp_self, true_and, and_true, implies_true, forall_const]
                rw [h2, hq2]
                exact ⟨rfl, rfl⟩
              · have h9 : ¬ aI μ 2022 (lo + k) = 0 := by
                  rw [hr1 _ (by omega)]
                  exact b4 _ (by omega) (by omega)
                simp only [if_neg h9]
                simp only [Ok_stp, Ok_bnd, Ok_bndX, Ok_some, Ok_none, Ok_ite, Ok_gd, inb_iff, isB_iff, lp_inl, lp_inr, Prod.mk.injEq, Sum.inl.injEq, Sum.inr.injEq, reduceCtorEq, forall_eq', false_imp_iff, imp_self, true_and, and_true, implies_true, forall_const]
                exact ⟨by omega, rfl⟩
          · rw [Nat.add_zero, clr_0, rA_self]
            rfl
        · rintro s rfl
          rw [a2]
          exact ⟨rfl, rfl⟩
    · by_cases hkm : k < m
      · rw [if_pos hkm, a3 k hkm]
        unfold clr
        rw [hr1 k hkm]
      · rw [if_neg hkm]
        unfold clr
        rw [if_neg (by omega), hr k hk, if_neg hkm]
/-- the two stores after lines are opened on both sides -/
theorem op_unfold (h : Rel σ μ) {x : Int32} : stH (f11_unfold σ x) [(1, 1)] o (f12_unfold μ x) RQ := by
  obtain ⟨⟨f, n, hd, c, cu, ma, lf, ml⟩, L, B, H, T, h0⟩ := id h
  have hC : CT σ 1 L B f n := h0.2.1.1
  have hM : MT μ f n := h0.2.2.1.1
  obtain ⟨i1, i2, i3, i4⟩ := h0.2.1.2.1
  have j1 := h0.2.2.1.2.1
  have hE := hC.2.1
  unfold f11_unfold f12_unfold f12_unfold_j25
  rw [c11_requireLine hC, c12_isLine hM, bnd_some]
  simp only [ite_tz, decide_eq_true_eq, c12_refuse, c12_told, bnd_some]
  by_cases hx : 0 ≤ x ∧ x ≤ Int32.ofNat (ends f n)
  · simp only [if_pos hx, bndX_inl, i1, okr_s.mpr i2, gd_true, Nat.add_sub_cancel, hC.2.2.2.1]
    obtain ⟨j, hj, rfl⟩ := of_range hx (by omega)
    obtain ⟨h', cc, ho⟩ := isOp.ex (h := hd) (m := ends f n + 1) (j := j) (by omega)
    obtain ⟨r, r1, r2⟩ := c11_openFold (σ := σ) i3 (by omega) (by omega) rfl rfl (fun k hk => i4 k (by omega)) ho
    obtain ⟨r', s1, s2⟩ := c12_opens (μ := μ) (m := ends f n + 1) (by omega) (by omega) h0.1.2.2.2.1 rfl (fun k hk => by rw [j1 k hk]; simp only [Nat.lt_succ_iff]) ho
    rw [r1, s1]
    refine stH_ok rfl rfl ?_
    obtain ⟨g, s, m, w, t1, t2, t3, t4, t5, t6, t7, t8⟩ := h0
    have hL : L ≠ H ∧ B ≠ H ∧ (H = 4 ∨ H = 22) := by rcases w with w | w <;> omega
    refine ⟨(f, n, h', c, cu, ma, lf, ml), L, B, H, T, ?_, ?_, ?_, w, ?_, ?_, ?_, ?_, t5.congr (Sm.rA (by omega)) rfl rfl, t6.congr (Sm.rA (by omega)) rfl rfl (fun a a1 a2 => aI_rA' (by omega)), t7, t8.congr (Sm.rA (by omega)) rfl rfl rfl rfl (fun a a1 a2 => aI_rA' (by omega))⟩
    · obtain ⟨g1, g2, g3, g4, g5, g6, g7, g8, g9, g10, g11⟩ := g
      refine ⟨g1, g2, g3, ?_, fun k hk => ?_, g6, g7, g8, fun i hi => ?_, g10, g11⟩
      · rcases ho.or 0 (by omega) with e | e
        · rw [e, g4]
        · exact e
      · rcases ho.or k (by omega) with e | e
        · rw [e]; exact g5 k hk
        · exact Or.inl e
      · have := ends_mono (f := f) (g8 i hi)
        rcases ho.or (ends f (cu i)) (by omega) with e | e
        · rw [e]; exact g9 i hi
        · exact e
    · obtain ⟨s1, s2, s3, s4, s5⟩ := s
      refine ⟨s1.congr rfl rfl (aI_rA' hL.1) (aI_rA' hL.2.1), ⟨i1, i2, i3, fun k hk => ?_⟩, ?_, ?_, ?_⟩
      · rw [aI_rA, if_pos rfl]
        exact r2 k (by omega)
      · rw [aI_rA' (by omega)]; exact s3
      · rw [aI_rA' (by omega)]; exact s4
      · rw [aI_rA' (by omega)]; exact s5
    · obtain ⟨m1, m2, m3, m4, m5⟩ := m
      refine ⟨m1.congr rfl rfl, fun k hk => ?_, m3, m4, m5⟩
      rw [aI_rA, if_pos rfl, s2 k hk]
      simp only [Nat.lt_succ_iff]
    · rw [aI_rA' (by omega)]; exact t1
    · rw [aI_rA' (by omega)]; exact t2
    · rw [aI_rA' (by omega)]; exact t3
    · rw [aI_rA' (by omega), aI_rA' (by omega)]; exact t4
  · simp only [if_neg hx]
    exact stH_er (c := 1) (t := 1) rfl (by decide) (by decide) rfl h
end R
