/-! cursors in order -/
def SS (c : Nat) (v u : Nat → Nat) : Prop := ∀ x, (∃ i, i < c ∧ v i = x) ↔ ∃ i, i < c ∧ u i = x
theorem SS.rf {c : Nat} {v : Nat → Nat} : SS c v v := fun _ => Iff.rfl
theorem SS.trans {c : Nat} {v u w : Nat → Nat} (h : SS c v u) (h2 : SS c u w) : SS c v w := fun x => (h x).trans (h2 x)
def ins (v : Nat → Nat) (p k i : Nat) : Nat := if i < p then v i else if i = p then v k else if i ≤ k then v (i - 1) else v i
theorem ins_set {v : Nat → Nat} {p k c : Nat} (hp : p ≤ k) (hk : k < c) : SS c (ins v p k) v := by
  intro x
  constructor
  · rintro ⟨i, hi, e⟩
    unfold ins at e
    split at e
    · exact ⟨i, hi, e⟩
    · split at e
      · exact ⟨k, hk, e⟩
      · split at e
        · exact ⟨i - 1, by omega, e⟩
        · exact ⟨i, hi, e⟩
  · rintro ⟨i, hi, e⟩
    by_cases h1 : i < p
    · exact ⟨i, hi, by unfold ins; rw [if_pos h1]; exact e⟩
    · by_cases h2 : i < k
      · exact ⟨i + 1, by omega, by unfold ins; rw [if_neg (by omega), if_neg (by omega), if_pos (by omega)]; exact e⟩
      · by_cases h3 : i = k
        · exact ⟨p, by omega, by unfold ins; rw [if_neg (by omega), if_pos rfl, ← h3]; exact e⟩
        · exact ⟨i, hi, by unfold ins; rw [if_neg (by omega), if_neg (by omega), if_neg (by omega)]; exact e⟩
theorem ins_sorted {v : Nat → Nat} {p k : Nat} (hp : p ≤ k) (hs : ∀ i j, i < j → j < k → v i ≤ v j) (h1 : ∀ i, i < p → v i ≤ v k) (h2 : ∀ i, p ≤ i → i < k → v k ≤ v i) : ∀ i j, i < j → j < k + 1 → ins v p k i ≤ ins v p k j := by
  intro i j hij hj
  unfold ins
  have a := hs i j hij
  have b := hs (i - 1) (j - 1)
  have c := hs i (j - 1)
  have d := h1 i
  have e := h2 (j - 1)
  have f : i = j - 1 → v i = v (j - 1) := fun h => by rw [← h]
  split <;> split <;> grind
theorem c8_sortL {σ : Sto} {c : Nat} {cu : Nat → Nat} (hc : fI σ 1 6 = Int32.ofNat c) (hc1 : 1 ≤ c) (hc2 : c ≤ 8) (hr : ∀ k, k < c → aI σ 5 k = Int32.ofNat (cu k)) (hb : ∀ k, k < c → cu k ≤ 3000) : Ok (loopF (fun s_2 => f8_sortCursors_b2 1 s_2.1 s_2.2) FU (σ, 1)) (fun s => ∃ (r : Nat → Int32) (v : Nat → Nat), s = rA σ 5 r ∧ (∀ k, k < c → r k = Int32.ofNat (v k)) ∧ (∀ i j, i < j → j < c → v i ≤ v j) ∧ SS c v cu) := by
  refine Ok_count c (fun k s => ∃ (r : Nat → Int32) (v : Nat → Nat), 1 ≤ k ∧ s = (rA σ 5 r, Int32.ofNat k) ∧ (∀ i, i < c → r i = Int32.ofNat (v i)) ∧ (∀ i j, i < j → j < k → v i ≤ v j) ∧ SS c v cu) ?_ 1 ⟨aI σ 5, cu, Nat.le_refl _, by rw [rA_self]; rfl, hr, fun i j a b => by omega, SS.rf⟩ (by omega) (by (show _ < FU; unfold FU; omega))
  rintro k s hk ⟨r, v, hk1, rfl, h1, h2, h3⟩
  have hc' : fI (rA σ 5 r) 1 6 = Int32.ofNat c := hc
  have e1 : Int32.ofNat c ≤ Int32.ofNat k ↔ k = c := by grind
  unfold f8_sortCursors_b2
  simp only [hc', e1]
  by_cases hkc : k = c
  · simp only [if_pos hkc]
    subst hkc
    simp only [Ok_stp, Ok_bnd, Ok_bndX, Ok_some, Ok_none, Ok_ite, Ok_gd, inb_iff, isB_iff, lp_inl, lp_inr, Prod.mk.injEq, Sum.inl.injEq, Sum.inr.injEq, reduceCtorEq, forall_eq', false_imp_iff, imp_self, true_and, and_true, implies_true, forall_const]
    exact ⟨r, v, rfl, h1, h2, h3⟩
  · have hv : ∀ i, i < c → v i ≤ 3000 := fun i hi => by
      obtain ⟨j, hj, e⟩ := (h3 (v i)).mp ⟨i, hi, rfl⟩
      rw [← e]
      exact hb j hj
    have i1 : inb (Int32.ofNat k) 8 = true := inb_t (by grind)
    have i2 : (Int32.ofNat k).toNatClampNeg = k := ofNat_clamp (by omega)
    have i3 : ∀ r, aI (rA σ 5 r) 5 = r := fun r => by rw [aI_rA, if_pos rfl]
    simp only [if_neg hkc, i1, gd_true, i2, stp, i3, h1 k (by omega)]
    unfold f8_sortCursors_j19
    simp only [Ok_bnd]
    refine Ok.imp (Q := fun s => ∃ (r' : Nat → Int32) (p : Nat), s = (rA σ 5 r', Int32.ofNat p) ∧ p ≤ k ∧ (∀ i, i < p → v i ≤ v k) ∧ (∀ i, p ≤ i → i < k → v k ≤ v i) ∧ ∀ i, i < c → i ≠ p → r' i = Int32.ofNat (ins v p k i)) ?_ ?_
    · refine Ok_count k (fun t s => ∃ (r' : Nat → Int32), s = (rA σ 5 r', Int32.ofNat (k - t)) ∧ (∀ i, k - t ≤ i → i < k → v k ≤ v i) ∧ ∀ i, i < c → i ≠ k - t → r' i = Int32.ofNat (ins v (k - t) k i)) ?_ 0 ⟨r, rfl, fun i a b => by omega, fun i a b => ?_⟩ (by omega) (by (show _ < FU; unfold FU; omega))
      · rintro t s ht ⟨r', rfl, g1, g2⟩
        have e2 : Int32.ofNat (k - t) ≤ 0 ↔ k - t = 0 := by grind
        unfold f8_sortCursors_b19
        simp only [e2]
        by_cases hz : k - t = 0
        · simp only [if_pos hz]
          simp only [Ok_stp, Ok_bnd, Ok_bndX, Ok_some, Ok_none, Ok_ite, Ok_gd, inb_iff, isB_iff, lp_inl, lp_inr, Prod.mk.injEq, Sum.inl.injEq, Sum.inr.injEq, reduceCtorEq, forall_eq', false_imp_iff, imp_self, true_and, and_true, implies_true, forall_const]
          exact ⟨r', k - t, ⟨rfl, rfl⟩, by omega, fun i a => by omega, g1, g2⟩
        · have e3 : Int32.ofNat (k - t) - 1 = Int32.ofNat (k - t - 1) := by grind
          have e4 : Int32.ofNat (k - t) + -1 = Int32.ofNat (k - (t + 1)) := by grind
          have i4 : inb (Int32.ofNat (k - t - 1)) 8 = true := inb_t (by grind)
          have i5 : inb (Int32.ofNat (k - t)) 8 = true := inb_t (by grind)
          have i6 : (Int32.ofNat (k - t - 1)).toNatClampNeg = k - t - 1 := ofNat_clamp (by omega)
          have i7 : (Int32.ofNat (k - t)).toNatClampNeg = k - t := ofNat_clamp (by omega)
          have g3 : r' (k - t - 1) = Int32.ofNat (v (k - t - 1)) := by
            rw [g2 (k - t - 1) (by omega) (by omega)]
            unfold ins
            rw [if_pos (by omega)]
          have e5 : Int32.ofNat (v (k - t - 1)) ≤ Int32.ofNat (v k) ↔ v (k - t - 1) ≤ v k := by
            have := hv (k - t - 1) (by omega)
            have := hv k (by omega)
            grind
          simp only [if_neg hz, e3, e4, i4, i5, i6, i7, gd_true, i3, g3, e5, stp, rA_uA]
          by_cases hq : v (k - t - 1) ≤ v k
          · simp only [if_pos hq]
            simp only [Ok_stp, Ok_bnd, Ok_bndX, Ok_some, Ok_none, Ok_ite, Ok_gd, inb_iff, isB_iff, lp_inl, lp_inr, Prod.mk.injEq, Sum.inl.injEq, Sum.inr.injEq, reduceCtorEq, forall_eq', false_imp_iff, imp_self, true_and, and_true, implies_true, forall_const]
            refine ⟨r', k - t, ⟨rfl, rfl⟩, by omega, fun i a => ?_, g1, g2⟩
            by_cases hi : i = k - t - 1
            · rw [hi]; exact hq
            · exact Nat.le_trans (h2 i (k - t - 1) (by omega) (by omega)) hq
          · simp only [if_neg hq]
            simp only [Ok_stp, Ok_bnd, Ok_bndX, Ok_some, Ok_none, Ok_ite, Ok_gd, inb_iff, isB_iff, lp_inl, lp_inr, Prod.mk.injEq, Sum.inl.injEq, Sum.inr.injEq, reduceCtorEq, forall_eq', false_imp_iff, imp_self, true_and, and_true, implies_true, forall_const]
            refine ⟨by omega, up1 r' (k - t) (Int32.ofNat (v (k - t - 1))), rfl, fun i a b => ?_, fun i a b => ?_⟩
            · by_cases hi : i = k - t - 1
              · rw [hi]; omega
              · exact g1 i (by omega) b
            · unfold up1
              by_cases hi : i = k - t
              · rw [if_pos hi]
                unfold ins
                rw [if_neg (by omega), if_neg (by omega), if_pos (by omega), hi]
              · rw [if_neg hi, g2 i a hi]
                unfold ins
                by_cases hi2 : i < k - t
                · rw [if_pos hi2, if_pos (by omega)]
                · rw [if_neg hi2, if_neg hi, if_neg (show ¬ i < k - (t + 1) by omega), if_neg b]
      · rw [h1 i a]
        unfold ins
        rw [Nat.sub_zero] at *
        by_cases hi : i < k
        · rw [if_pos hi]
        · rw [if_neg hi, if_neg b, if_neg (by omega)]
    · rintro s ⟨r', p, rfl, p1, p2, p3, p4⟩
      unfold f8_sortCursors_j55
      have i8 : inb (Int32.ofNat p) 8 = true := inb_t (by grind)
      have i9 : (Int32.ofNat p).toNatClampNeg = p := ofNat_clamp (by omega)
      have e6 : Int32.ofNat k + 1 = Int32.ofNat (k + 1) := by grind
      simp only [i8, i9, gd_true, stp, rA_uA, e6]
      simp only [Ok_stp, Ok_bnd, Ok_bndX, Ok_some, Ok_none, Ok_ite, Ok_gd, inb_iff, isB_iff, lp_inl, lp_inr, Prod.mk.injEq, Sum.inl.injEq, Sum.inr.injEq, reduceCtorEq, forall_eq', false_imp_iff, imp_self, true_and, and_true, implies_true, forall_const]
      refine ⟨by omega, up1 r' p (Int32.ofNat (v k)), ins v p k, by omega, rfl, fun i hi => ?_, ins_sorted p1 h2 p2 p3, (ins_set p1 (by omega)).trans h3⟩
      unfold up1
      by_cases e : i = p
      · rw [if_pos e, e]
        unfold ins
        rw [if_neg (by omega), if_pos rfl]
      · rw [if_neg e]
        exact p4 i hi e
theorem c8_dedupL {σ : Sto} {c : Nat} {v : Nat → Nat} (hc : fI σ 1 6 = Int32.ofNat c) (hc1 : 1 ≤ c) (hc2 : c ≤ 8) (hr : ∀ k, k < c → aI σ 5 k = Int32.ofNat (v k)) (hb : ∀ k, k < c → v k ≤ 3000) (hs : ∀ i j, i < j → j < c → v i ≤ v j) : Ok (loopF (fun s_8 => f8_settleCursors_b8 1 s_8.1 s_8.2.1 s_8.2.2) FU (σ, 0, 0)) (fun s => ∃ (r : Nat → Int32) (d : Nat → Nat) (q : Nat), s = (rA σ 5 r, Int32.ofNat q) ∧ 1 ≤ q ∧ q ≤ c ∧ (∀ k, k < q → r k = Int32.ofNat (d k)) ∧ (∀ i j, i < j → j < q → d i < d j) ∧ ∀ x, (∃ i, i < q ∧ d i = x) ↔ ∃ i, i < c ∧ v i = x) := by
  refine Ok_count c (fun k s => ∃ (r : Nat → Int32) (d : Nat → Nat) (q : Nat), s = (rA σ 5 r, Int32.ofNat q, Int32.ofNat k) ∧ 0 ≤ k ∧ q ≤ k ∧ (1 ≤ k → 1 ≤ q) ∧ (∀ i, i < q → r i = Int32.ofNat (d i)) ∧ (∀ i, k ≤ i → i < c → r i = Int32.ofNat (v i)) ∧ (∀ i j, i < j → j < q → d i < d j) ∧ (1 ≤ k → d (q - 1) = v (k - 1)) ∧ ∀ x, (∃ i, i < q ∧ d i = x) ↔ ∃ i, i < k ∧ v i = x) ?_ 0 ⟨aI σ 5, v, 0, by rw [rA_self]; rfl, Nat.le_refl _, Nat.le_refl _, fun _ => by omega, fun i hi => hr i (by omega), fun i _ hi => hr i hi, fun i j a b => by omega, fun _ => rfl, fun x => Iff.rfl⟩ (by omega) (by (show _ < FU; unfold FU; omega))
  rintro k s hk ⟨r, d, q, rfl, h0, h1, h2, h3, h4, h5, h6, h7⟩
  have hc' : fI (rA σ 5 r) 1 6 = Int32.ofNat c := hc
  have e1 : Int32.ofNat c ≤ Int32.ofNat k ↔ k = c := by grind
  unfold f8_settleCursors_b8
  simp only [hc', e1]
  by_cases hkc : k = c
  · simp only [if_pos hkc]
    subst hkc
    simp only [Ok_stp, Ok_bnd, Ok_bndX, Ok_some, Ok_none, Ok_ite, Ok_gd, inb_iff, isB_iff, lp_inl, lp_inr, Prod.mk.injEq, Sum.inl.injEq, Sum.inr.injEq, reduceCtorEq, forall_eq', false_imp_iff, imp_self, true_and, and_true, implies_true, forall_const]
    exact ⟨r, d, q, ⟨rfl, rfl⟩, h2 (by omega), h1, h3, h5, h7⟩
  · have hd : ∀ i, i < q → d i ≤ 3000 := fun i hi => by
      obtain ⟨j, hj, e⟩ := (h7 (d i)).mp ⟨i, hi, rfl⟩
      rw [← e]
      exact hb j (by omega)
    have hkc1 : k + 1 ≤ c := by omega
    have h01 : 0 ≤ k + 1 := by omega
    have i1 : inb (Int32.ofNat k) 8 = true := inb_t (by grind)
    have i2 : (Int32.ofNat k).toNatClampNeg = k := ofNat_clamp (by omega)
    have i3 : ∀ r, aI (rA σ 5 r) 5 = r := fun r => by rw [aI_rA, if_pos rfl]
    have i4 : inb (Int32.ofNat q) 8 = true := inb_t (by grind)
    have i5 : (Int32.ofNat q).toNatClampNeg = q := ofNat_clamp (by omega)
    have e2 : Int32.ofNat q + 1 = Int32.ofNat (q + 1) := by grind
    have e3 : Int32.ofNat k + 1 = Int32.ofNat (k + 1) := by grind
    have e4 : Int32.ofNat q = 0 ↔ q = 0 := by grind
    have hk4 := h4 k (Nat.le_refl _) (by omega)
    have hvk := hb k (by omega)
    have nxt : (q = 0 ∨ d (q - 1) ≠ v k) → ∃ (r' : Nat → Int32) (d' : Nat → Nat) (q' : Nat), (rA σ 5 (up1 r q (Int32.ofNat (v k))) = rA σ 5 r' ∧ Int32.ofNat (q + 1) = Int32.ofNat q') ∧ q' ≤ k + 1 ∧ 1 ≤ q' ∧ (∀ i, i < q' → r' i = Int32.ofNat (d' i)) ∧ (∀ i, k + 1 ≤ i → i < c → r' i = Int32.ofNat (v i)) ∧ (∀ i j, i < j → j < q' → d' i < d' j) ∧ d' (q' - 1) = v (k + 1 - 1) ∧ ∀ x, (∃ i, i < q' ∧ d' i = x) ↔ ∃ i, i < k + 1 ∧ v i = x := by
      intro hq
      refine ⟨up1 r q (Int32.ofNat (v k)), fun i => if i = q then v k else d i, q + 1, ⟨rfl, rfl⟩, by omega, by omega, fun i hi => ?_, fun i hi hi2 => ?_, fun i j hij hj => ?_, by simp, fun x => ?_⟩
      · unfold up1
        by_cases e : i = q
        · simp only [if_pos e]
        · simp only [if_neg e]
          exact h3 i (by omega)
      · unfold up1
        rw [if_neg (by omega)]
        exact h4 i (by omega) hi2
      · by_cases e : j = q
        · simp only [if_pos e, if_neg (show ¬ i = q by omega)]
          have hlast : d (q - 1) < v k := by
            have h8 := h6 (by omega)
            have h9 := hs (k - 1) k (by omega) (by omega)
            omega
          by_cases e2 : i = q - 1
          · rw [e2]; exact hlast
          · have := h5 i (q - 1) (by omega) (by omega)
            omega
        · simp only [if_neg e, if_neg (show ¬ i = q by omega)]
          exact h5 i j hij (by omega)
      · constructor
        · rintro ⟨i, hi, e⟩
          by_cases e2 : i = q
          · simp only [if_pos e2] at e
            exact ⟨k, by omega, e⟩
          · simp only [if_neg e2] at e
            obtain ⟨j, hj, e5⟩ := (h7 x).mp ⟨i, by omega, e⟩
            exact ⟨j, by omega, e5⟩
        · rintro ⟨i, hi, e⟩
          by_cases e2 : i = k
          · exact ⟨q, by omega, by simp only [if_true]; rw [← e2]; exact e⟩
          · obtain ⟨j, hj, e5⟩ := (h7 x).mpr ⟨i, by omega, e⟩
            exact ⟨j, by omega, by simp only [if_neg (show ¬ j = q by omega)]; exact e5⟩
    unfold f8_settleCursors_j37 f8_settleCursors_j52
    simp only [e4, if_neg hkc, e2, e3, i1, i2, i4, i5, gd_true, stp, i3, hk4, rA_uA]
    by_cases hq0 : q = 0
    · simp only [if_pos hq0]
      simp only [Ok_stp, Ok_bnd, Ok_bndX, Ok_some, Ok_none, Ok_ite, Ok_gd, inb_iff, isB_iff, lp_inl, lp_inr, Prod.mk.injEq, Sum.inl.injEq, Sum.inr.injEq, reduceCtorEq, forall_eq', false_imp_iff, imp_self, true_and, and_true, implies_true, forall_const]
      obtain ⟨r', d', q', n1, n2⟩ := nxt (Or.inl hq0)
      refine ⟨hkc1, r', d', q', n1, h01, n2.1, fun _ => n2.2.1, n2.2.2.1, n2.2.2.2.1, n2.2.2.2.2.1, fun _ => n2.2.2.2.2.2.1, n2.2.2.2.2.2.2⟩
    · have e5 : Int32.ofNat q - 1 = Int32.ofNat (q - 1) := by grind
      have i6 : inb (Int32.ofNat (q - 1)) 8 = true := inb_t (by grind)
      have i7 : (Int32.ofNat (q - 1)).toNatClampNeg = q - 1 := ofNat_clamp (by omega)
      have e6 : r (q - 1) = Int32.ofNat (d (q - 1)) := h3 _ (by omega)
      have e7 : Int32.ofNat (d (q - 1)) = Int32.ofNat (v k) ↔ d (q - 1) = v k := by
        have := hd (q - 1) (by omega)
        grind
      simp only [if_neg hq0, e5, i6, i7, gd_true, e6, e7]
      by_cases heq : d (q - 1) = v k
      · simp only [if_pos heq]
        simp only [Ok_stp, Ok_bnd, Ok_bndX, Ok_some, Ok_none, Ok_ite, Ok_gd, inb_iff, isB_iff, lp_inl, lp_inr, Prod.mk.injEq, Sum.inl.injEq, Sum.inr.injEq, reduceCtorEq, forall_eq', false_imp_iff, imp_self, true_and, and_true, implies_true, forall_const]
        refine ⟨hkc1, r, d, q, ⟨rfl, rfl⟩, h01, by omega, by omega, h3, fun i a b => h4 i (by omega) b, h5, by simpa using heq, fun x => ?_⟩
        rw [h7 x]
        constructor
        · rintro ⟨i, hi, e⟩
          exact ⟨i, by omega, e⟩
        · rintro ⟨i, hi, e⟩
          by_cases e2 : i = k
          · exact ⟨k - 1, by omega, by rw [← h6 (by omega), heq, ← e2]; exact e⟩
          · exact ⟨i, by omega, e⟩
      · simp only [if_neg heq]
        simp only [Ok_stp, Ok_bnd, Ok_bndX, Ok_some, Ok_none, Ok_ite, Ok_gd, inb_iff, isB_iff, lp_inl, lp_inr, Prod.mk.injEq, Sum.inl.injEq, Sum.inr.injEq, reduceCtorEq, forall_eq', false_imp_iff, imp_self, true_and, and_true, implies_true, forall_const]
        obtain ⟨r', d', q', n1, n2⟩ := nxt (Or.inr heq)
        refine ⟨hkc1, r', d', q', n1, h01, n2.1, fun _ => n2.2.1, n2.2.2.1, n2.2.2.2.1, n2.2.2.2.2.1, fun _ => n2.2.2.2.2.2.1, n2.2.2.2.2.2.2⟩
theorem c12_sortL {μ : Sto} {c : Nat} {cu : Nat → Nat} (hc : fI μ 2017 6 = Int32.ofNat c) (hc1 : 1 ≤ c) (hc2 : c ≤ 8) (hr : ∀ k, k < c → aI μ 2019 k = Int32.ofNat (cu k)) (hb : ∀ k, k < c → cu k ≤ 3000) : Ok (loopF (fun s_2 => f12_orders_b2 s_2.1 s_2.2) FU (μ, 1)) (fun s => ∃ (r : Nat → Int32) (v : Nat → Nat), s = rA μ 2019 r ∧ (∀ k, k < c → r k = Int32.ofNat (v k)) ∧ (∀ i j, i < j → j < c → v i ≤ v j) ∧ SS c v cu) := by
  refine Ok_count c (fun k s => ∃ (r : Nat → Int32) (v : Nat → Nat), 1 ≤ k ∧ s = (rA μ 2019 r, Int32.ofNat k) ∧ (∀ i, i < c → r i = Int32.ofNat (v i)) ∧ (∀ i j, i < j → j < k → v i ≤ v j) ∧ SS c v cu) ?_ 1 ⟨aI μ 2019, cu, Nat.le_refl _, by rw [rA_self]; rfl, hr, fun i j a b => by omega, SS.rf⟩ (by omega) (by (show _ < FU; unfold FU; omega))
  rintro k s hk ⟨r, v, hk1, rfl, h1, h2, h3⟩
  have hc' : fI (rA μ 2019 r) 2017 6 = Int32.ofNat c := hc
  have e1 : Int32.ofNat c ≤ Int32.ofNat k ↔ k = c := by grind
  unfold f12_orders_b2
  simp only [hc', e1]
  by_cases hkc : k = c
  · simp only [if_pos hkc]
    subst hkc
    simp only [Ok_stp, Ok_bnd, Ok_bndX, Ok_some, Ok_none, Ok_ite, Ok_gd, inb_iff, isB_iff, lp_inl, lp_inr, Prod.mk.injEq, Sum.inl.injEq, Sum.inr.injEq, reduceCtorEq, forall_eq', false_imp_iff, imp_self, true_and, and_true, implies_true, forall_const]
    exact ⟨r, v, rfl, h1, h2, h3⟩
  · have hv : ∀ i, i < c → v i ≤ 3000 := fun i hi => by
      obtain ⟨j, hj, e⟩ := (h3 (v i)).mp ⟨i, hi, rfl⟩
      rw [← e]
      exact hb j hj
    have i1 : inb (Int32.ofNat k) 8 = true := inb_t (by grind)
    have i2 : (Int32.ofNat k).toNatClampNeg = k := ofNat_clamp (by omega)
    have i3 : ∀ r, aI (rA μ 2019 r) 2019 = r := fun r => by rw [aI_rA, if_pos rfl]
    simp only [if_neg hkc, i1, gd_true, i2, stp, i3, h1 k (by omega)]
    unfold f12_orders_j19
    simp only [Ok_bnd]
    refine Ok.imp (Q := fun s => ∃ (r' : Nat → Int32) (p : Nat), s = (rA μ 2019 r', Int32.ofNat p) ∧ p ≤ k ∧ (∀ i, i < p → v i ≤ v k) ∧ (∀ i, p ≤ i → i < k → v k ≤ v i) ∧ ∀ i, i < c → i ≠ p → r' i = Int32.ofNat (ins v p k i)) ?_ ?_
    · refine Ok_count k (fun t s => ∃ (r' : Nat → Int32), s = (rA μ 2019 r', Int32.ofNat (k - t)) ∧ (∀ i, k - t ≤ i → i < k → v k ≤ v i) ∧ ∀ i, i < c → i ≠ k - t → r' i = Int32.ofNat (ins v (k - t) k i)) ?_ 0 ⟨r, rfl, fun i a b => by omega, fun i a b => ?_⟩ (by omega) (by (show _ < FU; unfold FU; omega))
      · rintro t s ht ⟨r', rfl, g1, g2⟩
        have e2 : Int32.ofNat (k - t) ≤ 0 ↔ k - t = 0 := by grind
        unfold f12_orders_b19
        simp only [e2]
        by_cases hz : k - t = 0
        · simp only [if_pos hz]
          simp only [Ok_stp, Ok_bnd, Ok_bndX, Ok_some, Ok_none, Ok_ite, Ok_gd, inb_iff, isB_iff, lp_inl, lp_inr, Prod.mk.injEq, Sum.inl.injEq, Sum.inr.injEq, reduceCtorEq, forall_eq', false_imp_iff, imp_self, true_and, and_true, implies_true, forall_const]
          exact ⟨r', k - t, ⟨rfl, rfl⟩, by omega, fun i a => by omega, g1, g2⟩
        · have e3 : Int32.ofNat (k - t) - 1 = Int32.ofNat (k - t - 1) := by grind
          have e4 : Int32.ofNat (k - t) + -1 = Int32.ofNat (k - (t + 1)) := by grind
          have i4 : inb (Int32.ofNat (k - t - 1)) 8 = true := inb_t (by grind)
          have i5 : inb (Int32.ofNat (k - t)) 8 = true := inb_t (by grind)
          have i6 : (Int32.ofNat (k - t - 1)).toNatClampNeg = k - t - 1 := ofNat_clamp (by omega)
          have i7 : (Int32.ofNat (k - t)).toNatClampNeg = k - t := ofNat_clamp (by omega)
          have g3 : r' (k - t - 1) = Int32.ofNat (v (k - t - 1)) := by
            rw [g2 (k - t - 1) (by omega) (by omega)]
            unfold ins
            rw [if_pos (by omega)]
          have e5 : Int32.ofNat (v (k - t - 1)) ≤ Int32.ofNat (v k) ↔ v (k - t - 1) ≤ v k := by
            have := hv (k - t - 1) (by omega)
            have := hv k (by omega)
            grind
          simp only [if_neg hz, e3, e4, i4, i5, i6, i7, gd_true, i3, g3, e5, stp, rA_uA]
          by_cases hq : v (k - t - 1) ≤ v k
          · simp only [if_pos hq]
            simp only [Ok_stp, Ok_bnd, Ok_bndX, Ok_some, Ok_none, Ok_ite, Ok_gd, inb_iff, isB_iff, lp_inl, lp_inr, Prod.mk.injEq, Sum.inl.injEq, Sum.inr.injEq, reduceCtorEq, forall_eq', false_imp_iff, imp_self, true_and, and_true, implies_true, forall_const]
            refine ⟨r', k - t, ⟨rfl, rfl⟩, by omega, fun i a => ?_, g1, g2⟩
            by_cases hi : i = k - t - 1
            · rw [hi]; exact hq
            · exact Nat.le_trans (h2 i (k - t - 1) (by omega) (by omega)) hq
          · simp only [if_neg hq]
            simp only [Ok_stp, Ok_bnd, Ok_bndX, Ok_some, Ok_none, Ok_ite, Ok_gd, inb_iff, isB_iff, lp_inl, lp_inr, Prod.mk.injEq, Sum.inl.injEq, Sum.inr.injEq, reduceCtorEq, forall_eq', false_imp_iff, imp_self, true_and, and_true, implies_true, forall_const]
            refine ⟨by omega, up1 r' (k - t) (Int32.ofNat (v (k - t - 1))), rfl, fun i a b => ?_, fun i a b => ?_⟩
            · by_cases hi : i = k - t - 1
              · rw [hi]; omega
              · exact g1 i (by omega) b
            · unfold up1
              by_cases hi : i = k - t
              · rw [if_pos hi]
                unfold ins
                rw [if_neg (by omega), if_neg (by omega), if_pos (by omega), hi]
              · rw [if_neg hi, g2 i a hi]
                unfold ins
                by_cases hi2 : i < k - t
                · rw [if_pos hi2, if_pos (by omega)]
                · rw [if_neg hi2, if_neg hi, if_neg (show ¬ i < k - (t + 1) by omega), if_neg b]
      · rw [h1 i a]
        unfold ins
        rw [Nat.sub_zero] at *
        by_cases hi : i < k
        · rw [if_pos hi]
        · rw [if_neg hi, if_neg b, if_neg (by omega)]
    · rintro s ⟨r', p, rfl, p1, p2, p3, p4⟩
      unfold f12_orders_j55
      have i8 : inb (Int32.ofNat p) 8 = true := inb_t (by grind)
      have i9 : (Int32.ofNat p).toNatClampNeg = p := ofNat_clamp (by omega)
      have e6 : Int32.ofNat k + 1 = Int32.ofNat (k + 1) := by grind
      simp only [i8, i9, gd_true, stp, rA_uA, e6]
      simp only [Ok_stp, Ok_bnd, Ok_bndX, Ok_some, Ok_none, Ok_ite, Ok_gd, inb_iff, isB_iff, lp_inl, lp_inr, Prod.mk.injEq, Sum.inl.injEq, Sum.inr.injEq, reduceCtorEq, forall_eq', false_imp_iff, imp_self, true_and, and_true, implies_true, forall_const]
      refine ⟨by omega, up1 r' p (Int32.ofNat (v k)), ins v p k, by omega, rfl, fun i hi => ?_, ins_sorted p1 h2 p2 p3, (ins_set p1 (by omega)).trans h3⟩
      unfold up1
      by_cases e : i = p
      · rw [if_pos e, e]
        unfold ins
        rw [if_neg (by omega), if_pos rfl]
      · rw [if_neg e]
        exact p4 i hi e
theorem c12_dedupL {μ : Sto} {c : Nat} {v : Nat → Nat} (hc : fI μ 2017 6 = Int32.ofNat c) (hc1 : 1 ≤ c) (hc2 : c ≤ 8) (hr : ∀ k, k < c → aI μ 2019 k = Int32.ofNat (v k)) (hb : ∀ k, k < c → v k ≤ 3000) (hs : ∀ i j, i < j → j < c → v i ≤ v j) : Ok (loopF (fun s_8 => f12_orders_b72 s_8.1 s_8.2.1 s_8.2.2) FU (μ, 1, 1)) (fun s => ∃ (r : Nat → Int32) (d : Nat → Nat) (q : Nat), s = (rA μ 2019 r, Int32.ofNat q) ∧ 1 ≤ q ∧ q ≤ c ∧ (∀ k, k < q → r k = Int32.ofNat (d k)) ∧ (∀ i j, i < j → j < q → d i < d j) ∧ ∀ x, (∃ i, i < q ∧ d i = x) ↔ ∃ i, i < c ∧ v i = x) := by
  refine Ok_count c (fun k s => ∃ (r : Nat → Int32) (d : Nat → Nat) (q : Nat), s = (rA μ 2019 r, Int32.ofNat q, Int32.ofNat k) ∧ 1 ≤ k ∧ q ≤ k ∧ (1 ≤ k → 1 ≤ q) ∧ (∀ i, i < q → r i = Int32.ofNat (d i)) ∧ (∀ i, k ≤ i → i < c → r i = Int32.ofNat (v i)) ∧ (∀ i j, i < j → j < q → d i < d j) ∧ (1 ≤ k → d (q - 1) = v (k - 1)) ∧ ∀ x, (∃ i, i < q ∧ d i = x) ↔ ∃ i, i < k ∧ v i = x) ?_ 1 ⟨aI μ 2019, v, 1, by rw [rA_self]; rfl, Nat.le_refl _, Nat.le_refl _, fun _ => by omega, fun i hi => hr i (by omega), fun i _ hi => hr i hi, fun i j a b => by omega, fun _ => rfl, fun x => Iff.rfl⟩ (by omega) (by (show _ < FU; unfold FU; omega))
  rintro k s hk ⟨r, d, q, rfl, h0, h1, h2, h3, h4, h5, h6, h7⟩
  have hc' : fI (rA μ 2019 r) 2017 6 = Int32.ofNat c := hc
  have e1 : Int32.ofNat c ≤ Int32.ofNat k ↔ k = c := by grind
  unfold f12_orders_b72
  simp only [hc', e1]
  by_cases hkc : k = c
  · simp only [if_pos hkc]
    subst hkc
    simp only [Ok_stp, Ok_bnd, Ok_bndX, Ok_some, Ok_none, Ok_ite, Ok_gd, inb_iff, isB_iff, lp_inl, lp_inr, Prod.mk.injEq, Sum.inl.injEq, Sum.inr.injEq, reduceCtorEq, forall_eq', false_imp_iff, imp_self, true_and, and_true, implies_true, forall_const]
    exact ⟨r, d, q, ⟨rfl, rfl⟩, h2 (by omega), h1, h3, h5, h7⟩
  · have hd : ∀ i, i < q → d i ≤ 3000 := fun i hi => by
      obtain ⟨j, hj, e⟩ := (h7 (d i)).mp ⟨i, hi, rfl⟩
      rw [← e]
      exact hb j (by omega)
    have hkc1 : k + 1 ≤ c := by omega
    have h01 : 1 ≤ k + 1 := by omega
    have i1 : inb (Int32.ofNat k) 8 = true := inb_t (by grind)
    have i2 : (Int32.ofNat k).toNatClampNeg = k := ofNat_clamp (by omega)
    have i3 : ∀ r, aI (rA μ 2019 r) 2019 = r := fun r => by rw [aI_rA, if_pos rfl]
    have i4 : inb (Int32.ofNat q) 8 = true := inb_t (by grind)
    have i5 : (Int32.ofNat q).toNatClampNeg = q := ofNat_clamp (by omega)
    have e2 : Int32.ofNat q + 1 = Int32.ofNat (q + 1) := by grind
    have e3 : Int32.ofNat k + 1 = Int32.ofNat (k + 1) := by grind
    have e4 : Int32.ofNat q = 0 ↔ q = 0 := by grind
    have hk4 := h4 k (Nat.le_refl _) (by omega)
    have hvk := hb k (by omega)
    have nxt : (q = 0 ∨ d (q - 1) ≠ v k) → ∃ (r' : Nat → Int32) (d' : Nat → Nat) (q' : Nat), (rA μ 2019 (up1 r q (Int32.ofNat (v k))) = rA μ 2019 r' ∧ Int32.ofNat (q + 1) = Int32.ofNat q') ∧ q' ≤ k + 1 ∧ 1 ≤ q' ∧ (∀ i, i < q' → r' i = Int32.ofNat (d' i)) ∧ (∀ i, k + 1 ≤ i → i < c → r' i = Int32.ofNat (v i)) ∧ (∀ i j, i < j → j < q' → d' i < d' j) ∧ d' (q' - 1) = v (k + 1 - 1) ∧ ∀ x, (∃ i, i < q' ∧ d' i = x) ↔ ∃ i, i < k + 1 ∧ v i = x := by
      intro hq
      refine ⟨up1 r q (Int32.ofNat (v k)), fun i => if i = q then v k else d i, q + 1, ⟨rfl, rfl⟩, by omega, by omega, fun i hi => ?_, fun i hi hi2 => ?_, fun i j hij hj => ?_, by simp, fun x => ?_⟩
      · unfold up1
        by_cases e : i = q
        · simp only [if_pos e]
        · simp only [if_neg e]
          exact h3 i (by omega)
      · unfold up1
        rw [if_neg (by omega)]
        exact h4 i (by omega) hi2
      · by_cases e : j = q
        · simp only [if_pos e, if_neg (show ¬ i = q by omega)]
          have hlast : d (q - 1) < v k := by
            have h8 := h6 (by omega)
            have h9 := hs (k - 1) k (by omega) (by omega)
            omega
          by_cases e2 : i = q - 1
          · rw [e2]; exact hlast
          · have := h5 i (q - 1) (by omega) (by omega)
            omega
        · simp only [if_neg e, if_neg (show ¬ i = q by omega)]
          exact h5 i j hij (by omega)
      · constructor
        · rintro ⟨i, hi, e⟩
          by_cases e2 : i = q
          · simp only [if_pos e2] at e
            exact ⟨k, by omega, e⟩
          · simp only [if_neg e2] at e
            obtain ⟨j, hj, e5⟩ := (h7 x).mp ⟨i, by omega, e⟩
            exact ⟨j, by omega, e5⟩
        · rintro ⟨i, hi, e⟩
          by_cases e2 : i = k
          · exact ⟨q, by omega, by simp only [if_true]; rw [← e2]; exact e⟩
          · obtain ⟨j, hj, e5⟩ := (h7 x).mpr ⟨i, by omega, e⟩
            exact ⟨j, by omega, by simp only [if_neg (show ¬ j = q by omega)]; exact e5⟩
    unfold f12_orders_j112
    simp only [if_neg hkc, e2, e3, i1, i2, i4, i5, gd_true, stp, i3, hk4, rA_uA]
    by_cases hq0 : q = 0
    · exact absurd (h2 (by omega)) (by omega)
    · have e5 : Int32.ofNat q - 1 = Int32.ofNat (q - 1) := by grind
      have i6 : inb (Int32.ofNat (q - 1)) 8 = true := inb_t (by grind)
      have i7 : (Int32.ofNat (q - 1)).toNatClampNeg = q - 1 := ofNat_clamp (by omega)
      have e6 : r (q - 1) = Int32.ofNat (d (q - 1)) := h3 _ (by omega)
      have e7 : Int32.ofNat (v k) = Int32.ofNat (d (q - 1)) ↔ d (q - 1) = v k := by
        have := hd (q - 1) (by omega)
        grind
      simp only [e5, i6, i7, gd_true, e6, e7]
      by_cases heq : d (q - 1) = v k
      · simp only [if_pos heq]
        simp only [Ok_stp, Ok_bnd, Ok_bndX, Ok_some, Ok_none, Ok_ite, Ok_gd, inb_iff, isB_iff, lp_inl, lp_inr, Prod.mk.injEq, Sum.inl.injEq, Sum.inr.injEq, reduceCtorEq, forall_eq', false_imp_iff, imp_self, true_and, and_true, implies_true, forall_const]
        refine ⟨hkc1, r, d, q, ⟨rfl, rfl⟩, h01, by omega, by omega, h3, fun i a b => h4 i (by omega) b, h5, by simpa using heq, fun x => ?_⟩
        rw [h7 x]
        constructor
        · rintro ⟨i, hi, e⟩
          exact ⟨i, by omega, e⟩
        · rintro ⟨i, hi, e⟩
          by_cases e2 : i = k
          · exact ⟨k - 1, by omega, by rw [← h6 (by omega), heq, ← e2]; exact e⟩
          · exact ⟨i, by omega, e⟩
      · simp only [if_neg heq]
        simp only [Ok_stp, Ok_bnd, Ok_bndX, Ok_some, Ok_none, Ok_ite, Ok_gd, inb_iff, isB_iff, lp_inl, lp_inr, Prod.mk.injEq, Sum.inl.injEq, Sum.inr.injEq, reduceCtorEq, forall_eq', false_imp_iff, imp_self, true_and, and_true, implies_true, forall_const]
        obtain ⟨r', d', q', n1, n2⟩ := nxt (Or.inr heq)
        refine ⟨hkc1, r', d', q', n1, h01, n2.1, fun _ => n2.2.1, n2.2.2.1, n2.2.2.2.1, n2.2.2.2.2.1, fun _ => n2.2.2.2.2.2.1, n2.2.2.2.2.2.2⟩
