theorem inb_n {p n : Nat} (h : p < n) (hn : n < 2147483648) : inb (Int32.ofNat p) n = true := inb_t (by
  have := i32n p (by omega)
  have h2 : (Int32.ofNat p).toInt = p := Int32.toInt_ofNat_of_lt (by omega)
  exact ⟨by grind, by omega⟩)
theorem i32_le {a b : Nat} (ha : a < 2147483648) (hb : b < 2147483648) : Int32.ofNat a ≤ Int32.ofNat b ↔ a ≤ b := by grind
theorem i32n_lt {a b : Nat} (ha : a < 2147483648) (hb : b < 2147483648) : Int32.ofNat a < Int32.ofNat b ↔ a < b := by grind
theorem i32_eq {a b : Nat} (ha : a < 2147483648) (hb : b < 2147483648) : Int32.ofNat a = Int32.ofNat b ↔ a = b := by grind
theorem i32_succ {a : Nat} : Int32.ofNat a + 1 = Int32.ofNat (a + 1) := (Int32.ofNat_add a 1).symm
def seg (r : Nat → Int32) (lo hi : Nat) (v : Int32) (k : Nat) : Int32 := if lo ≤ k ∧ k < hi then v else r k
theorem seg_s {r : Nat → Int32} {lo q : Nat} {v : Int32} (h : lo ≤ q) : up1 (seg r lo q v) q v = seg r lo (q + 1) v := by
  funext k
  unfold up1 seg
  by_cases e : k = q
  · rw [if_pos e, if_pos (by omega)]
  · rw [if_neg e]
    by_cases e2 : lo ≤ k ∧ k < q
    · rw [if_pos e2, if_pos (by omega)]
    · rw [if_neg e2, if_neg (by omega)]
theorem seg_0 {r : Nat → Int32} {lo : Nat} {v : Int32} : seg r lo lo v = r := by
  funext k
  unfold seg
  rw [if_neg (by omega)]
section R
variable {σ μ : Sto} {o : Int64} {L B H : Nat} {f : Nat → Int32} {n c : Nat} {hd : Nat → Int32} {cu : Nat → Nat} {ma lf ml : Nat → Int32}
theorem c8_inLines (h : CT σ 1 L B f n) (s6 : fI σ 1 6 = Int32.ofNat c) (hc : c ≤ 8) (s7 : ∀ k, k < c → aI σ (1 + 4) k = Int32.ofNat (cu k)) (hb : ∀ i, i < c → cu i ≤ n) {a b : Nat} {x y : Int32} (hx : x = Int32.ofNat a) (hy : y = Int32.ofNat b) (ha : a ≤ 1000) (hb2 : b ≤ 1000) : ∃ q : Bool, f8_hasCursorInLines σ 1 x y = some (tz q) ∧ (q = true ↔ ∃ i, i < c ∧ a ≤ ends f (cu i) ∧ ends f (cu i) ≤ b) := by
  subst hx hy
  have hE := h.2.1
  have key : Ok (f8_hasCursorInLines σ 1 (Int32.ofNat a) (Int32.ofNat b)) (fun r => ∃ q : Bool, r = tz q ∧ (q = true ↔ ∃ i, i < c ∧ a ≤ ends f (cu i) ∧ ends f (cu i) ≤ b)) := by
    unfold f8_hasCursorInLines f8_hasCursorInLines_j2
    simp only [Ok_stp, Ok_bnd]
    refine Ok.imp (Q := fun r => (r = .inl () ∧ ∀ i, i < c → ¬ (a ≤ ends f (cu i) ∧ ends f (cu i) ≤ b)) ∨ (r = .inr () ∧ ∃ i, i < c ∧ a ≤ ends f (cu i) ∧ ends f (cu i) ≤ b)) ?_ ?_
    · refine Ok_count c (fun k z => z = Int32.ofNat k ∧ ∀ i, i < k → ¬ (a ≤ ends f (cu i) ∧ ends f (cu i) ≤ b)) ?_ 0 ⟨rfl, fun i hi => by omega⟩ (by omega) (by (show _ < FU; unfold FU; omega))
      rintro k z hk ⟨rfl, h1⟩
      have e1 : Int32.ofNat c ≤ Int32.ofNat k ↔ k = c := by grind
      unfold f8_hasCursorInLines_b2 f8_hasCursorInLines_j36
      simp only [s6, e1]
      by_cases hkc : k = c
      · simp only [if_pos hkc]
        simp only [Ok_stp, Ok_bnd, Ok_bndX, Ok_some, Ok_none, Ok_ite, Ok_gd, inb_iff, isB_iff, lp_inl, lp_inr, Prod.mk.injEq, Sum.inl.injEq, Sum.inr.injEq, reduceCtorEq, forall_eq', false_imp_iff, imp_self, true_and, and_true, implies_true, forall_const]
        subst hkc
        exact Or.inl h1
      · have i1 : inb (Int32.ofNat k) 8 = true := inb_t (by grind)
        have i2 : (Int32.ofNat k).toNatClampNeg = k := ofNat_clamp (by omega)
        have e3 : Int32.ofNat k + 1 = Int32.ofNat (k + 1) := by grind
        have hm := ends_mono (f := f) (hb k (by omega))
        have e4 : Int32.ofNat (ends f (cu k)) < Int32.ofNat a ↔ ends f (cu k) < a := by grind
        have e5 : Int32.ofNat b < Int32.ofNat (ends f (cu k)) ↔ b < ends f (cu k) := by grind
        simp only [if_neg hkc, i1, i2, gd_true, s7 k (by omega), c8_lineWith h rfl (hb k (by omega)), bnd_some, stp, e4, e5, e3]
        have nx : ¬ (a ≤ ends f (cu k) ∧ ends f (cu k) ≤ b) → k + 1 ≤ c ∧ ∀ i, i < k + 1 → ¬ (a ≤ ends f (cu i) ∧ ends f (cu i) ≤ b) := fun hz => ⟨by omega, fun i hi => by
          by_cases e : i = k
          · rw [e]; exact hz
          · exact h1 i (by omega)⟩
        by_cases hq : ends f (cu k) < a
        · simp only [if_pos hq]
          simp only [Ok_stp, Ok_bnd, Ok_bndX, Ok_some, Ok_none, Ok_ite, Ok_gd, inb_iff, isB_iff, lp_inl, lp_inr, Prod.mk.injEq, Sum.inl.injEq, Sum.inr.injEq, reduceCtorEq, forall_eq', false_imp_iff, imp_self, true_and, and_true, implies_true, forall_const]
          exact nx (by omega)
        · simp only [if_neg hq]
          by_cases hq2 : b < ends f (cu k)
          · simp only [if_pos hq2]
            simp only [Ok_stp, Ok_bnd, Ok_bndX, Ok_some, Ok_none, Ok_ite, Ok_gd, inb_iff, isB_iff, lp_inl, lp_inr, Prod.mk.injEq, Sum.inl.injEq, Sum.inr.injEq, reduceCtorEq, forall_eq', false_imp_iff, imp_self, true_and, and_true, implies_true, forall_const]
            exact nx (by omega)
          · simp only [if_neg hq2]
            simp only [Ok_stp, Ok_bnd, Ok_bndX, Ok_some, Ok_none, Ok_ite, Ok_gd, inb_iff, isB_iff, lp_inl, lp_inr, Prod.mk.injEq, Sum.inl.injEq, Sum.inr.injEq, reduceCtorEq, forall_eq', false_imp_iff, imp_self, true_and, and_true, implies_true, forall_const]
            exact Or.inr ⟨k, by omega, by omega, by omega⟩
    · rintro r (⟨rfl, h1⟩ | ⟨rfl, h1⟩)
      · simp only [Ok_some]
        exact ⟨false, rfl, ⟨fun z => (by cases z), fun z => by obtain ⟨i, hi, e⟩ := z; exact absurd e (h1 i hi)⟩⟩
      · simp only [Ok_some]
        exact ⟨true, rfl, ⟨fun _ => h1, fun _ => rfl⟩⟩
  obtain ⟨r, h1, q, rfl, h2⟩ := key
  exact ⟨q, h1, h2⟩
theorem c12_inLines (h : MT μ f n) (hE : ends f n < 300) (s6 : fI μ 2017 6 = Int32.ofNat c) (hc : c ≤ 8) (s7 : ∀ k, k < c → aI μ 2019 k = Int32.ofNat (cu k)) (hb : ∀ i, i < c → cu i ≤ n) {a b : Nat} {x y : Int32} (hx : x + 1 = Int32.ofNat a) (hy : y = Int32.ofNat b) (ha : a ≤ 1000) (hb2 : b ≤ 1000) : (loopF (fun s_35 => f12_fold_b35 x y μ s_35) FU 0 = some (.inl ()) ∧ ∀ i, i < c → ¬ (a ≤ ends f (cu i) ∧ ends f (cu i) ≤ b)) ∨ (loopF (fun s_35 => f12_fold_b35 x y μ s_35) FU 0 = some (.inr ()) ∧ ∃ i, i < c ∧ a ≤ ends f (cu i) ∧ ends f (cu i) ≤ b) := by
  subst hy
  have key : Ok (loopF (fun s_35 => f12_fold_b35 x (Int32.ofNat b) μ s_35) FU 0) (fun r => (r = .inl () ∧ ∀ i, i < c → ¬ (a ≤ ends f (cu i) ∧ ends f (cu i) ≤ b)) ∨ (r = .inr () ∧ ∃ i, i < c ∧ a ≤ ends f (cu i) ∧ ends f (cu i) ≤ b)) := by
    refine Ok_count c (fun k z => z = Int32.ofNat k ∧ ∀ i, i < k → ¬ (a ≤ ends f (cu i) ∧ ends f (cu i) ≤ b)) ?_ 0 ⟨rfl, fun i hi => by omega⟩ (by omega) (by (show _ < FU; unfold FU; omega))
    rintro k z hk ⟨rfl, h1⟩
    have e1 : Int32.ofNat c ≤ Int32.ofNat k ↔ k = c := by grind
    unfold f12_fold_b35
    simp only [s6, e1]
    by_cases hkc : k = c
    · simp only [if_pos hkc]
      simp only [Ok_stp, Ok_bnd, Ok_bndX, Ok_some, Ok_none, Ok_ite, Ok_gd, inb_iff, isB_iff, lp_inl, lp_inr, Prod.mk.injEq, Sum.inl.injEq, Sum.inr.injEq, reduceCtorEq, forall_eq', false_imp_iff, imp_self, true_and, and_true, implies_true, forall_const]
      subst hkc
      exact Or.inl h1
    · have i1 : inb (Int32.ofNat k) 8 = true := inb_t (by grind)
      have i2 : (Int32.ofNat k).toNatClampNeg = k := ofNat_clamp (by omega)
      have e3 : Int32.ofNat k + 1 = Int32.ofNat (k + 1) := by grind
      have hm := ends_mono (f := f) (hb k (by omega))
      have e4 : (Int32.ofNat a ≤ Int32.ofNat (ends f (cu k)) ∧ Int32.ofNat (ends f (cu k)) ≤ Int32.ofNat b) ↔ (a ≤ ends f (cu k) ∧ ends f (cu k) ≤ b) := by grind
      simp only [if_neg hkc, i1, i2, gd_true, s7 k (by omega), c12_lineAt h rfl (hb k (by omega)), bnd_some, stp, c12_in, hx, ite_tz, decide_eq_true_eq, e4, e3]
      by_cases hq : a ≤ ends f (cu k) ∧ ends f (cu k) ≤ b
      · simp only [if_pos hq]
        simp only [Ok_stp, Ok_bnd, Ok_bndX, Ok_some, Ok_none, Ok_ite, Ok_gd, inb_iff, isB_iff, lp_inl, lp_inr, Prod.mk.injEq, Sum.inl.injEq, Sum.inr.injEq, reduceCtorEq, forall_eq', false_imp_iff, imp_self, true_and, and_true, implies_true, forall_const]
        exact Or.inr ⟨k, by omega, hq⟩
      · simp only [if_neg hq]
        simp only [Ok_stp, Ok_bnd, Ok_bndX, Ok_some, Ok_none, Ok_ite, Ok_gd, inb_iff, isB_iff, lp_inl, lp_inr, Prod.mk.injEq, Sum.inl.injEq, Sum.inr.injEq, reduceCtorEq, forall_eq', false_imp_iff, imp_self, true_and, and_true, implies_true, forall_const]
        exact ⟨by omega, fun i hi => by
          by_cases e : i = k
          · rw [e]; exact hq
          · exact h1 i (by omega)⟩
  obtain ⟨r, h1, h2⟩ := key
  rcases h2 with ⟨rfl, h2⟩ | ⟨rfl, h2⟩
  · exact Or.inl ⟨h1, h2⟩
  · exact Or.inr ⟨h1, h2⟩
theorem op_fold (h : Rel σ μ) {x y : Int32} : stH (f11_fold σ x y) [(1, 1), (2, 2), (3, 3)] o (f12_fold μ x y) RQ := by
  obtain ⟨⟨f, n, hd, c, cu, ma, lf, ml⟩, L, B, H, T, h0⟩ := id h
  obtain ⟨g, s, m, w, t⟩ := id h0
  obtain ⟨s1, ⟨s2, s3, s4, s5⟩, ⟨s6, s7⟩, s8, s9⟩ := s
  obtain ⟨m1, m2, ⟨m3, m4⟩, m5, m6⟩ := m
  have hw := w.cells
  have hcu := g.2.2.2.2.2.2.2.1
  have hc18 := g.2.2.2.2.2.1
  have hn := g.1
  have hE := g.2.1
  unfold f11_fold f12_fold f12_fold_j16 f12_fold_j35
  rw [c11_requireLine s1, c12_isLine m1, c12_isLine m1]
  simp only [bnd_some, ite_tz, decide_eq_true_eq, c12_refuse, c12_told, stp]
  by_cases hx : 0 ≤ x ∧ x ≤ Int32.ofNat (ends f n)
  · simp only [if_pos hx, bndX_inl, c11_requireLine s1]
    by_cases hy : 0 ≤ y ∧ y ≤ Int32.ofNat (ends f n)
    · simp only [if_pos hy, bndX_inl]
      by_cases hxy : x < y
      · simp only [if_pos hxy]
        obtain ⟨a, ha, rfl⟩ := of_range hx (by omega)
        obtain ⟨b, hb, rfl⟩ := of_range hy (by omega)
        have e1 : Int32.ofNat a + 1 = Int32.ofNat (a + 1) := by grind
        have hab : a < b := by grind
        obtain ⟨q, q1, q2⟩ := c8_inLines s1 s6 hc18.2 s7 hcu (a := a + 1) (b := b) e1 rfl (by omega) (by omega)
        rw [q1, bnd_some, ite_tz]
        rcases c12_inLines m1 hE m3 hc18.2 m4 hcu (a := a + 1) (b := b) e1 rfl (by omega) (by omega) with ⟨r1, r2⟩ | ⟨r1, r2⟩
        · have hq : ¬ q = true := fun z => by
            obtain ⟨i, hi, e⟩ := q2.mp z
            exact r2 i hi e
          rw [if_neg hq, r1, bnd_some]
          clear q1 q2 hq
          simp only [e1]
          have kc : Ok (loopF (fun s_55 => f11_fold_b55 (Int32.ofNat a) (Int32.ofNat b) s_55.1 s_55.2) FU (σ, Int32.ofNat (a + 1))) (fun s => s = rA σ H (seg (aI σ H) (a + 1) (b + 1) 1)) := by
            refine Ok_count (b - a) (fun k z => z = (rA σ H (seg (aI σ H) (a + 1) (a + 1 + k) 1), Int32.ofNat (a + 1 + k))) ?_ 0 ?_ (by omega) (by (show _ < FU; unfold FU; omega))
            · rintro k z hk rfl
              have i1 : Int32.ofNat b < Int32.ofNat (a + 1 + k) ↔ k = b - a := by grind
              have i2 : fR (rA σ H (seg (aI σ H) (a + 1) (a + 1 + k) 1)) 1 3 = H + 1 := s2
              have i3 : (Int32.ofNat (a + 1 + k)).toNatClampNeg = a + 1 + k := ofNat_clamp (by omega)
              have i4 : k ≠ b - a → inb (Int32.ofNat (a + 1 + k)) 300 = true := fun _ => inb_n (by omega) (by omega)
              have i5 : Int32.ofNat (a + 1 + k) + 1 = Int32.ofNat (a + 1 + (k + 1)) := by grind
              unfold f11_fold_b55
              simp only [i1, i2, okr_s.mpr s3, s4, Nat.add_sub_cancel, i3, gd_true, stp, nar_b (Or.inr rfl), rA_uA, seg_s (Nat.le_add_right (a + 1) k), i5]
              by_cases hq : k = b - a
              · simp only [if_pos hq]
                simp only [Ok_stp, Ok_bnd, Ok_bndX, Ok_some, Ok_none, Ok_ite, Ok_gd, inb_iff, isB_iff, lp_inl, lp_inr, Prod.mk.injEq, Sum.inl.injEq, Sum.inr.injEq, reduceCtorEq, forall_eq', false_imp_iff, imp_self, true_and, and_true, implies_true, forall_const]
                rw [hq, show a + 1 + (b - a) = b + 1 by omega]
              · simp only [if_neg hq, i4 hq, gd_true]
                simp only [Ok_stp, Ok_bnd, Ok_bndX, Ok_some, Ok_none, Ok_ite, Ok_gd, inb_iff, isB_iff, lp_inl, lp_inr, Prod.mk.injEq, Sum.inl.injEq, Sum.inr.injEq, reduceCtorEq, forall_eq', false_imp_iff, imp_self, true_and, and_true, implies_true, forall_const]
                exact ⟨by omega, rfl⟩
            · rw [Nat.add_zero, seg_0, rA_self]
          have km : Ok (loopF (fun s_79 => f12_fold_b79 (Int32.ofNat a) (Int32.ofNat b) s_79.1 s_79.2) FU (μ, Int32.ofNat (a + 1))) (fun s => s = rA μ 2022 (seg (aI μ 2022) (a + 1) (b + 1) 1)) := by
            refine Ok_count (b - a) (fun k z => z = (rA μ 2022 (seg (aI μ 2022) (a + 1) (a + 1 + k) 1), Int32.ofNat (a + 1 + k))) ?_ 0 ?_ (by omega) (by (show _ < FU; unfold FU; omega))
            · rintro k z hk rfl
              have i1 : Int32.ofNat b < Int32.ofNat (a + 1 + k) ↔ k = b - a := by grind
              have i3 : (Int32.ofNat (a + 1 + k)).toNatClampNeg = a + 1 + k := ofNat_clamp (by omega)
              have i4 : k ≠ b - a → inb (Int32.ofNat (a + 1 + k)) 301 = true := fun _ => inb_n (by omega) (by omega)
              have i5 : Int32.ofNat (a + 1 + k) + 1 = Int32.ofNat (a + 1 + (k + 1)) := by grind
              unfold f12_fold_b79
              simp only [i1, i3, stp, nar_b (Or.inr rfl), rA_uA, seg_s (Nat.le_add_right (a + 1) k), i5]
              by_cases hq : k = b - a
              · simp only [if_pos hq]
                simp only [Ok_stp, Ok_bnd, Ok_bndX, Ok_some, Ok_none, Ok_ite, Ok_gd, inb_iff, isB_iff, lp_inl, lp_inr, Prod.mk.injEq, Sum.inl.injEq, Sum.inr.injEq, reduceCtorEq, forall_eq', false_imp_iff, imp_self, true_and, and_true, implies_true, forall_const]
                rw [hq, show a + 1 + (b - a) = b + 1 by omega]
              · simp only [if_neg hq, i4 hq, gd_true]
                simp only [Ok_stp, Ok_bnd, Ok_bndX, Ok_some, Ok_none, Ok_ite, Ok_gd, inb_iff, isB_iff, lp_inl, lp_inr, Prod.mk.injEq, Sum.inl.injEq, Sum.inr.injEq, reduceCtorEq, forall_eq', false_imp_iff, imp_self, true_and, and_true, implies_true, forall_const]
                exact ⟨by omega, rfl⟩
            · rw [Nat.add_zero, seg_0, rA_self]
          obtain ⟨σ', k1, rfl⟩ := kc
          obtain ⟨μ', k2, rfl⟩ := km
          unfold f11_fold_j55 f12_fold_j79
          rw [k1, k2, bnd_some, bnd_some]
          have hC' : CT (rA σ H (seg (aI σ H) (a + 1) (b + 1) 1)) 1 L B f n := s1.congr rfl rfl (aI_rA' (by omega)) (aI_rA' (by omega))
          have hH' : ∀ j, j ≤ ends f n → aI (rA σ H (seg (aI σ H) (a + 1) (b + 1) 1)) H j = seg hd (a + 1) (b + 1) 1 j := fun j hj => by
            rw [aI_rA, if_pos rfl]
            unfold seg
            rw [s5 j hj]
          have hM' : ∀ j, j < 301 → aI (rA μ 2022 (seg (aI μ 2022) (a + 1) (b + 1) 1)) 2022 j = if j ≤ ends f n then seg hd (a + 1) (b + 1) 1 j else 0 := fun j hj => by
            rw [aI_rA, if_pos rfl]
            unfold seg
            rw [m2 j hj]
            by_cases e : j ≤ ends f n
            · rw [if_pos e, if_pos e]
            · rw [if_neg e, if_neg e, if_neg (by omega)]
          rw [c8_countHidden hC' s2 s3 s4 hH', c12_hiddenMany hE (fun j hj => hM' j (by omega)), bnd_some, bnd_some, c12_told, bnd_some]
          refine stH_ok rfl rfl ⟨(f, n, seg hd (a + 1) (b + 1) 1, c, cu, ma, lf, ml), L, B, H, T, h0.sheet (Sm.rA (fun b hb => nsh_ne hb (by omega))) (mfr.rA (by omega)) ?_ ?_ ?_ w⟩
          · obtain ⟨g1, g2, g3, g4, g5, g6, g7, g8, g9, g10, g11⟩ := g
            refine ⟨g1, g2, g3, ?_, fun j hj => ?_, g6, g7, g8, fun i hi => ?_, g10, g11⟩
            · unfold seg
              rw [if_neg (by omega)]
              exact g4
            · unfold seg
              split
              · exact Or.inr rfl
              · exact g5 j hj
            · unfold seg
              rw [if_neg (fun z => r2 i hi (by omega))]
              exact g9 i hi
          · refine ⟨hC', ⟨s2, s3, s4, hH'⟩, ⟨s6, fun k hk => ?_⟩, fun k hk => ?_, fun k hk => ?_⟩
            · rw [aI_rA' (by omega)]; exact s7 k hk
            · rw [aI_rA' (by omega)]; exact s8 k hk
            · rw [aI_rA' (by omega)]; exact s9 k hk
          · exact ⟨m1.congr rfl rfl, hM', ⟨m3, m4⟩, m5, m6⟩
        · have hq : q = true := q2.mpr r2
          rw [if_pos hq, r1, bnd_some]
          exact stH_er (c := 3) (t := 3) rfl (by decide) (by decide) rfl h
      · simp only [if_neg hxy]
        exact stH_er (c := 2) (t := 2) rfl (by decide) (by decide) rfl h
    · simp only [if_neg hy]
      exact stH_er (c := 1) (t := 1) rfl (by decide) (by decide) rfl h
  · simp only [if_neg hx]
    exact stH_er (c := 1) (t := 1) rfl (by decide) (by decide) rfl h
end R
