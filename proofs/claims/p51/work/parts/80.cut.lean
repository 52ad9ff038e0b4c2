/-! a part replaced, a part cut -/
section R
variable {σ μ σ1 μ1 : Sto} {L B H : Nat} {f : Nat → Int32} {n c K q w : Nat} {hd : Nat → Int32} {cu : Nat → Nat} {ma lf ml : Nat → Int32} {T : Hst} {a b l : Nat → Nat} {G : Nat → Int32} {o : Int64}
theorem one_s (h : K ≤ 1) : (∀ k, k < K → b k - a k ≤ l k) ∨ ∀ k, k < K → l k ≤ b k - a k := by
  by_cases z : b 0 - a 0 ≤ l 0
  · exact Or.inl (fun k hk => by rw [show k = 0 by omega]; exact z)
  · exact Or.inr (fun k hk => by rw [show k = 0 by omega]; omega)
theorem one_l (h : K ≤ 1) : (∀ k, k < K → ends f (b k) ≤ ends f (a k) + ends G (l k)) ∨ ∀ k, k < K → ends f (a k) + ends G (l k) ≤ ends f (b k) := by
  by_cases z : ends f (b 0) ≤ ends f (a 0) + ends G (l 0)
  · exact Or.inl (fun k hk => by rw [show k = 0 by omega]; exact z)
  · exact Or.inr (fun k hk => by rw [show k = 0 by omega]; omega)
theorem nxK_le {p q e : Nat} : nxK K p q e ≤ K + 1 := by
  unfold nxK
  split <;> omega
theorem op_replace (h : Rel σ μ) {x y : Int32} : stH (f11_replace σ x y) [(1, 1), (2, 2), (3, 3)] o (f12_replace μ x y) RQ := by
  obtain ⟨⟨f, n, hd, c, cu, ma, lf, ml⟩, L, B, H, T, h0⟩ := id h
  have hC : CT σ 1 L B f n := h0.2.1.1
  have hM : MT μ f n := h0.2.2.1.1
  unfold f11_replace f12_replace f12_replace_j16
  rw [c11_requirePart hC, c12_isPlace hM, c12_isPlace hM, bnd_some, bnd_some]
  simp only [ite_tz, decide_eq_true_eq]
  by_cases hx : 0 ≤ x ∧ x ≤ Int32.ofNat n
  · by_cases hy : 0 ≤ y ∧ y ≤ Int32.ofNat n
    · rw [if_pos hx, if_pos hy, if_pos (And.intro hx hy)]
      by_cases hxy : x ≤ y
      · rw [if_pos hxy, if_pos hxy, bndX_inl]
        have hn := hC.1
        obtain ⟨p, hp, rfl⟩ := of_range hx (by omega)
        obtain ⟨r, hr, rfl⟩ := of_range hy (by omega)
        have hpr : p ≤ r := (i32_le (by omega) (by omega)).mp hxy
        obtain ⟨tn, σ1, μ1, G, t1, t2, t3, k1, k2, k3, j⟩ := JP.tape h0
        obtain ⟨σ2, μ2, a, b, l, p1, p2, p3, p4, p5, p6, p7, p8, p9⟩ := j.add (p := p) (r := r) (e := tn) (by omega) (by omega) hpr hr hn (Nat.le_refl _)
        have e1 : fI σ1 8 1 = Int32.ofNat tn := by
          rw [(j.1.1 8 (by omega)).1]
          exact t2
        obtain ⟨r1, σ3, μ3, D', L', B', H', T', v1, v2, v3, v4, v5, v6, v7, v8, v9⟩ := act_of (P := RT) h0 p3 (one_s nxK_le) (one_l nxK_le)
        have v4 : Rel0 σ3 μ3 D' L' B' H' T' := v4
        rw [k1, bnd_some, e1, p1, bnd_some, v1, bnd_some, k2, bnd_some, k3, bnd_some, j.2.1.2.2.2, p2, bnd_some, v2, bnd_some]
        rcases v3 with rfl | rfl
        · rw [if_pos rfl, if_pos rfl, c12_refuse, bnd_some]
          exact stH_er (c := 3) (t := 3) rfl (by decide) (by decide) rfl ⟨_, _, _, _, _, v4⟩
        · rw [if_neg (show ¬ (1 : Int32) = 0 by decide), if_neg (show ¬ (1 : Int32) = 0 by decide), c12_told, bnd_some]
          obtain ⟨f', n', hd', c', cu', ma', lf', ml'⟩ := D'
          have eS : fI σ3 1 1 = Int32.ofNat n' := v4.2.1.1.2.2.1
          have eT : fI μ3 2017 5 = Int32.ofNat n' := v4.2.2.1.1.2.1
          show stH (some (.inl (fI σ3 1 1, σ3))) _ _ (f12_replace_j75 _ _ (uI μ3 2017 18 0) (fI μ3 2017 5)) _
          rw [eS, eT]
          exact stH_ok rfl rfl ⟨_, _, _, _, _, v4⟩
      · rw [if_neg hxy, if_neg hxy, bndX_inr, c12_refuse, bnd_some]
        exact stH_er (c := 2) (t := 2) rfl (by decide) (by decide) rfl h
    · rw [if_pos hx, if_neg hy, if_neg (fun z : (0 ≤ x ∧ x ≤ Int32.ofNat n) ∧ (0 ≤ y ∧ y ≤ Int32.ofNat n) => hy z.2), bndX_inr, c12_refuse, bnd_some]
      exact stH_er (c := 1) (t := 1) rfl (by decide) (by decide) rfl h
  · rw [if_neg hx, if_neg (fun z : (0 ≤ x ∧ x ≤ Int32.ofNat n) ∧ (0 ≤ y ∧ y ≤ Int32.ofNat n) => hx z.1), bndX_inr, c12_refuse, bnd_some]
    exact stH_er (c := 1) (t := 1) rfl (by decide) (by decide) rfl h
/-- the clip alone is another -/
theorem Rel0.clip {σ' μ' : Sto} {D : Doc} (h : Rel0 σ μ D L B H T) (hs : Sm (fun a => a < 10 ∨ 12 < a) σ σ') (hm1 : ∀ k, k ≠ 12 → k ≠ 13 → k ≠ 14 → fI μ' 2017 k = fI μ 2017 k) (hm2 : ∀ a, a ≠ 2024 → aI μ' a = aI μ a) (r : RC (fI σ' 10) (fI σ' 11 1) (aI σ' 12) (fI μ' 2017 12) (fI μ' 2017 13) (fI μ' 2017 14) (aI μ' 2024)) : Rel0 σ' μ' D L B H T := by
  obtain ⟨g, s, m, w, t1, t2, t3, t4, t5, t6, t7, t8⟩ := h
  have hw := w.cells
  refine ⟨g, s.congr (hs 1 (by omega)).1 (hs 1 (by omega)).2.1 (hs L (by omega)).2.2.1 (hs B (by omega)).2.2.1 (hs H (by omega)).2.2.1 (hs (1 + 4) (by omega)).2.2.1 (hs (1 + 5) (by omega)).2.2.1 (hs (1 + 6) (by omega)).2.2.1, m.congr (hm1 _ (by decide) (by decide) (by decide)) (hm1 _ (by decide) (by decide) (by decide)) (hm2 _ (by omega)) (hm2 _ (by omega)) (hm2 _ (by omega)) (hm2 _ (by omega)) (hm2 _ (by omega)), ?_, ?_, r, ?_, ?_, t5.congr (hs.weak (by omega)) (hm1 _ (by decide) (by decide) (by decide)) (hm2 _ (by omega)), t6.congr (hs.weak (by omega)) (hm1 50 (by decide) (by decide) (by decide)) (hm1 51 (by decide) (by decide) (by decide)) (fun a a1 a2 => hm2 a (by omega)), ?_, t8.congr (hs.weak (by omega)) ?_ ?_ (hm1 _ (by decide) (by decide) (by decide)) (hm1 _ (by decide) (by decide) (by decide)) (fun a a1 a2 => hm2 a (by omega))⟩
  · unfold SW
    rw [(hs 13 (by omega)).2.1]
    exact w
  · rw [(hs 8 (by omega)).1, (hs 9 (by omega)).2.2.1, hm1 11 (by decide) (by decide) (by decide), hm2 2023 (by omega)]
    exact t1
  · rw [(hs 1990 (by omega)).1, (hs 1989 (by omega)).1, (hs 1991 (by omega)).2.2.1, hm1 15 (by decide) (by decide) (by decide), hm1 19 (by decide) (by decide) (by decide), hm2 2025 (by omega)]
    exact t3
  · rw [(hs 0 (by omega)).1, (hs 2015 (by omega)).2.2.1, (hs 2016 (by omega)).2.2.1, hm1 17 (by decide) (by decide) (by decide), hm2 2027 (by omega), hm2 2028 (by omega)]
    exact t4
  · rw [(hs 24 (by omega)).1, hm1 34 (by decide) (by decide) (by decide), hm1 33 (by decide) (by decide) (by decide)]
    exact t7
  · rw [(hs 24 (by omega)).1]
  · rw [(hs 24 (by omega)).2.1]
theorem Rel0.r43 {D : Doc} (h : Rel0 σ μ D L B H T) {r : Nat → Int32} : Rel0 σ (rA μ 2043 r) D L B H T := by
  obtain ⟨L', B', H', cl, al, hne⟩ := h.2.2.2.1.alt
  exact RelT.plan (P := RT) (σ' := σ) (μ' := rA μ 2043 r) h al cl hne Sm.rf rfl (fun _ _ _ _ => rfl) (fun a _ a2 => aI_rA' a2)
/-- the letters to be cut are laid by -/
theorem c12_cut35 (h : MT μ f n) {p r : Nat} (hpr : p ≤ r) (hr : r ≤ n) {x y : Int32} (hy : y = Int32.ofNat r) (hx : x = Int32.ofNat p) : ∃ t, loopF (fun s_35 => f12_cut_b35 x y s_35.1 s_35.2) FU (μ, x) = some (rA μ 2043 t) ∧ ∀ i, i < r - p → t i = f (p + i) := by
  subst hx hy
  have hn := h.1
  have key : Ok (loopF (fun s_35 => f12_cut_b35 (Int32.ofNat p) (Int32.ofNat r) s_35.1 s_35.2) FU (μ, Int32.ofNat p)) (fun s => ∃ t, s = rA μ 2043 t ∧ ∀ i, i < r - p → t i = f (p + i)) := by
    refine Ok_count (r - p) (fun k z => ∃ t, z = (rA μ 2043 t, Int32.ofNat (p + k)) ∧ ∀ i, i < k → t i = f (p + i)) ?_ 0 ⟨aI μ 2043, by rw [rA_self]; rfl, fun i hi => by omega⟩ (by omega) (by (show _ < FU; unfold FU; omega))
    rintro k z hk ⟨t, rfl, t1⟩
    unfold f12_cut_b35
    have e2 : Int32.ofNat (p + k) - Int32.ofNat p = Int32.ofNat k := by
      rw [i32_sub (by omega), Nat.add_sub_cancel_left]
    have e5 : ∀ t, aI (rA μ 2043 t) 2018 = aI μ 2018 := fun t => rfl
    simp only [e2, e5, i32_le (show r < 2147483648 by omega) (show p + k < 2147483648 by omega), ofNat_clamp (show k < 2147483648 by omega), ofNat_clamp (show p + k < 2147483648 by omega), rA_uA, i32_succ]
    by_cases hq : r ≤ p + k
    · rw [if_pos hq, Ok_some, lp_inr]
      exact ⟨t, rfl, fun i hi => t1 i (by omega)⟩
    · rw [if_neg hq, inb_n (show p + k < 3000 by omega) (by omega), gd_true, inb_n (show k < 3000 by omega) (by omega), gd_true, stp, stp, Ok_some, lp_inl]
      refine ⟨by omega, _, rfl, fun i hi => ?_⟩
      unfold up1
      by_cases e : i = k
      · rw [if_pos e, e, h.2.2 _ (by omega)]
      · rw [if_neg e]
        exact t1 i (by omega)
  obtain ⟨s, h1, t, rfl, h2⟩ := key
  exact ⟨t, h1, h2⟩
theorem c12_cut99 {m : Nat} (h12 : fI μ 2017 12 = Int32.ofNat m) (hm : m ≤ 3000) {x y : Int32} : ∃ t, loopF (fun s_99 => f12_cut_b99 x y s_99.1 s_99.2) FU (μ, 0) = some (rA μ 2024 t) ∧ ∀ i, i < m → t i = aI μ 2043 i := by
  have key : Ok (loopF (fun s_99 => f12_cut_b99 x y s_99.1 s_99.2) FU (μ, 0)) (fun s => ∃ t, s = rA μ 2024 t ∧ ∀ i, i < m → t i = aI μ 2043 i) := by
    refine Ok_count m (fun k z => ∃ t, z = (rA μ 2024 t, Int32.ofNat k) ∧ ∀ i, i < k → t i = aI μ 2043 i) ?_ 0 ⟨aI μ 2024, by rw [rA_self]; rfl, fun i hi => by omega⟩ (by omega) (by (show _ < FU; unfold FU; omega))
    rintro k z hk ⟨t, rfl, t1⟩
    unfold f12_cut_b99
    have e5 : ∀ t, aI (rA μ 2024 t) 2043 = aI μ 2043 := fun t => rfl
    simp only [fI_rA, h12, e5, i32_le (show m < 2147483648 by omega) (show k < 2147483648 by omega), ofNat_clamp (show k < 2147483648 by omega), rA_uA, i32_succ]
    by_cases hq : m ≤ k
    · rw [if_pos hq, Ok_some, lp_inr]
      exact ⟨t, rfl, fun i hi => t1 i (by omega)⟩
    · rw [if_neg hq, inb_n (show k < 3000 by omega) (by omega), gd_true, inb_n (show k < 12000 by omega) (by omega), gd_true, stp, stp, Ok_some, lp_inl]
      refine ⟨by omega, _, rfl, fun i hi => ?_⟩
      unfold up1
      by_cases e : i = k
      · rw [if_pos e, e]
      · rw [if_neg e]
        exact t1 i (by omega)
  obtain ⟨s, h1, t, rfl, h2⟩ := key
  exact ⟨t, h1, h2⟩
theorem op_cut (h : Rel σ μ) {x y : Int32} : stH (f11_cut σ x y) [(1, 1), (2, 2), (3, 3)] o (f12_cut μ x y) RQ := by
  obtain ⟨⟨f, n, hd, c, cu, ma, lf, ml⟩, L, B, H, T, h0⟩ := id h
  have hC : CT σ 1 L B f n := h0.2.1.1
  have hM : MT μ f n := h0.2.2.1.1
  have hlt : ∀ k, k < n → isLt (f k) = true := h0.1.2.2.1
  unfold f11_cut f12_cut f12_cut_j16
  rw [c11_requirePart hC, c12_isPlace hM, c12_isPlace hM, bnd_some, bnd_some]
  simp only [ite_tz, decide_eq_true_eq]
  by_cases hx : 0 ≤ x ∧ x ≤ Int32.ofNat n
  · by_cases hy : 0 ≤ y ∧ y ≤ Int32.ofNat n
    · rw [if_pos hx, if_pos hy, if_pos (And.intro hx hy)]
      by_cases hxy : x ≤ y
      · rw [if_pos hxy, if_pos hxy, bndX_inl]
        have hn := hC.1
        obtain ⟨p, hp, rfl⟩ := of_range hx (by omega)
        obtain ⟨r, hr, rfl⟩ := of_range hy (by omega)
        have hpr : p ≤ r := (i32_le (by omega) (by omega)).mp hxy
        obtain ⟨c1, c2, c3⟩ := hC.2.2.2.2.1
        have hLl : ∀ k, k < n → aI σ L k = f k := hC.2.2.2.2.2.2.1
        rw [c1, okr_s.mpr c2, gd_true, Nat.add_sub_cancel, i32_sub hpr]
        obtain ⟨u, k1, k2⟩ := c1_begin (σ := σ) (a1 := L) (s := p) (m := r - p) rfl rfl (by omega) (by omega) (by omega) (fun i hi => by rw [hLl _ (by omega)]; exact hlt _ (by omega))
        obtain ⟨t, q1, q2⟩ := c12_cut35 hM hpr hr rfl rfl
        have h43 := h0.r43 (r := t)
        generalize hM4 : rA μ 2043 t = M4 at h43 q1
        have m43 : aI M4 2043 = t := by rw [← hM4]; rfl
        have j : JP σ M4 _ _ n 0 0 (fun _ => 0) (fun _ => 0) (fun _ => 0) (fun _ => 0) 0 := JP.zero (w := 0) (r := u) (r' := aI (uI M4 2017 27 0) 2033) (m := r - p) (by omega) (by omega) (fun i hi => by omega)
        obtain ⟨σ2, μ2, a, b, l, p1, p2, p3, p4, p5, p6, p7, p8, p9⟩ := j.add (p := p) (r := r) (e := 0) (by omega) (by omega) hpr hr hn (Nat.le_refl _)
        obtain ⟨r1, σ3, μ3, D', L', B', H', T', v1, v2, v3, v4, v5, v6, v7, v8, v9⟩ := act_of (P := RT) h43 p3 (one_s nxK_le) (one_l nxK_le)
        have v4 : Rel0 σ3 μ3 D' L' B' H' T' := v4
        have p1' : f1_addPart (uI (rA (uI (uI σ 13 4 0) 13 6 0) 19 u) 18 1 (Int32.ofNat (r - p))) (Int32.ofNat p) (Int32.ofNat r) 0 = some σ2 := p1
        have p2' : f12_adds (uI (uI M4 2017 27 0) 2017 28 0) (Int32.ofNat p) (Int32.ofNat r) 0 0 = some μ2 := by
          rw [c12_put0]
          exact p2
        rw [k1, bnd_some, p1', bnd_some, v1, bnd_some]
        show stH _ _ _ (f12_cut_j35 (Int32.ofNat p) (Int32.ofNat r) μ (Int32.ofNat p)) _
        unfold f12_cut_j35
        rw [q1, bnd_some, c12_begins1, bnd_some, p2', bnd_some, v2, bnd_some]
        rcases v3 with rfl | rfl
        · rw [if_pos rfl, if_pos rfl, c12_refuse, bnd_some]
          exact stH_er (c := 3) (t := 3) rfl (by decide) (by decide) rfl ⟨_, _, _, _, _, v4⟩
        · rw [if_neg (show ¬ (1 : Int32) = 0 by decide), if_neg (show ¬ (1 : Int32) = 0 by decide)]
          have e18 : fI σ3 18 1 = Int32.ofNat (r - p) := by
            rw [v6, p8]
            rfl
          have e19 : aI σ3 19 = u := by
            rw [v7, p9]
            rfl
          have e43 : aI μ3 2043 = t := by
            rw [v9.1, p7]
            exact m43
          have hu : ∀ i, i < r - p → u i = f (p + i) := fun i hi => by
            rw [k2 i hi, hLl _ (by omega)]
          have hbc : f6_become σ3 11 19 0 (Int32.ofNat (r - p)) = _ := c6_become (s := 0) (m := r - p) rfl rfl (by omega) (by omega) (by show 0 + (r - p) ≤ 3000; omega) (by show r - p ≤ 12000; omega) (fun i hi => by
            rw [e19, Nat.zero_add, hu i hi]
            have := isLt_in (hlt (p + i) (by omega))
            grind)
          unfold f2_takeLetters f12_cut_j99
          rw [e18, hbc, bnd_some, stp, stp, stp, stp, bnd_some, i32_sub hpr]
          obtain ⟨z, z1, z2⟩ := c12_cut99 (μ := uI (uI μ3 2017 13 0) 2017 12 (Int32.ofNat (r - p))) (m := r - p) rfl (by omega) (x := Int32.ofNat p) (y := Int32.ofNat r)
          rw [z1, bnd_some, c12_told, bnd_some]
          refine stH_ok (v := Int32.ofNat (r - p)) rfl rfl ⟨D', L', B', H', T', v4.clip ?_ ?_ ?_ ?_⟩
          · exact Sm.trans (Sm.rA (by omega)) (Sm.trans (Sm.uI (by omega)) (Sm.uI (by omega)))
          · intro k k1 k2 k3
            show fI (uI (uI μ3 2017 13 0) 2017 12 _) 2017 k = _
            rw [fI_uI, if_pos rfl, if_neg k1, fI_uI, if_pos rfl, if_neg k2]
          · intro a ha
            show aI (rA _ 2024 z) a = _
            rw [aI_rA' ha]
            rfl
          · refine ⟨r - p, by omega, rfl, rfl, fun k hk => ?_, Or.inl ⟨rfl, rfl, by omega⟩⟩
            show va_cpy (aI σ3 19) (aI σ3 (11 + 1)) 0 0 (r - p) k = z k ∧ isLt (z k) = true
            rw [cpy_at hk, z2 k hk]
            show aI σ3 19 (0 + k) = aI μ3 2043 k ∧ isLt (aI μ3 2043 k) = true
            rw [e19, e43, Nat.zero_add, hu k hk, q2 k hk]
            exact ⟨rfl, hlt _ (by omega)⟩
      · rw [if_neg hxy, if_neg hxy, bndX_inr, c12_refuse, bnd_some]
        exact stH_er (c := 2) (t := 2) rfl (by decide) (by decide) rfl h
    · rw [if_pos hx, if_neg hy, if_neg (fun z : (0 ≤ x ∧ x ≤ Int32.ofNat n) ∧ (0 ≤ y ∧ y ≤ Int32.ofNat n) => hy z.2), bndX_inr, c12_refuse, bnd_some]
      exact stH_er (c := 1) (t := 1) rfl (by decide) (by decide) rfl h
  · rw [if_neg hx, if_neg (fun z : (0 ≤ x ∧ x ≤ Int32.ofNat n) ∧ (0 ≤ y ∧ y ≤ Int32.ofNat n) => hx z.1), bndX_inr, c12_refuse, bnd_some]
    exact stH_er (c := 1) (t := 1) rfl (by decide) (by decide) rfl h
end R
