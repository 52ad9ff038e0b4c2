section R
variable {σ μ : Sto} {K : Nat} {a b l : Nat → Nat} {X : Nat → Nat → Int32}
theorem i32_add {p q : Nat} : Int32.ofNat p + Int32.ofNat q = Int32.ofNat (p + q) := (Int32.ofNat_add p q).symm
theorem c12_rowsMid {r1 : Nat → Int32} {x y z u v w : Int32} {p q e s : Nat} (hu : v = Int32.ofNat p) (hw : w = Int32.ofNat q) (hpq : p ≤ q) (hq : q < 300) (hs : s = p + e) (hs2 : s < 300) (hr : aI μ 2022 = r1) (h01 : ∀ i, i < 301 → r1 i = 0 ∨ r1 i = 1) {x7 : Int32} (h7 : x7 = Int32.ofNat e - (w - v)) : ∃ r2, (if x7 ≤ 0 then (if 0 ≤ x7 then f12_replaces_j184 x μ y z u v w x7 else stp ((w + x7) + (1 : Int32)) fun x8_37 => f12_replaces_j134 x μ y z u v w x7 x8_37) else stp (299 : Int32) fun x8_38 => f12_replaces_j84 x μ y z u v w x7 x8_38) = f12_replaces_j184 x (rA μ 2022 r2) y z u v w x7 ∧ w + x7 = Int32.ofNat s ∧ (∀ j, j ≤ p → r2 j = r1 j) ∧ ∀ j, s < j → j < 301 → r2 j = if j < 300 then (if j + q - s < 300 then r1 (j + q - s) else 0) else r1 j := by
  have hws : w + x7 = Int32.ofNat s := by
    rw [h7, hw, hu, hs, ← i32_add]
    grind
  have z0 : x7 ≤ 0 ↔ s ≤ q := by
    rw [h7, hw, hu]
    grind
  have z1 : 0 ≤ x7 ↔ q ≤ s := by
    rw [h7, hw, hu]
    grind
  by_cases h1 : s ≤ q
  · rw [if_pos (z0.mpr h1)]
    by_cases h2 : q ≤ s
    · rw [if_pos (z1.mpr h2)]
      refine ⟨r1, by rw [← hr, rA_self], hws, fun _ _ => rfl, fun j j1 j2 => ?_⟩
      by_cases h3 : j < 300
      · rw [if_pos h3, if_pos (by omega)]
        congr 1
        omega
      · rw [if_neg h3]
    · have hd : x7 + Int32.ofNat (q - s) = 0 := by
        have : Int32.ofNat (q - s) + Int32.ofNat s = Int32.ofNat q := by rw [i32_add]; congr 1; omega
        have : w = Int32.ofNat (q - s) + Int32.ofNat s := by rw [hw, this]
        rw [← hws] at this
        grind
      obtain ⟨r2, k1, k2⟩ := c12_rows134 (μ := μ) (s := s + 1) (x := x) (y := y) (z := z) (u := u) (v := v) (w := w) hd (by omega) (by omega) hr h01
      rw [if_neg (fun z => h2 (z1.mp z)), stp, hws, i32_succ, f12_replaces_j134, k1, bnd_some]
      refine ⟨r2, rfl, rfl, fun j hj => ?_, fun j j1 j2 => ?_⟩
      · rw [k2, if_neg (by omega)]
      · rw [k2]
        by_cases h3 : j < 300
        · rw [if_pos ⟨by omega, h3⟩, if_pos h3, show j + (q - s) = j + q - s by omega]
        · rw [if_neg (fun z => h3 z.2), if_neg h3]
  · have hd : x7 = Int32.ofNat (s - q) := by
      have : Int32.ofNat (s - q) + Int32.ofNat q = Int32.ofNat s := by rw [i32_add]; congr 1; omega
      rw [← hws, hw] at this
      grind
    obtain ⟨r2, k1, k2⟩ := c12_rows84 (μ := μ) (s := s) (x := x) (y := y) (z := z) (u := u) (v := v) (w := w) hd (by omega) hs2 hws hr h01
    rw [if_neg (fun z => h1 (z0.mp z)), stp, f12_replaces_j84, k1, bnd_some]
    refine ⟨r2, rfl, hws, fun j hj => ?_, fun j j1 j2 => ?_⟩
    · rw [k2, if_neg (by omega)]
    · rw [k2]
      by_cases h3 : j < 300
      · rw [if_pos ⟨by omega, h3⟩, if_pos h3, if_pos (by omega)]
        congr 1
        omega
      · rw [if_neg (fun z => h3 z.2), if_neg h3]
theorem c12_lettersMid {g : Nat → Int32} {x y z u x8 : Int32} {p q l N : Nat} (hy : y = Int32.ofNat p) (hz : z = Int32.ofNat q) (hpq : p ≤ q) (hqN : q ≤ N) (hN : N ≤ 3000) (hN' : N - (q - p) + l ≤ 3000) (hr : aI μ 2018 = g) (h5 : fI μ 2017 5 = Int32.ofNat N) (h8 : x8 = Int32.ofNat l - (z - y)) : ∃ g2, (if x8 ≤ 0 then stp z fun x9_24 => f12_replaces_j270 x μ y z u x8 x9_24 else stp ((fI μ 2017 5) - (1 : Int32)) fun x9_25 => f12_replaces_j235 x μ y z u x8 x9_25) = f12_replaces_j302 x (rA μ 2018 g2) y z u x8 ∧ (∀ j, j < p → g2 j = g j) ∧ ∀ j, p + l ≤ j → j < N - (q - p) + l → g2 j = g (j - (p + l) + q) := by
  have z0 : x8 ≤ 0 ↔ p + l ≤ q := by
    rw [h8, hz, hy]
    grind
  by_cases h1 : p + l ≤ q
  · have hd : x8 + Int32.ofNat (q - (p + l)) = 0 := by
      have : Int32.ofNat (q - (p + l)) + (Int32.ofNat p + Int32.ofNat l) = Int32.ofNat q := by rw [i32_add, i32_add]; congr 1; omega
      rw [h8, hz, hy, ← this]
      grind
    obtain ⟨g2, k1, k2⟩ := c12_rows270 (μ := μ) (x := x) (y := y) (z := z) (u := u) hd (by omega) hqN hN h5 hr
    rw [if_pos (z0.mpr h1), stp, f12_replaces_j270]
    subst hz
    rw [k1, bnd_some]
    refine ⟨g2, rfl, fun j hj => ?_, fun j j1 j2 => ?_⟩
    · rw [k2, if_neg (by omega)]
    · rw [k2, if_pos (by omega)]
      congr 1
      omega
  · have hd : x8 = Int32.ofNat (p + l - q) := by
      have : Int32.ofNat (p + l - q) + Int32.ofNat q = Int32.ofNat p + Int32.ofNat l := by rw [i32_add, i32_add]; congr 1; omega
      rw [h8, hz, hy]
      grind
    obtain ⟨g2, k1, k2⟩ := c12_rows235 (μ := μ) (x := x) (y := y) (u := u) hd hz hqN (by omega) (by omega) hr
    rw [if_neg (fun z => h1 (z0.mp z)), stp, h5, f12_replaces_j235, k1, bnd_some]
    refine ⟨g2, rfl, fun j hj => ?_, fun j j1 j2 => ?_⟩
    · rw [k2, if_neg (by omega)]
    · rw [k2, if_pos (by omega)]
      congr 1
      omega
theorem c12_replaces {F : Nat → Int32} {N c : Nat} {hd : Nat → Int32} {cu : Nat → Nat} {ma lf ml : Nat → Int32} (m : SM μ (F, N, hd, c, cu, ma, lf, ml)) (pr : PRp μ K a b l X) {k p q e N' : Nat} {x : Nat → Int32} (hk : k < K) (ha : a k = p) (hb : b k = q) (hl : l k = e) (hx : X k = x) (hpq : p ≤ q) (hqN : q ≤ N) (eN : N' = N - (q - p) + e) (hN' : N' ≤ 3000) (hE : ends F N < 300) (hE' : ends (sp F p q e x) N' < 300) (h0 : hd 0 = 0) (h01 : ∀ j, j ≤ ends F N → hd j = 0 ∨ hd j = 1) (hc : c ≤ 8) (hcu : ∀ i, i < c → cu i ≤ N) (hma : ∀ i, i < 16 → ma i = -1 ∨ ∃ p, p ≤ N ∧ ma i = Int32.ofNat p) : ∃ μ' h1, f12_replaces μ (Int32.ofNat k) = some μ' ∧ OP (fun t => ends F p ≤ t ∧ t ≤ ends F q) hd (ends F N + 1) h1 ∧ SM μ' (sp F p q e x, N', (fun j => if j ≤ ends F p then h1 j else if j ≤ ends F p + ends x e then 0 else h1 (j + ends F q - (ends F p + ends x e))), c, (fun i => mvp p q e 0 (cu i)), (fun i => mvM p q e (ml i) (ma i)), lf, ml) ∧ PRp μ' K a b l X ∧ mfr μ μ' := by
  subst ha hb hl hx
  obtain ⟨m1, m2, ⟨m3, m4⟩, m5, m6⟩ := m
  have hN := m1.1
  obtain ⟨p1, p2, s, p3⟩ := id pr
  obtain ⟨q1, q2, q3, q4, q5, q6⟩ := p3 k hk
  have ea := ends_mono (f := F) hpq
  have eb := ends_mono (f := F) hqN
  have hE3 : ends (sp F (a k) (b k) (l k) (X k)) N' + ends F (b k) = ends F (a k) + ends (X k) (l k) + ends F N := by
    have := ends_sp3 (f := F) (a := a k) (b := b k) (l := l k) (x := X k) (i := N - b k)
    rw [show a k + l k + (N - b k) = N' by omega, show b k + (N - b k) = N by omega] at this
    exact this
  have hs300 : ends F (a k) + ends (X k) (l k) < 300 := by omega
  obtain ⟨r1, h1, k1, k2, k3⟩ := c12_opensRange (μ := μ) (m := ends F N + 1) (lo := ends F (a k)) (hi := ends F (b k)) (x := Int32.ofNat k) (y := Int32.ofNat (a k)) (z := Int32.ofNat (b k)) (u := Int32.ofNat (l k)) (v := Int32.ofNat (ends F (a k))) (by omega) h0 (fun j hj => by rw [m2 j hj]; simp only [Nat.lt_succ_iff]) ea (by omega)
  have h1z : ∀ j, j ≤ ends F N → h1 j = 0 ∨ h1 j = 1 := fun j hj => by
    rcases k2.or j (by omega) with w | w
    · rw [w]; exact h01 j hj
    · exact Or.inl w
  have r1z : ∀ j, j < 301 → r1 j = 0 ∨ r1 j = 1 := fun j hj => by
    rw [k3 j hj]
    by_cases w : j < ends F N + 1
    · rw [if_pos w]; exact h1z j (by omega)
    · rw [if_neg w]; exact Or.inl rfl
  have pr1 : PRp (rA μ 2022 r1) K a b l X := pr.congr rfl (fun r x1 x2 => aI_rA' (by omega))
  generalize h7 : Int32.ofNat (ends (X k) (l k)) - (Int32.ofNat (ends F (b k)) - Int32.ofNat (ends F (a k))) = x7
  obtain ⟨r2, k4, k5, k6, k7⟩ := c12_rowsMid (μ := rA μ 2022 r1) (x := Int32.ofNat k) (y := Int32.ofNat (a k)) (z := Int32.ofNat (b k)) (u := Int32.ofNat (l k)) (e := ends (X k) (l k)) rfl rfl ea (by omega) rfl hs300 (by rw [aI_rA, if_pos rfl]) r1z h7.symm
  obtain ⟨r3, k8, k9⟩ := c12_rows190 (μ := rA μ 2022 r2) (r0 := r2) (p := ends F (a k)) (s := ends F (a k) + ends (X k) (l k)) (x := Int32.ofNat k) (y := Int32.ofNat (a k)) (z := Int32.ofNat (b k)) (u := Int32.ofNat (l k)) (by omega) hs300 k5 (by rw [aI_rA, if_pos rfl])
  generalize h8 : Int32.ofNat (l k) - (Int32.ofNat (b k) - Int32.ofNat (a k)) = x8
  obtain ⟨g2, j1, j2, j3⟩ := c12_lettersMid (μ := rA μ 2022 r3) (g := aI μ 2018) (x := Int32.ofNat k) (u := Int32.ofNat (l k)) rfl rfl hpq hqN hN (by omega) rfl m1.2.1 h8.symm
  obtain ⟨g3, j4, j5⟩ := c12_rows305 (μ := rA (rA μ 2022 r3) 2018 g2) (pr.congr rfl (fun r x1 x2 => by rw [aI_rA' (by omega), aI_rA' (by omega)])) hk (r0 := g2) (p := a k) (z := Int32.ofNat (b k)) (x8 := x8) (by omega) (by rw [aI_rA, if_pos rfl])
  rw [rA_rA] at j4
  have e8 : Int32.ofNat N + x8 = Int32.ofNat N' := by
    rw [← h8, eN]
    have : Int32.ofNat N + Int32.ofNat (l k) + Int32.ofNat (a k) = Int32.ofNat (N - (b k - a k) + l k) + Int32.ofNat (b k) := by
      rw [i32_add, i32_add, i32_add]
      congr 1
      omega
    grind
  generalize hM : uI (rA (rA μ 2022 r3) 2018 g3) 2017 5 (Int32.ofNat N') = M
  have M6 : fI M 2017 6 = Int32.ofNat c := by rw [← hM]; exact m3
  have M19 : aI M 2019 = aI μ 2019 := by rw [← hM]; rfl
  have M20 : aI M 2020 = aI μ 2020 := by rw [← hM]; rfl
  have M21 : aI M 2021 = aI μ 2021 := by rw [← hM]; rfl
  obtain ⟨g4, j6, j7⟩ := c12_rows355 (μ := M) (x := Int32.ofNat k) hpq (by omega) (by omega : l k ≤ 3200) hc M6 (fun i hi => by rw [M19]; exact m4 i hi) (fun i hi => by have := hcu i hi; omega)
  obtain ⟨g5, j8, j9⟩ := c12_rows395 (μ := rA M 2019 g4) (x := Int32.ofNat k) (ma := ma) (ml := ml) hpq (by omega) (by omega : l k ≤ 3200) (fun i hi => by rw [aI_rA' (by omega), M20]; exact m5 i hi) (fun i hi => by rw [aI_rA' (by omega), M21]; exact m6 i hi) (fun i hi => by
    rcases hma i hi with w | ⟨w, w1, w2⟩
    · exact Or.inl w
    · exact Or.inr ⟨w, by omega, w2⟩)
  have eAll : f12_replaces μ (Int32.ofNat k) = some (rA (rA M 2019 g4) 2020 g5) := by
    unfold f12_replaces
    simp only [inb_n (show k < 3001 by omega) (by omega), gd_true, ofNat_clamp (show k < 2147483648 by omega), q1, q2, q4, stp, c12_lineAt m1 rfl (show a k ≤ N by omega), c12_lineAt m1 rfl hqN, bnd_some]
    rw [f12_replaces_j40, k1, bnd_some, c12_endsIn pr1 rfl hk, bnd_some, stp, h7, k4, rA_rA, f12_replaces_j184, stp, i32_succ, f12_replaces_j190, k8, bnd_some, stp, h8, rA_rA, j1, f12_replaces_j302, stp, f12_replaces_j305, j4, bnd_some, stp]
    have e5 : fI (rA (rA μ 2022 r3) 2018 g3) 2017 5 = Int32.ofNat N := m1.2.1
    rw [e5, e8, hM, stp, f12_replaces_j355, j6, bnd_some, stp, f12_replaces_j395, j8, bnd_some]
  refine ⟨_, h1, eAll, k2, ⟨⟨hN', ?_, fun i hi => ?_⟩, fun j hj => ?_, ⟨?_, fun i hi => ?_⟩, fun i hi => ?_, fun i hi => ?_⟩, ?_, ?_⟩
  · show fI M 2017 5 = _
    rw [← hM]
    rfl
  · show aI (rA (rA M 2019 g4) 2020 g5) 2018 i = _
    rw [aI_rA' (by omega), aI_rA' (by omega), ← hM]
    show aI (rA (rA μ 2022 r3) 2018 g3) 2018 i = _
    rw [aI_rA, if_pos rfl, j5, sp]
    by_cases c1 : i < a k
    · rw [if_neg (by omega), if_pos c1, j2 i c1]
      exact m1.2.2 i (by omega)
    · by_cases c2 : i < a k + l k
      · rw [if_pos (by omega), if_neg c1, if_pos c2]
      · rw [if_neg (by omega), if_neg c1, if_neg c2, j3 i (by omega) (by omega)]
        exact m1.2.2 _ (by omega)
  · show aI (rA (rA M 2019 g4) 2020 g5) 2022 j = _
    rw [aI_rA' (by omega), aI_rA' (by omega), ← hM]
    show aI (rA (rA μ 2022 r3) 2018 g3) 2022 j = _
    rw [aI_rA' (by omega), aI_rA, if_pos rfl, k9]
    by_cases c1 : j ≤ ends F (a k)
    · rw [if_neg (by omega), if_pos (by omega), k6 j c1, k3 j hj, if_pos (by omega)]
      simp only [if_pos c1]
    · by_cases c2 : j ≤ ends F (a k) + ends (X k) (l k)
      · rw [if_pos (by omega), if_pos (by omega)]
        simp only [if_neg c1, if_pos c2]
      · rw [if_neg (by omega), k7 j (by omega) hj]
        by_cases c3 : j ≤ ends (sp F (a k) (b k) (l k) (X k)) N'
        · rw [if_pos (by omega), if_pos (by omega), if_pos c3, k3 _ (by omega), if_pos (by omega)]
          simp only [if_neg c1, if_neg c2]
        · rw [if_neg c3]
          by_cases c4 : j < 300
          · rw [if_pos c4]
            by_cases c5 : j + ends F (b k) - (ends F (a k) + ends (X k) (l k)) < 300
            · rw [if_pos c5, k3 _ (by omega), if_neg (by omega)]
            · rw [if_neg c5]
          · rw [if_neg c4, k3 j hj, if_neg (by omega)]
  · show fI M 2017 6 = _
    exact M6
  · show aI (rA (rA M 2019 g4) 2020 g5) 2019 i = _
    rw [aI_rA' (by omega), aI_rA, if_pos rfl]
    exact j7 i hi
  · rw [aI_rA, if_pos rfl]
    exact j9 i hi
  · show aI (rA (rA M 2019 g4) 2020 g5) 2021 i = _
    rw [aI_rA' (by omega), aI_rA' (by omega), M21]
    exact m6 i hi
  · refine pr.congr ?_ (fun r x1 x2 => ?_)
    · show fI M 2017 27 = _
      rw [← hM]
      rfl
    · rw [aI_rA' (by omega), aI_rA' (by omega), ← hM]
      show aI (rA (rA μ 2022 r3) 2018 g3) r = _
      rw [aI_rA' (by omega), aI_rA' (by omega)]
  · refine mfr.trans (mfr.trans ?_ (mfr.rA (by omega))) (mfr.rA (by omega))
    rw [← hM]
    exact mfr.trans (mfr.trans (mfr.rA (by omega)) (mfr.rA (by omega))) (mfr.uI (by omega))
end R
