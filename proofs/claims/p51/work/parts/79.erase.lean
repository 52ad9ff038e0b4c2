/-! erasing -/
theorem imax_n {x y : Nat} (hx : x < 2147483648) (hy : y < 2147483648) : imax (Int32.ofNat x) (Int32.ofNat y) = Int32.ofNat (max x y) := by
  unfold imax
  simp only [i32n_lt hx hy]
  by_cases h : x < y
  · rw [if_pos h, Nat.max_eq_right (by omega)]
  · rw [if_neg h, Nat.max_eq_left (by omega)]
theorem imin_n {x y : Nat} (hx : x < 2147483648) (hy : y < 2147483648) : imin (Int32.ofNat x) (Int32.ofNat y) = Int32.ofNat (min x y) := by
  unfold imin
  simp only [i32n_lt hy hx]
  by_cases h : y < x
  · rw [if_pos h, Nat.min_eq_right (by omega)]
  · rw [if_neg h, Nat.min_eq_left (by omega)]
theorem more_n {x y : Nat} (hx : x < 2147483648) (hy : y < 2147483648) : f12_more (Int32.ofNat x) (Int32.ofNat y) = some (Int32.ofNat (max x y)) := by
  rw [c12_more]
  exact congrArg some (imax_n hx hy)
theorem less_n {x y : Nat} (hx : x < 2147483648) (hy : y < 2147483648) : f12_less (Int32.ofNat x) (Int32.ofNat y) = some (Int32.ofNat (min x y)) := by
  rw [c12_less]
  simp only [i32n_lt hx hy]
  by_cases h : x < y
  · rw [if_pos h, Nat.min_eq_left (by omega)]
  · rw [if_neg h, Nat.min_eq_right (by omega)]
/-- from where to where a cursor's part reaches, at least and at most -/
def erL (x : Int32) (p : Nat) : Nat := if 0 ≤ x then p else p - (-x).toNatClampNeg
def erH (x : Int32) (n p : Nat) : Nat := if 0 ≤ x then min n (p + x.toNatClampNeg) else p
theorem er_c {x : Int32} (h1 : -100 ≤ x) (h2 : x ≤ 100) {p n lc : Nat} (hp : p ≤ n) (hn : n ≤ 3000) (hl : lc ≤ n) : imax (Int32.ofNat lc) (Int32.ofNat p + imin x 0) = Int32.ofNat (max lc (erL x p)) ∧ imax (Int32.ofNat lc) (imin (Int32.ofNat n) (Int32.ofNat p + imax x 0)) = Int32.ofNat (max lc (erH x n p)) := by
  unfold erL erH
  by_cases h : 0 ≤ x
  · obtain ⟨d, hd, rfl⟩ := of_range (n := 100) ⟨h, h2⟩ (by decide)
    rw [if_pos h, if_pos h, ofNat_clamp (by omega)]
    have e1 : imin (Int32.ofNat d) 0 = 0 := by
      unfold imin
      split
      · rfl
      · grind
    have e2 : imax (Int32.ofNat d) 0 = Int32.ofNat d := by
      unfold imax
      split
      · grind
      · rfl
    rw [e1, e2, show Int32.ofNat p + 0 = Int32.ofNat p by grind, imax_n (by omega) (by omega), i32_add, imin_n (by omega) (by omega), imax_n (by omega) (by omega)]
    exact ⟨rfl, rfl⟩
  · rw [if_neg h, if_neg h]
    obtain ⟨d, hd, e⟩ := of_range (x := -x) (n := 100) ⟨by grind, by grind⟩ (by decide)
    have e0 : x = -Int32.ofNat d := by grind
    have d0 : d ≠ 0 := by
      rintro rfl
      grind
    rw [e, ofNat_clamp (by omega), e0]
    have e1 : imin (-Int32.ofNat d) 0 = -Int32.ofNat d := by
      unfold imin
      split
      · grind
      · rfl
    have e2 : imax (-Int32.ofNat d) 0 = 0 := by
      unfold imax
      split
      · rfl
      · grind
    rw [e1, e2, show Int32.ofNat p + 0 = Int32.ofNat p by grind, imin_n (by omega) (by omega), imax_n (by omega) (by omega), Nat.min_eq_right hp]
    refine ⟨?_, rfl⟩
    by_cases c : d ≤ p
    · rw [show Int32.ofNat p + -Int32.ofNat d = Int32.ofNat (p - d) by rw [← i32_sub c]; grind, imax_n (by omega) (by omega)]
    · rw [show p - d = 0 by omega, Nat.max_zero]
      unfold imax
      rw [if_neg (by grind)]
theorem er_m {x : Int32} (h1 : -100 ≤ x) (h2 : x ≤ 100) {p lr : Nat} (hp : p ≤ 3000) (hl : lr ≤ 3000) (hx : ¬ 0 ≤ x) : ∃ v, f12_more 0 (Int32.ofNat p + x) = some v ∧ f12_more (Int32.ofNat lr) v = some (Int32.ofNat (max lr (erL x p))) := by
  unfold erL
  rw [if_neg hx]
  obtain ⟨d, hd, e⟩ := of_range (x := -x) (n := 100) ⟨by grind, by grind⟩ (by decide)
  have e0 : x = -Int32.ofNat d := by grind
  rw [e, ofNat_clamp (by omega), e0]
  by_cases c : d ≤ p
  · rw [show Int32.ofNat p + -Int32.ofNat d = Int32.ofNat (p - d) by rw [← i32_sub c]; grind]
    exact ⟨_, more_n (x := 0) (y := p - d) (by omega) (by omega), by rw [Nat.zero_max, more_n (by omega) (by omega)]⟩
  · refine ⟨0, ?_, ?_⟩
    · rw [c12_more, if_neg (by grind)]
    · rw [show p - d = 0 by omega]
      exact more_n (y := 0) (by omega) (by omega)
theorem erLH {x : Int32} {n p p' : Nat} (h : p ≤ p') (hn : p' ≤ n) : erL x p ≤ erL x p' ∧ erH x n p ≤ n ∧ erL x p ≤ n := by
  unfold erL erH
  split <;> omega
theorem JP.u42 {σ0 μ0 σ μ : Sto} {n K q w : Nat} {a b l : Nat → Nat} {G : Nat → Int32} {v : Int32} (j : JP σ0 μ0 σ μ n K q a b l G w) : JP σ0 μ0 σ (uI μ 2017 42 v) n K q a b l G w := by
  obtain ⟨j1, ⟨j5, j6, j7, j8⟩, j9, j13, j14⟩ := j
  refine ⟨j1, ⟨fun k k1 k2 k3 => ?_, j6, ?_, ?_⟩, j9, j13, j14⟩
  · rw [fI_uI, if_pos rfl, if_neg k3]
    exact j5 k k1 k2 k3
  · rw [fI_uI, if_pos rfl, if_neg (by decide)]
    exact j7
  · rw [fI_uI, if_pos rfl, if_neg (by decide)]
    exact j8
theorem steps42 {μ μ' : Sto} {n m : Nat} (hn : fI μ 2017 50 = Int32.ofNat n) (hn2 : n ≤ 40) (hm : fI μ 2017 11 = Int32.ofNat m) (hm2 : m ≤ 200) {x y z : Int32} (h : f12_steps μ x y z = some μ') : fI μ' 2017 42 = fI μ 2017 42 := by
  obtain ⟨r, r1, _⟩ := c12_stepsR (μ := μ) hn hn2 hm hm2 (x := x) (y := y) (z := z)
  rw [r1] at h
  by_cases c : fI μ 2017 51 = 0 ∨ n = 40
  · rw [if_pos c] at h
    rw [Option.some.inj h]
  · rw [if_neg c] at h
    rw [← Option.some.inj h, fI_uI, if_pos rfl, if_neg (by decide)]
    rfl
theorem er_body {x : Int32} (h1 : -100 ≤ x) (h2 : x ≤ 100) {M : Sto} {n c k p lr : Nat} (hc : fI M 2017 6 = Int32.ofNat c) (hcc : c ≤ 8) (hk : k < c) (hn : fI M 2017 5 = Int32.ofNat n) (hn2 : n ≤ 3000) (hp : aI M 2019 k = Int32.ofNat p) (hpn : p ≤ n) (hl : lr ≤ n) : f12_erases_b13 x M (Int32.ofNat lr) (Int32.ofNat k) = if erH x n p ≤ max lr (erL x p) then some (.inl (M, Int32.ofNat lr, Int32.ofNat (k + 1))) else bnd (f12_adds M (Int32.ofNat (max lr (erL x p))) (Int32.ofNat (erH x n p)) 0 0) fun p2 => some (.inl (uI p2 2017 42 (fI p2 2017 42 + (Int32.ofNat (erH x n p) - Int32.ofNat (max lr (erL x p)))), Int32.ofNat (erH x n p), Int32.ofNat (k + 1))) := by
  have hi := inb_n (show k < 8 by omega) (show (8 : Nat) < 2147483648 by omega)
  have tail : f12_erases_j80 x M (Int32.ofNat lr) (Int32.ofNat k) (Int32.ofNat (max lr (erL x p))) (Int32.ofNat (erH x n p)) = if erH x n p ≤ max lr (erL x p) then some (.inl (M, Int32.ofNat lr, Int32.ofNat (k + 1))) else bnd (f12_adds M (Int32.ofNat (max lr (erL x p))) (Int32.ofNat (erH x n p)) 0 0) fun p2 => some (.inl (uI p2 2017 42 (fI p2 2017 42 + (Int32.ofNat (erH x n p) - Int32.ofNat (max lr (erL x p)))), Int32.ofNat (erH x n p), Int32.ofNat (k + 1))) := by
    have := erLH (x := x) (Nat.le_refl p) hpn
    unfold f12_erases_j80 f12_erases_j116
    rw [stp]
    simp only [i32_le (show erH x n p < 2147483648 by omega) (show max lr (erL x p) < 2147483648 by omega), i32_succ]
    rfl
  unfold f12_erases_b13
  rw [hc]
  simp only [i32_le (show c < 2147483648 by omega) (show k < 2147483648 by omega), ofNat_clamp (show k < 2147483648 by omega), if_neg (show ¬ c ≤ k by omega), hi, gd_true, hp]
  by_cases hx : 0 ≤ x
  · rw [if_pos hx]
    unfold f12_erases_j47
    rw [more_n (by omega) (by omega), bnd_some, stp, if_pos hx, ofNat_clamp (by omega), hi, gd_true, hp, hn]
    have e1 : erL x p = p := by unfold erL; rw [if_pos hx]
    obtain ⟨d, hd, rfl⟩ := of_range (n := 100) ⟨hx, h2⟩ (by decide)
    rw [i32_add, less_n (by omega) (by omega), bnd_some]
    have e2 : erH (Int32.ofNat d) n p = min n (p + d) := by unfold erH; rw [if_pos hx, ofNat_clamp (by omega)]
    rw [e1, e2] at tail
    rw [e1, e2]
    exact tail
  · rw [if_neg hx]
    obtain ⟨v, v1, v2⟩ := er_m h1 h2 (p := p) (lr := lr) (by omega) (by omega) hx
    unfold f12_erases_j47
    rw [v1, bnd_some, v2, bnd_some, stp, if_neg hx, hi, gd_true, ofNat_clamp (by omega), hp]
    have e2 : erH x n p = p := by unfold erH; rw [if_neg hx]
    rw [e2] at tail ⊢
    exact tail
theorem er_bodyC {x : Int32} (h1 : -100 ≤ x) (h2 : x ≤ 100) {M : Sto} {n c k p lc : Nat} (hc : fI M 1 6 = Int32.ofNat c) (hcc : c ≤ 8) (hk : k < c) (hn : fI M 1 1 = Int32.ofNat n) (hn2 : n ≤ 3000) (hp : aI M 5 k = Int32.ofNat p) (hpn : p ≤ n) (hl : lc ≤ n) : f11_planErasing_b20 x M (Int32.ofNat lc) (Int32.ofNat k) = if erH x n p ≤ max lc (erL x p) then some (.inl (M, Int32.ofNat (max lc (erH x n p)), Int32.ofNat (k + 1))) else bnd (f1_addPart M (Int32.ofNat (max lc (erL x p))) (Int32.ofNat (erH x n p)) 0) fun p2 => some (.inl (p2, Int32.ofNat (erH x n p), Int32.ofNat (k + 1))) := by
  have hi := inb_n (show k < 8 by omega) (show (8 : Nat) < 2147483648 by omega)
  obtain ⟨e1, e2⟩ := er_c h1 h2 hpn hn2 hl
  have := erLH (x := x) (Nat.le_refl p) hpn
  unfold f11_planErasing_b20 f11_planErasing_j96
  rw [hc]
  simp only [i32_le (show c < 2147483648 by omega) (show k < 2147483648 by omega), ofNat_clamp (show k < 2147483648 by omega), if_neg (show ¬ c ≤ k by omega), hi, gd_true, hp]
  rw [stp, e1, stp, hn, e2, stp]
  simp only [i32_le (show max lc (erH x n p) < 2147483648 by omega) (show max lc (erL x p) < 2147483648 by omega)]
  by_cases q : erH x n p ≤ max lc (erL x p)
  · rw [if_pos q, if_pos (by omega), stp, i32_succ]
  · rw [if_neg q, if_neg (by omega), i32_succ, show max lc (erH x n p) = erH x n p by omega]
    rfl
section R
variable {σ μ σ1 μ1 : Sto} {L B H : Nat} {f : Nat → Int32} {n c K q w : Nat} {hd : Nat → Int32} {cu : Nat → Nat} {ma lf ml : Nat → Int32} {T : Hst} {a b l : Nat → Nat} {G : Nat → Int32} {o : Int64}
theorem plan_erasing (g : GD (f, n, hd, c, cu, ma, lf, ml)) (s : SC σ 1 L B H (f, n, hd, c, cu, ma, lf, ml)) (m : SM μ (f, n, hd, c, cu, ma, lf, ml)) (j : JP σ μ σ1 μ1 n 0 0 a b l G 0) (h42 : fI μ1 2017 42 = 0) {x : Int32} (hx1 : -100 ≤ x) (hx2 : x ≤ 100) : ∃ K q a b l σ2 μ2, f11_planErasing_j20 x σ1 0 0 = some σ2 ∧ loopF (fun s_13 => f12_erases_b13 x s_13.1 s_13.2.1 s_13.2.2) FU (μ1, 0, 0) = some μ2 ∧ JP σ μ σ2 μ2 n K q a b l G 0 ∧ (∀ k, k < K → l k = 0) ∧ fI μ2 2017 42 = Int32.ofNat (sg (fun k => b k - a k) K) := by
  have hc := g.2.2.2.2.2.1
  have hn := g.1
  have hcu := g.2.2.2.2.2.2.2.1
  have hsc := g.2.2.2.2.2.2.1
  have key : ∃ r r', loopF (fun s_13 => f11_planErasing_b20 x s_13.1 s_13.2.1 s_13.2.2) FU (σ1, 0, 0) = some r ∧ loopF (fun s_13 => f12_erases_b13 x s_13.1 s_13.2.1 s_13.2.2) FU (μ1, 0, 0) = some r' ∧ ∃ K q a b l, JP σ μ r r' n K q a b l G 0 ∧ (∀ k, k < K → l k = 0) ∧ fI r' 2017 42 = Int32.ofNat (sg (fun k => b k - a k) K) := by
    refine loop2 c (fun k s s' => ∃ S M lc lr K q a b l, s = (S, Int32.ofNat lc, Int32.ofNat k) ∧ s' = (M, Int32.ofNat lr, Int32.ofNat k) ∧ JP σ μ S M n K q a b l G 0 ∧ K ≤ k ∧ (lc ≤ n ∧ lr ≤ n ∧ q ≤ lr) ∧ (∀ i, k ≤ i → i < c → max lc (erL x (cu i)) = max lr (erL x (cu i))) ∧ (∀ k, k < K → l k = 0) ∧ fI M 2017 42 = Int32.ofNat (sg (fun k => b k - a k) K)) ?_ 0 ⟨σ1, μ1, 0, 0, 0, 0, a, b, l, rfl, rfl, j, Nat.le_refl _, ⟨by omega, by omega, by omega⟩, fun _ _ _ => rfl, fun k hk => by omega, h42⟩ (by omega) (by (show _ < FU; unfold FU; omega)) (by (show _ < FU; unfold FU; omega))
    rintro k s s' hk ⟨S, M, lc, lr, K, q, a, b, l, rfl, rfl, j, hK, ⟨hl1, hl2, hl3⟩, hmx, hl0, hs⟩
    obtain ⟨f1, f2, f3, f4, f5⟩ := j.frC s m
    show (∃ t t', f11_planErasing_b20 x S (Int32.ofNat lc) (Int32.ofNat k) = _ ∧ f12_erases_b13 x M (Int32.ofNat lr) (Int32.ofNat k) = _ ∧ _) ∨ ∃ r r', f11_planErasing_b20 x S (Int32.ofNat lc) (Int32.ofNat k) = _ ∧ f12_erases_b13 x M (Int32.ofNat lr) (Int32.ofNat k) = _ ∧ _
    by_cases hq2 : c ≤ k
    · have e1 : f11_planErasing_b20 x S (Int32.ofNat lc) (Int32.ofNat k) = some (.inr S) := by
        unfold f11_planErasing_b20
        rw [f1, if_pos ((i32_le (by omega) (by omega)).mpr hq2)]
      have e2 : f12_erases_b13 x M (Int32.ofNat lr) (Int32.ofNat k) = some (.inr M) := by
        unfold f12_erases_b13
        rw [f2, if_pos ((i32_le (by omega) (by omega)).mpr hq2)]
      rw [e1, e2]
      exact Or.inr ⟨_, _, rfl, rfl, K, q, a, b, l, j, hl0, hs⟩
    · have hkc : k < c := by omega
      have hpn := hcu k hkc
      rw [er_bodyC hx1 hx2 f1 hc.2 hkc f3 hn (f5 k hkc).1 hpn hl1, er_body hx1 hx2 f2 hc.2 hkc f4 hn (f5 k hkc).2 hpn hl2, hmx k (Nat.le_refl _) hkc]
      have hm0 := hmx k (Nat.le_refl _) hkc
      have hLH := erLH (x := x) (Nat.le_refl (cu k)) hpn
      by_cases hz : erH x n (cu k) ≤ max lr (erL x (cu k))
      · rw [if_pos hz, if_pos hz]
        refine Or.inl ⟨_, _, rfl, rfl, by omega, S, M, _, _, K, q, a, b, l, rfl, rfl, j, by omega, ⟨by omega, hl2, hl3⟩, fun i h1 h2 => ?_, hl0, hs⟩
        have h3 := hmx i (by omega) h2
        have h4 := (erLH (x := x) (Nat.le_of_lt (hsc k i (by omega) h2)) (hcu i h2)).1
        omega
      · rw [if_neg hz, if_neg hz]
        obtain ⟨S', M', a', b', l', k1, k2, k3, k4, k5, k6, k7, k8, k9⟩ := j.add (p := max lr (erL x (cu k))) (r := erH x n (cu k)) (e := 0) (by omega) (by omega) (by omega) hLH.2.1 hn (Nat.le_refl _)
        have hnx : nxK K (max lr (erL x (cu k))) (erH x n (cu k)) 0 = K + 1 := by
          unfold nxK
          rw [if_neg (by omega)]
        rw [hnx] at k3 k5
        obtain ⟨y1, y2, y3⟩ := k5 (by omega)
        have k1 : f1_addPart S (Int32.ofNat (max lr (erL x (cu k)))) (Int32.ofNat (erH x n (cu k))) 0 = some S' := k1
        have k2 : f12_adds M (Int32.ofNat (max lr (erL x (cu k)))) (Int32.ofNat (erH x n (cu k))) 0 0 = some M' := k2
        rw [k1, k2, bnd_some, bnd_some]
        refine Or.inl ⟨_, _, rfl, rfl, by omega, S', _, _, _, K + 1, erH x n (cu k), a', b', l', rfl, rfl, k3.u42, by omega, ⟨hLH.2.1, hLH.2.1, Nat.le_refl _⟩, fun _ _ _ => rfl, fun i hi => ?_, ?_⟩
        · by_cases e : i < K
          · rw [(k4 i e).2.2]
            exact hl0 i e
          · rw [show i = K by omega, y3]
        · rw [fI_uI, if_pos rfl, if_pos rfl, k6, hs, i32_sub (by omega), i32_add]
          show _ = Int32.ofNat (sg (fun k => b' k - a' k) K + (b' K - a' K))
          rw [y1, y2, sg_ext (h := fun k => b' k - a' k) (h' := fun k => b k - a k) (fun k hk => by rw [(k4 k hk).1, (k4 k hk).2.1])]
  obtain ⟨r, r', k1, k2, K, q, a, b, l, k3, k4, k5⟩ := key
  refine ⟨K, q, a, b, l, r, r', ?_, k2, k3, k4, k5⟩
  unfold f11_planErasing_j20
  rw [k1, bnd_some]
theorem op_erase (h : Rel σ μ) {x : Int32} : stH (f11_erase σ x) [(2, 1), (3, 2)] o (f12_erase μ x) RQ := by
  obtain ⟨⟨f, n, hd, c, cu, ma, lf, ml⟩, L, B, H, T, h0⟩ := id h
  unfold f11_erase f11_erase_j12 f12_erase
  simp only [c12_in, c12_refuse, bnd_some, ite_tz, decide_eq_true_eq]
  by_cases hx0 : x < -100
  · rw [if_pos hx0, if_neg (by grind)]
    exact stH_er (c := 2) (t := 1) rfl (by decide) (by decide) rfl h
  rw [if_neg hx0]
  by_cases hx1 : x ≤ 100
  · rw [if_pos hx1, if_pos (by grind)]
    obtain ⟨r, k1, k2⟩ := c1_begin (σ := σ) (a1 := 9) (s := 0) (m := 0) (x := 0) (y := 0) rfl rfl (by omega) (by omega) (by omega) (fun i hi => by omega)
    have j : JP σ μ (uI (rA (uI (uI σ 13 4 0) 13 6 0) 19 r) 18 1 (Int32.ofNat 0)) (uI (uI (rA (uI μ 2017 27 0) 2033 (aI (uI μ 2017 27 0) 2033)) 2017 28 (Int32.ofNat 0)) 2017 42 0) n 0 0 (fun _ => 0) (fun _ => 0) (fun _ => 0) (fun _ => 0) 0 := (JP.zero (w := 0) (m := 0) (G := fun _ => 0) (by omega) (by omega) (fun i hi => by omega)).u42
    obtain ⟨K, q, a, b, l, σ2, μ2, p1, p2, p3, p4, p5⟩ := plan_erasing h0.1 h0.2.1 h0.2.2.1 j rfl (x := x) (by grind) hx1
    obtain ⟨r, σ3, μ3, D', L', B', H', T', v1, v2, v3, v4, v5, v6, v7, v8, v9⟩ := act_of (P := RT) h0 p3 (Or.inr (fun k hk => by rw [p4 k hk]; omega)) (Or.inr (fun k hk => by
      rw [p4 k hk]
      have := ends_mono (f := f) (p3.2.2.1.2.2.1.1 k hk).1
      show ends f (a k) + 0 ≤ _
      omega))
    have v4 : Rel0 σ3 μ3 D' L' B' H' T' := v4
    have eC : f11_planErasing σ x = some σ2 := by
      unfold f11_planErasing
      rw [k1, bnd_some, stp, stp, p1]
    have eM : f12_erases μ x = some (r, μ3) := by
      unfold f12_erases f12_erases_j13
      rw [c12_begins1, bnd_some, stp, stp, stp, c12_put0, p2, bnd_some, v2, bnd_some, isB_r v3, gd_true]
    rw [stp, eC, bnd_some, v1, bnd_some, eM, bnd_some]
    rcases v3 with rfl | rfl
    · rw [if_pos rfl, if_pos rfl]
      exact stH_er (c := 3) (t := 2) rfl (by decide) (by decide) rfl ⟨_, _, _, _, _, v4⟩
    · rw [if_neg (show ¬ (1 : Int32) = 0 by decide), if_neg (show ¬ (1 : Int32) = 0 by decide)]
      obtain ⟨σ4, μ4, a1, a2, a3⟩ := addStep v4 (k := 1) (a := 0) (b := x) (u := x) (v := 0) (Or.inl ⟨rfl, rfl, by grind, hx1⟩)
      obtain ⟨tn, t1, t2, t3, t4⟩ := v4.2.2.2.2.1
      obtain ⟨sn, s1, s2, s3, s4⟩ := v4.2.2.2.2.2.2.2.2.2.1
      have e42 := steps42 s3 s1 t3 t1 a2
      simp only [a1, a2, bnd_some, c12_told]
      obtain ⟨f', n', hd', c', cu', ma', lf', ml'⟩ := D'
      have eS : fI σ4 1 1 = Int32.ofNat n' := a3.2.1.1.2.2.1
      have e0 : fI σ 1 1 = Int32.ofNat n := h0.2.1.1.2.2.1
      have hn' : n' = nA n K a b l 0 := v5 rfl
      have hsum := p3.2.2.1.2.2.1.sum (l := l)
      have hl0 : sg l K = 0 := by
        rw [sg_ext (h' := fun _ => 0) p4]
        have : ∀ K, sg (fun _ => 0) K = 0 := fun K => by
          induction K with
          | zero => rfl
          | succ K ih => show sg _ K + 0 = 0; rw [ih]
        exact this K
      rw [eS, e0, e42, v8, p5, i32_sub (by omega), show n - n' = sg (fun k => b k - a k) K by omega]
      exact stH_ok rfl rfl ⟨_, _, _, _, _, a3⟩
  · rw [if_neg hx1, if_neg (by grind)]
    exact stH_er (c := 2) (t := 1) rfl (by decide) (by decide) rfl h
end R
