/-! lines joined -/
section R
variable {σ μ σ1 μ1 : Sto} {L B H : Nat} {f : Nat → Int32} {n c K q w : Nat} {hd : Nat → Int32} {cu : Nat → Nat} {ma lf ml : Nat → Int32} {T : Hst} {a b l : Nat → Nat} {G : Nat → Int32} {o : Int64}
theorem join1 (j : JP σ μ σ1 μ1 n K q a b l G w) (hC : CT σ 1 L B f n) (hL : (L = 2 ∧ B = 3 ∧ H = 4) ∨ (L = 20 ∧ B = 21 ∧ H = 22)) (hM : MT μ f n) {bf ef : Nat → Nat} (hbe : isLn f n bf ef) {i hi : Nat} (hi1 : i < hi) (hi2 : hi ≤ ends f n) {x1 z1 : Int32} : ∃ r, f11_joinLines_b39 x1 (Int32.ofNat hi) σ1 (Int32.ofNat (i + 1)) = (bnd (f1_addPart σ1 (Int32.ofNat (ef i)) (Int32.ofNat r) 1) fun p => some (.inl (p, Int32.ofNat (i + 1 + 1)))) ∧ f12_joinLines_b45 z1 (Int32.ofNat hi) μ1 (Int32.ofNat i) = (bnd (f12_adds μ1 (Int32.ofNat (ef i)) (Int32.ofNat r) 0 1) fun p => some (.inl (p, Int32.ofNat (i + 1)))) ∧ ef i + 1 ≤ r ∧ r ≤ ef (i + 1) := by
  have hC1 := j.ct hC hL
  have hM1 := j.mt hM
  have hn := hC.1
  have hE := hC.2.1
  obtain ⟨c1, c2, c3⟩ := ct_ln hC1 hbe (j := i + 1) (by omega)
  obtain ⟨m1, m2⟩ := mt_ln hM1 hbe (j := i) (by omega)
  have hb := hbe (i + 1) (by omega)
  have hbn := bg_next hbe (j := i) (by omega)
  have hc9 := hC1.2.2.2.2.2.1
  unfold f11_joinLines_b39
  rw [if_neg (fun z => by have := (i32n_lt (by omega) (by omega)).mp z; omega), hc9.1, okr_s.mpr hc9.2.1, gd_true, Nat.add_sub_cancel, c3, gd_true, ofNat_clamp (by omega), c1, stp, hbn]
  unfold f12_joinLines_b45
  rw [if_neg (fun z => by have := (i32_le (by omega) (by omega)).mp z; omega), m2, bnd_some, stp, stp, @i32_succ (ef i)]
  unfold f12_joinLines_j63
  obtain ⟨k, k1, k2, k3, k4⟩ := blanks hC1 (p := ef i + 1) (lim := 3000) (by omega) (by omega) (gb := fun s_63 => f12_joinLines_b63 z1 (Int32.ofNat hi) μ1 (Int32.ofNat i) (Int32.ofNat (ef i)) s_63) (fun k hk => by
    show f12_joinLines_b63 z1 (Int32.ofNat hi) μ1 (Int32.ofNat i) (Int32.ofNat (ef i)) (Int32.ofNat (ef i + 1 + k)) = _
    unfold f12_joinLines_b63
    rw [hM1.2.1]
    simp only [i32_le (show n < 2147483648 by omega) (show ef i + 1 + k < 2147483648 by omega), ofNat_clamp (show ef i + 1 + k < 2147483648 by omega), i32_succ, c12_isSpace, bnd_some, ite_tz]
    by_cases q2 : n ≤ ef i + 1 + k
    · rw [if_pos q2, if_pos (Or.inr (Or.inl q2))]
    · rw [if_neg q2, inb_n (show ef i + 1 + k < 3000 by omega) (by omega), gd_true, hM1.2.2 _ (by omega)]
      by_cases q3 : isSp (f (ef i + 1 + k)) = true
      · rw [if_pos q3, if_neg (by rintro (z | z | z); omega; exact q2 z; exact z q3)]
        rfl
      · rw [if_neg q3, if_pos (Or.inr (Or.inr q3))])
  refine ⟨ef i + 1 + k, ?_, ?_, by omega, ?_⟩
  · have k1 : f8_blanksFrom σ1 1 (Int32.ofNat (ef i + 1)) 3000 = some (Int32.ofNat k) := k1
    rw [k1, bnd_some, i32_add, i32_pred.1]
    simp only [stp, i32_succ]
  · rw [k2, bnd_some]
    unfold f12_joinLines_j91
    simp only [stp, i32_succ]
  · rcases Nat.lt_or_ge (ef (i + 1)) (ef i + 1 + k) with z | z
    · exfalso
      have h10 : f (ef (i + 1)) = 10 := by
        rcases hb.2.1.2.2 with q | q
        · omega
        · exact q
      have h5 := hb.2.2.1
      have := k4 (ef (i + 1) - (ef i + 1)) (by omega)
      rw [show ef i + 1 + (ef (i + 1) - (ef i + 1)) = ef (i + 1) by omega] at this
      exact isSp_n10 this h10
    · exact z
theorem joins (j : JP σ μ σ1 μ1 n 0 0 a b l G 1) (hC : CT σ 1 L B f n) (hL : (L = 2 ∧ B = 3 ∧ H = 4) ∨ (L = 20 ∧ B = 21 ∧ H = 22)) (hM : MT μ f n) {lo hi : Nat} (hlh : lo ≤ hi) (hhi : hi ≤ ends f n) {x1 z1 : Int32} : ∃ K q a b l σ2 μ2, loopF (fun s_39 => f11_joinLines_b39 x1 (Int32.ofNat hi) s_39.1 s_39.2) FU (σ1, Int32.ofNat (lo + 1)) = some σ2 ∧ loopF (fun s_45 => f12_joinLines_b45 z1 (Int32.ofNat hi) s_45.1 s_45.2) FU (μ1, Int32.ofNat lo) = some μ2 ∧ JP σ μ σ2 μ2 n K q a b l G 1 ∧ ∀ k, k < K → l k = 1 ∧ a k + 1 ≤ b k := by
  have hn := hC.1
  have hE := hC.2.1
  obtain ⟨bf, ef, hbe⟩ := lines_fn f n
  have key : ∃ r r', loopF (fun s_39 => f11_joinLines_b39 x1 (Int32.ofNat hi) s_39.1 s_39.2) FU (σ1, Int32.ofNat (lo + 0 + 1)) = some r ∧ loopF (fun s_45 => f12_joinLines_b45 z1 (Int32.ofNat hi) s_45.1 s_45.2) FU (μ1, Int32.ofNat (lo + 0)) = some r' ∧ ∃ K q a b l, JP σ μ r r' n K q a b l G 1 ∧ ∀ k, k < K → l k = 1 ∧ a k + 1 ≤ b k := by
    refine loop2 (hi - lo) (fun k s s' => ∃ S M K q a b l, s = (S, Int32.ofNat (lo + k + 1)) ∧ s' = (M, Int32.ofNat (lo + k)) ∧ JP σ μ S M n K q a b l G 1 ∧ K ≤ k ∧ q ≤ ef (lo + k) ∧ ∀ k, k < K → l k = 1 ∧ a k + 1 ≤ b k) ?_ 0 ⟨σ1, μ1, 0, 0, a, b, l, rfl, rfl, j, Nat.le_refl _, Nat.zero_le _, fun k hk => by omega⟩ (by omega) (by (show _ < FU; unfold FU; omega)) (by (show _ < FU; unfold FU; omega))
    rintro k s s' hk ⟨S, M, K, q, a, b, l, rfl, rfl, j, hK, hq, hl⟩
    show (∃ t t', f11_joinLines_b39 x1 (Int32.ofNat hi) S (Int32.ofNat (lo + k + 1)) = _ ∧ f12_joinLines_b45 z1 (Int32.ofNat hi) M (Int32.ofNat (lo + k)) = _ ∧ _) ∨ ∃ r r', f11_joinLines_b39 x1 (Int32.ofNat hi) S (Int32.ofNat (lo + k + 1)) = _ ∧ f12_joinLines_b45 z1 (Int32.ofNat hi) M (Int32.ofNat (lo + k)) = _ ∧ _
    by_cases hz : hi ≤ lo + k
    · have e1 : f11_joinLines_b39 x1 (Int32.ofNat hi) S (Int32.ofNat (lo + k + 1)) = some (.inr S) := by
        unfold f11_joinLines_b39
        rw [if_pos ((i32n_lt (by omega) (by omega)).mpr (by omega))]
      have e2 : f12_joinLines_b45 z1 (Int32.ofNat hi) M (Int32.ofNat (lo + k)) = some (.inr M) := by
        unfold f12_joinLines_b45
        rw [if_pos ((i32_le (by omega) (by omega)).mpr hz)]
      rw [e1, e2]
      exact Or.inr ⟨_, _, rfl, rfl, K, q, a, b, l, j, hl⟩
    · obtain ⟨r, e1, e2, e3, e4⟩ := join1 j hC hL hM hbe (i := lo + k) (hi := hi) (by omega) hhi (x1 := x1) (z1 := z1)
      have hb := hbe (lo + k + 1) (by omega)
      obtain ⟨S', M', a', b', l', k1, k2, k3, k4, k5, k6⟩ := j.add (p := ef (lo + k)) (r := r) (e := 1) (by omega) hq (by omega) (by have := hb.2.1.1; omega) hn (Nat.le_refl _)
      have hnx : nxK K (ef (lo + k)) r 1 = K + 1 := by
        unfold nxK
        rw [if_neg (by omega)]
      rw [hnx] at k3 k5
      have k1 : f1_addPart S (Int32.ofNat (ef (lo + k))) (Int32.ofNat r) 1 = some S' := k1
      have k2 : f12_adds M (Int32.ofNat (ef (lo + k))) (Int32.ofNat r) 0 1 = some M' := k2
      rw [e1, e2, k1, k2, bnd_some, bnd_some]
      refine Or.inl ⟨_, _, rfl, rfl, by omega, S', M', K + 1, r, a', b', l', rfl, rfl, k3, by omega, e4, fun i hi => ?_⟩
      by_cases e : i < K
      · rw [(k4 i e).1, (k4 i e).2.1, (k4 i e).2.2]
        exact hl i e
      · rw [show i = K by omega, (k5 (by omega)).1, (k5 (by omega)).2.1, (k5 (by omega)).2.2]
        exact ⟨rfl, e3⟩
  obtain ⟨r, r', k1, k2, K, q, a, b, l, k3, k4⟩ := key
  exact ⟨K, q, a, b, l, r, r', k1, k2, k3, k4⟩
theorem op_joinLines (h : Rel σ μ) {x y : Int32} : stH (f11_joinLines σ x y) [(1, 1), (2, 2), (3, 3)] o (f12_joinLines μ x y) RQ := by
  obtain ⟨⟨f, n, hd, c, cu, ma, lf, ml⟩, L, B, H, T, h0⟩ := id h
  have hC : CT σ 1 L B f n := h0.2.1.1
  have hM : MT μ f n := h0.2.2.1.1
  have hn := hC.1
  have hE := hC.2.1
  unfold f11_joinLines f12_joinLines f12_joinLines_j16
  rw [c11_requireLine hC, c12_isLine hM, c12_isLine hM, bnd_some, bnd_some]
  simp only [ite_tz, decide_eq_true_eq, c12_refuse, bnd_some]
  by_cases hx : 0 ≤ x ∧ x ≤ Int32.ofNat (ends f n)
  · rw [if_pos hx, bndX_inl, c11_requireLine hC, if_pos hx]
    by_cases hy : 0 ≤ y ∧ y ≤ Int32.ofNat (ends f n)
    · rw [if_pos hy, bndX_inl, if_pos hy]
      by_cases hxy : x ≤ y
      · rw [if_pos hxy, if_pos hxy]
        obtain ⟨lo, hlo, rfl⟩ := of_range hx (by omega)
        obtain ⟨hi, hhi, rfl⟩ := of_range hy (by omega)
        have hlh : lo ≤ hi := (i32_le (by omega) (by omega)).mp hxy
        obtain ⟨u, u1, u2⟩ := c1_with (σ := σ) (v := 32) (m := 1) (by decide) (by omega)
        have u1 : f1_beginWith σ 32 1 = _ := u1
        have j : JP σ μ _ _ n 0 0 (fun _ => 0) (fun _ => 0) (fun _ => 0) (fun _ => 32) 1 := JP.zero (w := 1) (r := u) (r' := up1 (aI (uI μ 2017 27 0) 2033) 0 32) (m := 1) (by omega) (by omega) (fun i hi => ⟨u2 i hi, by rw [show i = 0 by omega]; rfl, by decide⟩)
        obtain ⟨K, q, a, b, l, σ2, μ2, p1, p2, p3, p4⟩ := joins j hC h0.2.2.2.1.cells hM hlh hhi (x1 := Int32.ofNat lo) (z1 := Int32.ofNat lo)
        obtain ⟨r, σ3, μ3, D', L', B', H', T', v1, v2, v3, v4, v5⟩ := act_of (P := RT) h0 p3 (Or.inr (fun k hk => by have := p4 k hk; omega)) (Or.inr (fun k hk => by
          rw [(p4 k hk).1]
          have := ends_mono (f := f) (p3.2.2.1.2.2.1.1 k hk).1
          show ends f (a k) + (0 + if (32 : Int32) = 10 then 1 else 0) ≤ _
          rw [if_neg (by decide)]
          omega))
        have v4 : Rel0 σ3 μ3 D' L' B' H' T' := v4
        have eP : f12_puts (uI (uI μ 2017 27 0) 2017 28 0) 32 = some (uI (rA (uI μ 2017 27 0) 2033 (up1 (aI (uI μ 2017 27 0) 2033) 0 32)) 2017 28 (Int32.ofNat (0 + 1))) := by
          rw [c12_put0, c12_puts1 (by omega)]
        rw [u1, bnd_some, stp, c12_begins1, bnd_some, eP, bnd_some, stp, i32_succ]
        unfold f11_joinLines_j39 f12_joinLines_j45
        rw [p1, bnd_some, v1, bnd_some, p2, bnd_some, v2, bnd_some]
        rcases v3 with rfl | rfl
        · rw [if_pos rfl, if_pos rfl, c12_refuse, bnd_some]
          exact stH_er (c := 3) (t := 3) rfl (by decide) (by decide) rfl ⟨_, _, _, _, _, v4⟩
        · obtain ⟨f', n', hd', c', cu', ma', lf', ml'⟩ := D'
          have eS : fI σ3 1 4 = Int32.ofNat (ends f' n' + 1) := v4.2.1.1.2.2.2.1
          have eT := c12_lines v4.2.2.1.1
          rw [if_neg (show ¬ (1 : Int32) = 0 by decide), if_neg (show ¬ (1 : Int32) = 0 by decide)]
          simp only [eT, bnd_some, c12_told, eS]
          exact stH_ok rfl rfl ⟨_, _, _, _, _, v4⟩
      · rw [if_neg hxy, if_neg hxy]
        exact stH_er (c := 2) (t := 2) rfl (by decide) (by decide) rfl h
    · rw [if_neg hy, bndX_inr, if_neg hy]
      exact stH_er (c := 1) (t := 1) rfl (by decide) (by decide) rfl h
  · rw [if_neg hx, bndX_inr, if_neg hx]
    exact stH_er (c := 1) (t := 1) rfl (by decide) (by decide) rfl h
end R
