/-! a line wrapped: the call -/
section R
variable {σ μ σ1 μ1 : Sto} {L B H : Nat} {f : Nat → Int32} {n c K q w : Nat} {hd : Nat → Int32} {cu : Nat → Nat} {ma lf ml : Nat → Int32} {T : Hst} {a b l : Nat → Nat} {G : Nat → Int32} {o : Int64}
theorem wraps (j : JP σ μ σ1 μ1 n 0 0 a b l G 1) (hC : CT σ 1 L B f n) (hL : (L = 2 ∧ B = 3 ∧ H = 4) ∨ (L = 20 ∧ B = 21 ∧ H = 22)) (hM : MT μ f n) {p e w : Nat} (hp : p ≤ e) (he : e ≤ n) (hw : w ≤ 100) {x1 z1 : Int32} : ∃ K q a b l σ2 μ2, loopF (fun s_65 => f11_wrap_b65 x1 (Int32.ofNat w) s_65.1 (Int32.ofNat e) s_65.2.1 s_65.2.2) FU (σ1, ofO (brk f e w p), 0) = some σ2 ∧ loopF (fun s_56 => f12_wrap_b56 z1 (Int32.ofNat w) s_56.1 s_56.2.1 (Int32.ofNat e) s_56.2.2) FU (μ1, Int32.ofNat p, 1) = some μ2 ∧ JP σ μ σ2 μ2 n K q a b l G 1 ∧ ∀ k, k < K → l k = 1 ∧ b k = a k + 1 ∧ ends f (b k) = ends f (a k) := by
  have hn := hC.1
  have key : ∃ r r', loopF (fun s_65 => f11_wrap_b65 x1 (Int32.ofNat w) s_65.1 (Int32.ofNat e) s_65.2.1 s_65.2.2) FU (σ1, ofO (brk f e w p), 0) = some r ∧ loopF (fun s_56 => f12_wrap_b56 z1 (Int32.ofNat w) s_56.1 s_56.2.1 (Int32.ofNat e) s_56.2.2) FU (μ1, Int32.ofNat p, 1) = some r' ∧ ∃ K q a b l, JP σ μ r r' n K q a b l G 1 ∧ ∀ k, k < K → l k = 1 ∧ b k = a k + 1 ∧ ends f (b k) = ends f (a k) := by
    refine loop2b 3000 (fun k s s' => ∃ S M K q a b l s1, s = (S, ofO (brk f e w s1), Int32.ofNat k) ∧ s' = (M, Int32.ofNat s1, 1) ∧ JP σ μ S M n K q a b l G 1 ∧ K ≤ k ∧ k ≤ s1 ∧ s1 ≤ e ∧ q ≤ s1 ∧ ∀ k, k < K → l k = 1 ∧ b k = a k + 1 ∧ ends f (b k) = ends f (a k)) ?_ 0 ⟨σ1, μ1, 0, 0, a, b, l, p, rfl, rfl, j, Nat.le_refl _, Nat.zero_le _, hp, Nat.zero_le _, fun k hk => by omega⟩ (by omega) (by (show _ < FU; unfold FU; omega)) (by (show _ < FU; unfold FU; omega))
    rintro k s s' hk ⟨S, M, K, q, a, b, l, s1, rfl, rfl, j, hK, hks, hse, hq, hl⟩
    show (∃ t t', f11_wrap_b65 x1 (Int32.ofNat w) S (Int32.ofNat e) (ofO (brk f e w s1)) (Int32.ofNat k) = _ ∧ f12_wrap_b56 z1 (Int32.ofNat w) M (Int32.ofNat s1) (Int32.ofNat e) 1 = _ ∧ _) ∨ ∃ r r', f11_wrap_b65 x1 (Int32.ofNat w) S (Int32.ofNat e) (ofO (brk f e w s1)) (Int32.ofNat k) = _ ∧ (f12_wrap_b56 z1 (Int32.ofNat w) M (Int32.ofNat s1) (Int32.ofNat e) 1 = _ ∨ ∃ t', f12_wrap_b56 z1 (Int32.ofNat w) M (Int32.ofNat s1) (Int32.ofNat e) 1 = _ ∧ _) ∧ _
    obtain ⟨w1, w2⟩ := c12_wrapB (j.mt hM) hse he hw (x := z1)
    have hstop : brk f e w s1 = none → f11_wrap_b65 x1 (Int32.ofNat w) S (Int32.ofNat e) (ofO (brk f e w s1)) (Int32.ofNat k) = some (.inr S) := fun h => by
      rw [h]
      unfold f11_wrap_b65 ofO
      rw [if_pos rfl]
      split <;> rfl
    cases hb : brk f e w s1 with
    | none =>
      have e1 := hstop hb
      rw [hb] at e1
      rw [e1]
      refine Or.inr ⟨S, M, rfl, ?_, K, q, a, b, l, j, hl⟩
      rcases w2 hb with w2 | w2
      · exact Or.inl w2
      · refine Or.inr ⟨_, w2, ?_⟩
        show f12_wrap_b56 z1 (Int32.ofNat w) M (Int32.ofNat s1) (Int32.ofNat e) 0 = _
        unfold f12_wrap_b56
        rw [if_pos rfl]
    | some y =>
      obtain ⟨b1, b2, b3⟩ := brk_in hse hb
      rw [w1 y hb]
      obtain ⟨S', M', a', b', l', k1, k2, k3, k4, k5, k6⟩ := j.add (p := y) (r := y + 1) (e := 1) (by omega) (by omega) (by omega) (by omega) hn (Nat.le_refl _)
      have hnx : nxK K y (y + 1) 1 = K + 1 := by
        unfold nxK
        rw [if_neg (by omega)]
      rw [hnx] at k3 k5
      have k1 : f1_addPart S (Int32.ofNat y) (Int32.ofNat (y + 1)) 1 = some S' := k1
      have k2 : f12_adds M (Int32.ofNat y) (Int32.ofNat (y + 1)) 0 1 = some M' := k2
      have e1 : f11_wrap_b65 x1 (Int32.ofNat w) S (Int32.ofNat e) (ofO (some y)) (Int32.ofNat k) = some (.inl (S', ofO (brk f e w (y + 1)), Int32.ofNat (k + 1))) := by
        rw [show ofO (some y) = Int32.ofNat y from rfl]
        unfold f11_wrap_b65
        have hk3 : ¬ (3000 : Int32) ≤ Int32.ofNat k := fun z => by
          have := (i32_le (a := 3000) (by omega) (by omega)).mp z
          omega
        have hfor := c11_breakFor (k3.ct hC hL) (s := y + 1) (e := e) (w := w) (by omega) he hw
        rw [if_neg hk3, if_neg (ofNat_m1 (by omega)), @i32_succ y, k1, bnd_some, hfor, bnd_some, @i32_succ k]
        rfl
      rw [e1, k2, bnd_some]
      refine Or.inl ⟨_, _, rfl, rfl, by omega, S', M', K + 1, y + 1, a', b', l', y + 1, rfl, rfl, k3, by omega, by omega, by omega, Nat.le_refl _, fun i hi => ?_⟩
      by_cases e : i < K
      · rw [(k4 i e).1, (k4 i e).2.1, (k4 i e).2.2]
        exact hl i e
      · rw [show i = K by omega, (k5 (by omega)).1, (k5 (by omega)).2.1, (k5 (by omega)).2.2]
        refine ⟨rfl, rfl, ?_⟩
        rw [ends_succ, b3, if_neg (by decide)]
        rfl
  obtain ⟨r, r', k1, k2, K, q, a, b, l, k3, k4⟩ := key
  exact ⟨K, q, a, b, l, r, r', k1, k2, k3, k4⟩
theorem op_wrap (h : Rel σ μ) {x y : Int32} : stH (f11_wrap σ x y) [(1, 1), (2, 2), (3, 3)] o (f12_wrap μ x y) RQ := by
  obtain ⟨⟨f, n, hd, c, cu, ma, lf, ml⟩, L, B, H, T, h0⟩ := id h
  have hC : CT σ 1 L B f n := h0.2.1.1
  have hM : MT μ f n := h0.2.2.1.1
  have hn := hC.1
  have hE := hC.2.1
  unfold f11_wrap f12_wrap f11_wrap_j16
  rw [c11_requireLine hC, c12_isLine hM, bnd_some]
  simp only [ite_tz, decide_eq_true_eq, c12_in, c12_refuse, bnd_some]
  by_cases hx : 0 ≤ x ∧ x ≤ Int32.ofNat (ends f n)
  · rw [if_pos hx, bndX_inl, if_pos hx]
    by_cases hy1 : y < 1
    · rw [if_pos hy1, if_neg (by grind)]
      exact stH_er (c := 2) (t := 2) rfl (by decide) (by decide) rfl h
    rw [if_neg hy1]
    by_cases hy2 : y ≤ 100
    · rw [if_pos hy2, if_pos (by grind)]
      obtain ⟨i, hi, rfl⟩ := of_range hx (by omega)
      obtain ⟨w, hw, rfl⟩ := of_range (x := y) (n := 100) ⟨by grind, hy2⟩ (by decide)
      obtain ⟨bf, ef, hbe⟩ := lines_fn f n
      obtain ⟨u, u1, u2⟩ := c1_with (σ := σ) (v := 10) (m := 1) (by decide) (by omega)
      have u1 : f1_beginWith σ 10 1 = _ := u1
      have j : JP σ μ _ _ n 0 0 (fun _ => 0) (fun _ => 0) (fun _ => 0) (fun _ => 10) 1 := JP.zero (w := 1) (r := u) (r' := up1 (aI (uI μ 2017 27 0) 2033) 0 10) (m := 1) (by omega) (by omega) (fun i hi => ⟨u2 i hi, by rw [show i = 0 by omega]; rfl, by decide⟩)
      have hb := hbe i hi
      obtain ⟨K, q, a, b, l, σ2, μ2, p1, p2, p3, p4⟩ := wraps j hC h0.2.2.2.1.cells hM (p := bf i) (e := ef i) (w := w) hb.2.2.1 hb.2.1.1 hw (x1 := Int32.ofNat i) (z1 := Int32.ofNat i)
      obtain ⟨r, σ3, μ3, D', L', B', H', T', v1, v2, v3, v4, v5⟩ := act_of (P := RT) h0 p3 (Or.inl (fun k hk => by have := p4 k hk; omega)) (Or.inl (fun k hk => by
        have := p4 k hk
        omega))
      have v4 : Rel0 σ3 μ3 D' L' B' H' T' := v4
      have hC1 := j.ct hC h0.2.2.2.1.cells
      have hM1 := j.mt hM
      obtain ⟨c1, c2, c3⟩ := ct_ln hC1 hbe hi
      obtain ⟨m1, m2⟩ := mt_ln hM1 hbe hi
      have hc9 := hC1.2.2.2.2.2.1
      have eP : f12_puts (uI (uI μ 2017 27 0) 2017 28 0) 10 = some (uI (rA (uI μ 2017 27 0) 2033 (up1 (aI (uI μ 2017 27 0) 2033) 0 10)) 2017 28 (Int32.ofNat 1)) := by
        rw [c12_put0, c12_puts1 (by omega)]
      have hfor := c11_breakFor hC1 (s := bf i) (e := ef i) (w := w) hb.2.2.1 hb.2.1.1 hw
      rw [u1, bnd_some, c2, bnd_some, stp, hc9.1, okr_s.mpr hc9.2.1, gd_true, Nat.add_sub_cancel, c3, gd_true, ofNat_clamp (by omega), c1, hfor, bnd_some, stp, stp, c12_begins1, bnd_some, eP, bnd_some, m1, bnd_some, stp, m2, bnd_some, stp, stp]
      unfold f11_wrap_j65 f12_wrap_j56
      rw [p1, bnd_some, p2, bnd_some]
      unfold f11_wrap_j111 f12_wrap_j175
      rw [stp, v1, bnd_some, stp, v2, bnd_some, p3.1.2.2.2, p3.2.1.2.2.1]
      rcases v3 with rfl | rfl
      · rw [if_pos rfl, if_pos rfl, c12_refuse, bnd_some]
        exact stH_er (c := 3) (t := 3) rfl (by decide) (by decide) rfl ⟨_, _, _, _, _, v4⟩
      · rw [if_neg (show ¬ (1 : Int32) = 0 by decide), if_neg (show ¬ (1 : Int32) = 0 by decide), c12_told, bnd_some]
        exact stH_ok rfl rfl ⟨_, _, _, _, _, v4⟩
    · rw [if_neg hy2, if_neg (by grind)]
      exact stH_er (c := 2) (t := 2) rfl (by decide) (by decide) rfl h
  · rw [if_neg hx, bndX_inr, if_neg hx]
    exact stH_er (c := 1) (t := 1) rfl (by decide) (by decide) rfl h
end R
