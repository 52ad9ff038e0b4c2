/-! the law's goesBack: back and on again -/
section G
variable {τ x : LawS} {D : Doc} {T : Hst} {n b N x0 : Nat} {par cho : Nat → Nat} {Bf Af : Nat → Doc}
theorem Dp.back (h : Dp (N, x0, par, cho, Bf, Af) n) {j : Nat} (hj : j ≤ n) {Af' : Nat → Doc} : Dp (N, upw par j x0, par, cho, Bf, Af') (n - j) := by
  obtain ⟨h1, h2⟩ := h
  refine ⟨?_, fun i hi => ?_⟩
  · show upw par (n - j) (upw par j x0) = 0
    rw [upw_add, show j + (n - j) = n by omega]
    exact h1
  · show upw par i (upw par j x0) ≠ 0
    rw [upw_add]
    exact h2 _ (by omega)
theorem chain_at (w : WF (N, x0, par, cho, Bf, Af)) {j : Nat} (h : ∀ i, i < j → upw par i x0 ≠ 0) : ∀ i, i ≤ j → upw cho i (upw par j x0) = upw par (j - i) x0 := by
  intro i
  induction i with
  | zero => intro _; rfl
  | succ i ih =>
    intro hi
    rw [upw_s, ih (by omega), show j - i = j - (i + 1) + 1 by omega]
    exact w.chz (h _ (by omega))
/-- the rows: ahead of each act; behind each undoing -/
def GR (T : Hst) (D : Doc) (n j : Nat) (x : LawS) : Prop := (∀ i, i < n → SR (x.1 (2 + i)) (bk T (n - 1 - i))) ∧ ∀ q, n - j ≤ q → q ≤ n → SR (x.1 (22 + q)) (DJ T.2.2.2.2.1 T.2.2.1 T.2.1 D (n - q))
theorem gb_back (w : WF (N, x0, par, cho, Bf, Af)) (hd : Dp (N, x0, par, cho, Bf, Af) (b + n)) (hb : b + n ≤ 150) (hn : n ≤ 10) (h : In x.2 D (N, x0, par, cho, Bf, Af)) (hr : Rst x.2) (hg : GR (N, x0, par, cho, Bf, Af) D n 0 x) : ∃ y, loopF (fun s_218 => fL_goesBack_b218 s_218.1 (Int32.ofNat b) (Int32.ofNat n) s_218.2) 11 (x, Int32.ofNat n) = some (.inl y) ∧ In y.2 (DJ Bf par x0 D n) (N, upw par n x0, par, cho, Bf, AJ Af Bf par x0 D n) ∧ Rst y.2 ∧ GR (N, x0, par, cho, Bf, Af) D n n y ∧ y.1 45 = x.1 45 := by
  have hnz : ∀ i, i < b + n → upw par i x0 ≠ 0 := fun i hi => hd.2 i hi
  have key : Ok (loopF (fun s_218 => fL_goesBack_b218 s_218.1 (Int32.ofNat b) (Int32.ofNat n) s_218.2) 11 (x, Int32.ofNat n)) (fun r => ∃ y, r = .inl y ∧ In y.2 (DJ Bf par x0 D n) (N, upw par n x0, par, cho, Bf, AJ Af Bf par x0 D n) ∧ Rst y.2 ∧ GR (N, x0, par, cho, Bf, Af) D n n y ∧ y.1 45 = x.1 45) := by
    refine Ok_count n (fun j z => ∃ y, z = (y, Int32.ofNat (n - j)) ∧ In y.2 (DJ Bf par x0 D j) (N, upw par j x0, par, cho, Bf, AJ Af Bf par x0 D j) ∧ Rst y.2 ∧ GR (N, x0, par, cho, Bf, Af) D n j y ∧ y.1 45 = x.1 45) ?_ 0 ⟨x, rfl, h, hr, hg, rfl⟩ (by omega) (by omega)
    rintro j z hj ⟨y, rfl, y1, y2, y3, y4⟩
    show Ok (fL_goesBack_b218 y (Int32.ofNat b) (Int32.ofNat n) (Int32.ofNat (n - j))) _
    unfold fL_goesBack_b218
    by_cases q : n - j = 0
    · have : j = n := by omega
      subst this
      rw [if_pos ((i32_le0 (by omega)).mpr q), Ok_some, lp_inr]
      exact ⟨y, rfl, y1, y2, y3, y4⟩
    · have hz : ∀ i, i < 1 → upw par i (upw par j x0) ≠ 0 := fun i hi => by
        rw [upw_add]
        exact hnz _ (by omega)
      obtain ⟨σ', k1, k2, k3, k4⟩ := q_undo (l := 1) y1 (by omega) (by omega) hz
      have k2 : In σ' (DJ Bf par x0 D (j + 1)) (N, upw par (j + 1) x0, par, cho, Bf, AJ Af Bf par x0 D (j + 1)) := by
        have e : upw par 1 (upw par j x0) = upw par (j + 1) x0 := by rw [upw_add]
        rw [e] at k2
        exact k2
      have k1 : f11_undo y.2 1 = some (.inl (1, σ')) := k1
      have r2 : Rst σ' := ⟨k3.1, by rw [(k4 1992 (by unfold osh; omega)).1]; exact y2.2⟩
      have e1 : Int32.ofNat (n - j) - (1 : Int32) = Int32.ofNat (n - j - 1) := by
        rw [show (1 : Int32) = Int32.ofNat 1 from rfl, i32_sub (by omega)]
      have e2 : (20 : Int32) + Int32.ofNat (n - j) - (1 : Int32) = Int32.ofNat (20 + (n - j - 1)) := by
        rw [show (20 : Int32) + Int32.ofNat (n - j) = Int32.ofNat (20 + (n - j)) from i32_add (p := 20), show (1 : Int32) = Int32.ofNat 1 from rfl, i32_sub (by omega)]
        congr 1
        omega
      have s1 : SR (y.1 (2 + (n - j - 1))) (DJ Bf par x0 D (j + 1)) := by
        have := y3.1 (n - j - 1) (by omega)
        rw [show n - 1 - (n - j - 1) = j by omega] at this
        exact this
      obtain ⟨u, u1, u2, u3⟩ := like_D (τ := (y.1, σ')) (lq35 (j := n - j - 1) (by omega)) (by omega) k2 s1
      have u2 : u.2 = σ' := u2
      have hu : In u.2 (DJ Bf par x0 D (j + 1)) (N, upw par (j + 1) x0, par, cho, Bf, AJ Af Bf par x0 D (j + 1)) := by rw [u2]; exact k2
      obtain ⟨v, v1, v2, v3, v4⟩ := sees_D (a1 := 2 + (20 + (n - j - 1))) (lq35 (by omega)) hu
      have hv : In v.2 (DJ Bf par x0 D (j + 1)) (N, upw par (j + 1) x0, par, cho, Bf, AJ Af Bf par x0 D (j + 1)) := by rw [v2]; exact hu
      obtain ⟨d, d1, d2, d3⟩ := q_acts1 hv
      have hd2 : d = b + n - (j + 1) := d3.uniq (hd.back (by omega))
      obtain ⟨c, c1, c2, c3⟩ := q_acts2 hv
      have hc : j + 1 ≤ c := by
        refine c3 (j + 1) (fun i hi => ?_)
        rw [chain_at w (fun i hi => hnz i (by omega)) i (by omega), show j + 1 - i = j - i + 1 by omega, w.chz (hnz _ (by omega))]
        exact hnz _ (by omega)
      have e3 : (Int32.ofNat b + Int32.ofNat (n - j)) - (1 : Int32) = Int32.ofNat d := by
        rw [i32_add, show (1 : Int32) = Int32.ofNat 1 from rfl, i32_sub (by omega)]
        congr 1
        omega
      have e4 : (Int32.ofNat n - Int32.ofNat (n - j)) + (1 : Int32) = Int32.ofNat (j + 1) := by
        rw [i32_sub (by omega), i32_succ]
        congr 1
        omega
      have e5 : Int32.ofNat (n - j) + (-1 : Int32) = Int32.ofNat (n - (j + 1)) := by
        rw [show n - (j + 1) = n - j - 1 by omega, ← e1]
        grind
      have c1 : f11_acts (v.1, v.2).2 2 = _ := c1
      rw [if_neg (fun z => q ((i32_le0 (by omega)).mp z)), dn_10, k1, hdl_inl, bnd_some, if_pos rfl, e1, i41 (by omega), gd_true, ofNat_clamp (by omega), u1, bnd_some, if_neg (show ¬ (1 : Int32) = 0 by decide), e2, i41 (by omega), gd_true, ofNat_clamp (by omega), v1, bnd_some, d1, nox_inl, bnd_some, e3, if_pos rfl, show v.2 = (v.1, v.2).2 from rfl, c1, nox_inl, bnd_some, e4, if_pos ((i32_le (by omega) (by omega)).mpr hc), e5, stp, Ok_some, lp_inl]
      refine ⟨by omega, v, rfl, hv, by rw [v2, u2]; exact r2, ⟨fun i hi => ?_, fun q q1 q2 => ?_⟩, ?_⟩
      · rw [v3 (2 + i) (by omega), u3 (2 + i) (by omega)]
        exact y3.1 i hi
      · by_cases z : q = n - j - 1
        · rw [z, show 22 + (n - j - 1) = 2 + (20 + (n - j - 1)) by omega, show n - (n - j - 1) = j + 1 by omega]
          exact v4
        · rw [v3 (22 + q) (by omega), u3 (22 + q) (by omega)]
          exact y3.2 q (by omega) q2
      · rw [v3 45 (by omega), u3 45 (by omega)]
        exact y4
  obtain ⟨r, k1, y, rfl, k2⟩ := key
  exact ⟨y, k1, k2⟩
theorem gb_on (w : WF (N, x0, par, cho, Bf, Af)) (hnz : ∀ i, i < n → upw par i x0 ≠ 0) (hn : n ≤ 10) (h : In x.2 (DJ Bf par x0 D n) (N, upw par n x0, par, cho, Bf, AJ Af Bf par x0 D n)) (hr : Rst x.2) (hg : ∀ q, q ≤ n → SR (x.1 (22 + q)) (DJ Bf par x0 D (n - q))) : ∃ y, loopF (fun s_306 => fL_goesBack_b306 s_306.1 (Int32.ofNat n) s_306.2) 11 (x, 1) = some (.inl y) ∧ In y.2 D (N, x0, par, cho, Bf, AJ Af Bf par x0 D n) ∧ Rst y.2 ∧ (∀ q, q ≤ n → y.1 (22 + q) = x.1 (22 + q)) ∧ y.1 45 = x.1 45 := by
  have key : Ok (loopF (fun s_306 => fL_goesBack_b306 s_306.1 (Int32.ofNat n) s_306.2) 11 (x, 1)) (fun r => ∃ y, r = .inl y ∧ In y.2 D (N, x0, par, cho, Bf, AJ Af Bf par x0 D n) ∧ Rst y.2 ∧ (∀ q, q ≤ n → y.1 (22 + q) = x.1 (22 + q)) ∧ y.1 45 = x.1 45) := by
    refine Ok_count n (fun i z => ∃ y, z = (y, Int32.ofNat (i + 1)) ∧ In y.2 (DJ Bf par x0 D (n - i)) (N, upw par (n - i) x0, par, cho, Bf, AJ Af Bf par x0 D n) ∧ Rst y.2 ∧ (∀ q, q ≤ n → y.1 (22 + q) = x.1 (22 + q)) ∧ y.1 45 = x.1 45) ?_ 0 ⟨x, rfl, h, hr, fun _ _ => rfl, rfl⟩ (by omega) (by omega)
    rintro i z hi ⟨y, rfl, y1, y2, y3, y4⟩
    show Ok (fL_goesBack_b306 y (Int32.ofNat n) (Int32.ofNat (i + 1))) _
    unfold fL_goesBack_b306
    by_cases q : n < i + 1
    · have : i = n := by omega
      subst this
      rw [Nat.sub_self] at y1
      rw [if_pos ((i32n_lt (by omega) (by omega)).mpr q), Ok_some, lp_inr]
      exact ⟨y, rfl, y1, y2, y3, y4⟩
    · obtain ⟨σ', k1, k2, k3, k4⟩ := q_redo w hnz (l := 1) (m := i) (by omega) (by omega) (by omega) y1
      have k1 : f11_redo y.2 1 = some (.inl (1, σ')) := k1
      have r2 : Rst σ' := ⟨k3.1, by rw [(k4 1992 (by unfold osh; omega)).1]; exact y2.2⟩
      have e1 : (20 : Int32) + Int32.ofNat (i + 1) = Int32.ofNat (20 + (i + 1)) := i32_add (p := 20)
      have s1 : SR (y.1 (2 + (20 + (i + 1)))) (DJ Bf par x0 D (n - (i + 1))) := by
        rw [show 2 + (20 + (i + 1)) = 22 + (i + 1) by omega, y3 _ (by omega)]
        exact hg _ (by omega)
      obtain ⟨u, u1, u2, u3⟩ := like_D (τ := (y.1, σ')) (lq35 (j := 20 + (i + 1)) (by omega)) (by omega) k2 s1
      have u2 : u.2 = σ' := u2
      rw [if_neg (fun z => q ((i32n_lt (by omega) (by omega)).mp z)), dn_11, k1, hdl_inl, bnd_some, if_pos rfl, e1, i41 (by omega), gd_true, ofNat_clamp (by omega), u1, bnd_some, if_neg (show ¬ (1 : Int32) = 0 by decide), stp, i32_succ, Ok_some, lp_inl]
      exact ⟨by omega, u, rfl, by rw [u2]; exact k2, by rw [u2]; exact r2, fun q hq => by rw [u3 (22 + q) (by omega)]; exact y3 q hq, by rw [u3 45 (by decide)]; exact y4⟩
  obtain ⟨r, k1, y, rfl, k2⟩ := key
  exact ⟨y, k1, k2⟩
theorem gb_all (hi : GBI b n x) (hn : n ≤ 10) : Turn (gd (inb ((20 : Int32) + Int32.ofNat n) 41) <| bnd (fL_sees x (2 + Int32.toNatClampNeg ((20 : Int32) + Int32.ofNat n))) fun p_71 => stp (Int32.ofNat n) fun x9_12 => fL_goesBack_j218 p_71 (Int32.ofNat b) (Int32.ofNat n) x9_12) := by
  obtain ⟨D, ⟨N, x0, par, cho, Bf, Af⟩, h, hr, hl, hd, hb, hs⟩ := hi
  have w := h.wf
  have e1 : (20 : Int32) + Int32.ofNat n = Int32.ofNat (20 + n) := i32_add (p := 20)
  obtain ⟨x1, k1, k2, k3, k4⟩ := sees_D (a1 := 2 + (20 + n)) (lq35 (by omega)) h
  have h1 : In x1.2 D (N, x0, par, cho, Bf, Af) := by rw [k2]; exact h
  have r1 : Rst x1.2 := by rw [k2]; exact hr
  have hnz : ∀ i, i < n → upw par i x0 ≠ 0 := fun i hi => hd.2 i (by omega)
  obtain ⟨y, y1, y2, y3, y4, y5⟩ := gb_back w hd hb hn h1 r1 ⟨fun i hi => by rw [k3 (2 + i) (by omega)]; exact hs i hi, fun q q1 q2 => by
    rw [show q = n by omega, show 22 + n = 2 + (20 + n) by omega, Nat.sub_self]
    exact k4⟩
  have y4 : ∀ q, q ≤ n → SR (y.1 (22 + q)) (DJ Bf par x0 D (n - q)) := fun q hq => y4.2 q (by omega) hq
  obtain ⟨z, z1, z2, z3, z4, z5⟩ := gb_on w hnz hn y2 y3 y4
  have hl3 : ∀ v : LawS, v.1 45 = z.1 45 → Ln v D := fun v hv k hk => by
    rw [hv, z5, y5, k3 45 (by omega)]
    exact hl k hk
  rw [e1, i41 (by omega), gd_true, ofNat_clamp (by omega), k1, bnd_some, stp]
  unfold fL_goesBack_j218
  rw [y1, bnd_some]
  show Turn (stp (1 : Int32) fun x9_4 => fL_goesBack_j306 y (Int32.ofNat n) x9_4)
  rw [stp]
  unfold fL_goesBack_j306
  rw [z1, bnd_some]
  show Turn (if Int32.ofNat n = 0 then fL_goesBack_j411 z else _)
  by_cases q : n = 0
  · rw [if_pos ((ofNat_z0 (by omega)).mpr q)]
    exact ⟨1, z, D, _, rfl, z2, z3, hl3 z rfl, rfl⟩
  · rw [if_neg (fun e => q ((ofNat_z0 (by omega)).mp e))]
    have w2 : WF (N, x0, par, cho, Bf, AJ Af Bf par x0 D n) := w
    obtain ⟨σ1, a1, a2, a3, a4⟩ := q_undo (l := n) z2 (by omega) (by omega) hnz
    obtain ⟨u, u1, u2, u3⟩ := like_D (τ := (z.1, σ1)) (a1 := 22) (by decide) (by decide) a2 (by
      show SR (z.1 (22 + 0)) _
      rw [z4 0 (by omega)]
      exact y4 0 (by omega))
    have u2 : u.2 = σ1 := u2
    have hu : In u.2 (DJ Bf par x0 D (n - 0)) (N, upw par (n - 0) x0, par, cho, Bf, AJ (AJ Af Bf par x0 D n) Bf par x0 D n) := by rw [u2]; exact a2
    obtain ⟨σ2, b1, b2, b3, b4⟩ := q_redo w2 hnz (l := n) (m := 0) (by omega) (by omega) (by omega) hu
    rw [show n - (0 + n) = 0 by omega] at b2
    obtain ⟨v, v1, v2, v3⟩ := like_D (τ := (u.1, σ2)) (a1 := 2 + (20 + n)) (lq35 (by omega)) (by omega) b2 (by
      show SR (u.1 (2 + (20 + n))) _
      rw [u3 (2 + (20 + n)) (by omega), show 2 + (20 + n) = 22 + n by omega]
      show SR (z.1 (22 + n)) _
      rw [z4 n (Nat.le_refl _)]
      have := y4 n (Nat.le_refl _)
      rw [Nat.sub_self] at this
      exact this)
    have v2 : v.2 = σ2 := v2
    rw [dn_10, a1, hdl_inl, bnd_some, if_pos rfl, u1, bnd_some, if_neg (show ¬ (1 : Int32) = 0 by decide), dn_11, b1, hdl_inl, bnd_some, if_pos rfl, e1, i41 (by omega), gd_true, ofNat_clamp (by omega), v1, bnd_some, if_neg (show ¬ (1 : Int32) = 0 by decide)]
    refine ⟨1, v, D, _, rfl, by rw [v2]; exact b2, ?_, hl3 v ?_, rfl⟩
    · rw [v2]
      refine ⟨b3.1, ?_⟩
      rw [(b4 1992 (by unfold osh; omega)).1, u2, (a4 1992 (by unfold osh; omega)).1]
      exact z3.2
    · rw [v3 45 (by omega)]
      show u.1 45 = _
      rw [u3 45 (by decide)]
theorem goes_ok (h : In τ.2 D T) (hr : Rst τ.2) (hl : Ln τ D) : Turn (fL_goesBack τ) := by
  obtain ⟨b, k1, k2, k3⟩ := q_acts1 h
  obtain ⟨v, x, i1, i2, i4, i5⟩ := from_ok (τ.1, τ.2) (lo := 1) (hi := 10) 10 (by decide) (by decide) (by decide)
  have e1 : (1 : Int32) + Int32.ofNat v = Int32.ofNat (1 + v) := i32_add (p := 1)
  have i4 : x.2 = τ.2 := i4
  have h0 : GBI b 0 x := ⟨D, T, by rw [i4]; exact h, by rw [i4]; exact hr, fun k hk => by rw [i5 45 (by decide)]; exact hl k hk, k3, by omega, fun j hj => by omega⟩
  have key : Ok (loopF (fun s_22 => fL_goesBack_b22 s_22.1 (Int32.ofNat b) (Int32.ofNat (1 + v)) s_22.2.1 s_22.2.2) 11 (x, 0, 0)) (fun r => ∃ y n, r = .inl (y, Int32.ofNat n) ∧ GBI b n y ∧ n ≤ 10) := by
    refine Ok_count (1 + v) (fun k z => ∃ y n, z = (y, Int32.ofNat n, Int32.ofNat k) ∧ GBI b n y ∧ n ≤ k) ?_ 0 ⟨x, 0, rfl, h0, Nat.le_refl _⟩ (by omega) (by omega)
    rintro k z hk ⟨y, n, rfl, y1, y2⟩
    show Ok (fL_goesBack_b22 y (Int32.ofNat b) (Int32.ofNat (1 + v)) (Int32.ofNat n) (Int32.ofNat k)) _
    by_cases q : 1 + v ≤ k
    · unfold fL_goesBack_b22
      rw [if_pos ((i32_le (by omega) (by omega)).mpr q), Ok_some, lp_inr]
      exact ⟨y, n, rfl, y1, by omega⟩
    · obtain ⟨y', n', z1, z2, z3⟩ := gb_next y1 (k := k) (m := 1 + v) (by omega) (by omega) y2
      rw [z1, Ok_some, lp_inl]
      exact ⟨by omega, y', n', rfl, z2, z3⟩
  obtain ⟨r, m1, y, n, rfl, m2, m3⟩ := key
  unfold fL_goesBack
  rw [k1, nox_inl, bnd_some, stp, i2, bnd_some, e1, stp, stp, stp]
  unfold fL_goesBack_j22
  have m1 : loopF (fun s_22 => fL_goesBack_b22 s_22.1 (Int32.ofNat b) (Int32.ofNat (1 + v)) s_22.2.1 s_22.2.2) 11 ((x.1, x.2), 0, 0) = some (Sum.inl (y, Int32.ofNat n)) := m1
  have e2 : (x.1, x.2) = x := rfl
  rw [e2] at m1
  show Turn (bnd (loopF (fun s_22 => fL_goesBack_b22 s_22.1 (Int32.ofNat b) (Int32.ofNat (1 + v)) s_22.2.1 s_22.2.2) 11 (x, 0, 0)) _)
  rw [m1, bnd_some]
  exact gb_all m2 m3
end G
