/-! the law's records: all of it -/
section RG
variable {σ : Sto} {τ x : LawS} {D D0 D1 : Doc} {T T0 : Hst} {s m d N x0 : Nat} {par cho : Nat → Nat} {Bf Af : Nat → Doc} {ok : Prop} {v : Int32}
/-- behind the playing -/
theorem rec_played (hs : 1 ≤ s ∧ s ≤ 40) (h : In x.2 D (N, x0, par, cho, Bf, Af)) (hr : Rst x.2) (hl : Ln x D) (hln : lns D1 = lns D) (hd : Dp (N, x0, par, cho, Bf, Af) d) (hd2 : d ≤ 149) (r2 : SR (x.1 2) D) (r3 : SR (x.1 3) D1) (hc : fI x.2 1992 4 = Int32.ofNat s) (hN : N ≤ 150) (h0 : D1 = D1) (hrep : N < 150 → ∃ τ', PLY s (uI x.2 24 3 1) τ' ∧ In τ' D1 (newT D (N, x0, par, cho, Bf, Af))) (hno : N = 150 → ∃ τ1, f11_playStep (uI x.2 24 3 1) 0 = some (0, τ1) ∧ In τ1 D (N, x0, par, cho, Bf, Af) ∧ Sm osh (uI x.2 24 3 1) τ1) : Turn (fL_records_j306 x (Int32.ofNat d) (Int32.ofNat s) 1) := by
  unfold fL_records_j306
  rw [stp, dn_24]
  by_cases hN2 : N < 150
  · obtain ⟨τ', p1, p2⟩ := hrep hN2
    have psm := p1.sm
    have e92 : fI τ' 1992 5 = 0 := by
      rw [(psm 1992 (by unfold osh; omega)).1]
      exact hr.2
    have hpl := play_all hs hr.2 hr.1 hc rfl p1
    have q1 := p2.closed
    have c3 : fI (uI (uI τ' 24 3 0) 24 4 0) 24 3 = 0 := by rw [fI_uI, if_pos rfl, if_neg (by decide), fI_uI, if_pos rfl, if_pos rfl]
    have c5 : fI (uI (uI τ' 24 3 0) 24 4 0) 1992 5 = 0 := by
      rw [fI_uI, if_neg (by decide), fI_uI, if_neg (by decide)]
      exact e92
    generalize uI (uI τ' 24 3 0) 24 4 0 = σ1 at hpl q1 c3 c5
    have w := h.wf
    obtain ⟨u, u1, u2, u3⟩ := like_D (τ := (x.1, σ1)) (a1 := 3) (by decide) (by decide) q1 r3
    have u2 : u.2 = σ1 := u2
    have hu : In u.2 D1 (N + 1, N + 1, upn par (N + 1) x0, upn (upn cho (N + 1) 0) x0 (N + 1), upD Bf (N + 1) D, Af) := by rw [u2]; exact q1
    obtain ⟨d', y1, y2, y3⟩ := q_acts1 hu
    have hdd : d' = d + 1 := y3.uniq (hd.new (D := D) w)
    have y1 : f11_acts (u.1, u.2).2 1 = _ := y1
    obtain ⟨σ2, z1, z2, z3⟩ := undo_1 (σ := (u.1, u.2).2) hu (by omega) (by show Rst u.2; rw [u2]; exact ⟨c3, c5⟩)
    have eB : upD Bf (N + 1) D (N + 1) = D := if_pos rfl
    rw [eB, upn_at] at z2
    obtain ⟨v, v1, v2, v3⟩ := like_D (τ := (u.1, σ2)) (a1 := 2) (by decide) (by decide) z2 (by
      show SR (u.1 2) D
      rw [u3 2 (by decide)]
      exact r2)
    have v2 : v.2 = σ2 := v2
    obtain ⟨σ3, t1, t2, t3⟩ := redo_1 (σ := v.2) (by rw [v2]; exact z2) (by show upn (upn cho (N + 1) 0) x0 (N + 1) x0 ≠ 0; rw [upn_at]; omega) (by rw [v2]; exact z3)
    have eA : upD Af (N + 1) D1 (N + 1) = D1 := if_pos rfl
    rw [upn_at, eA] at t2
    obtain ⟨y, i1, i2, i3⟩ := like_D (τ := (v.1, σ3)) (a1 := 3) (by decide) (by decide) t2 (by
      show SR (v.1 3) D1
      rw [v3 3 (by decide)]
      show SR (u.1 3) D1
      rw [u3 3 (by decide)]
      exact r3)
    have i2 : y.2 = σ3 := i2
    rw [hpl, hdl_inl, bnd_some, stp, if_neg (fun z => by have := (ofNat_z0 (by omega)).mp z; omega), if_neg (show ¬ (1 : Int32) = 0 by decide), if_pos rfl, u1, bnd_some, if_neg (show ¬ (1 : Int32) = 0 by decide), show u.2 = (u.1, u.2).2 from rfl, y1, nox_inl, bnd_some, hdd, i32_succ, if_pos rfl, dn_10, z1, hdl_inl, bnd_some, if_pos rfl, v1, bnd_some, if_neg (show ¬ (1 : Int32) = 0 by decide), dn_11, t1, hdl_inl, bnd_some, if_pos rfl, i1, bnd_some, if_neg (show ¬ (1 : Int32) = 0 by decide)]
    refine ⟨1, y, D1, _, rfl, by rw [i2]; exact t2, by rw [i2]; exact t3, fun k hk => ?_, rfl⟩
    rw [hln, i3 45 (by decide)]
    show _ = v.1 45 k
    rw [v3 45 (by decide)]
    show _ = u.1 45 k
    rw [u3 45 (by decide)]
    exact hl k hk
  · obtain ⟨τ1, p1, p2, p3⟩ := hno (by omega)
    have hpl := play_none hs hr.2 hr.1 hc rfl p1
    have q1 := p2.closed
    have c3 : fI (uI (uI τ1 24 3 0) 24 4 0) 24 3 = 0 := by rw [fI_uI, if_pos rfl, if_neg (by decide), fI_uI, if_pos rfl, if_pos rfl]
    have c5 : fI (uI (uI τ1 24 3 0) 24 4 0) 1992 5 = 0 := by
      rw [fI_uI, if_neg (by decide), fI_uI, if_neg (by decide), (p3 1992 (by unfold osh; omega)).1]
      exact hr.2
    generalize uI (uI τ1 24 3 0) 24 4 0 = σ1 at hpl q1 c3 c5
    obtain ⟨u, u1, u2, u3⟩ := like_D (τ := (x.1, σ1)) (a1 := 2) (by decide) (by decide) q1 r2
    have u2 : u.2 = σ1 := u2
    obtain ⟨a1, -⟩ := q_acts0 q1
    have a1 : f11_acts σ1 0 = some (.inl (150, σ1)) := by
      rw [a1]
      show some (Sum.inl (Int32.ofNat N, σ1)) = _
      rw [show N = 150 by omega]
      rfl
    rw [hpl, hdl_inl, bnd_some, stp, if_pos rfl, if_neg (show ¬ (1 : Int32) = 0 by decide), show ((x.1, σ1) : LawS).2 = σ1 from rfl, a1, nox_inl, bnd_some, if_pos rfl, u1, bnd_some, if_neg (show ¬ (1 : Int32) = 0 by decide)]
    refine ⟨1, u, D, _, rfl, by rw [u2]; exact q1, by rw [u2]; exact ⟨c3, c5⟩, fun k hk => ?_, rfl⟩
    rw [u3 45 (by decide)]
    exact hl k hk
theorem In.rs (h : In σ D T) : ∃ n : Nat, n ≤ 40 ∧ fI σ 1992 4 = Int32.ofNat n := by
  obtain ⟨μ, L, B, H, h⟩ := h
  obtain ⟨sn, s1, s2, -⟩ := h.steps
  exact ⟨sn, s1, s2⟩
/-- behind the recording -/
theorem rec_tail (hR : RI ok D T x.2 s) (hs : s ≤ 1) (hsv : (v < 0 ∧ s = 0) ∨ (0 ≤ v ∧ s = 1 ∧ ok)) {v9 : Nat} (h9 : v9 < 5) (hT : T = (N, x0, par, cho, Bf, Af)) (hw : WF T) (hd : Dp T d) (r2 : SR (x.1 2) D) (hl : ∀ k, k < 16 → (lns D).1 k = x.1 45 k) : Turn (fL_records_j104 x (Int32.ofNat d) 1 v (Int32.ofNat v9) (Int32.ofNat s)) := by
  unfold fL_records_j104
  have h01 : fL_one (Int32.ofNat s) = some (Int32.ofNat s) := one_hd (by
    rcases Nat.eq_zero_or_pos s with e | e
    · rw [e]; exact Or.inl rfl
    · rw [show s = 1 by omega]; exact Or.inr rfl)
  obtain ⟨k0, z1, x1, a1, a2, a3, a4, a5⟩ := nextm x 4 (by decide) (by decide)
  have a3 : z1 - z1 / (4 : Int32) * (4 : Int32) = Int32.ofNat k0 := a3
  rw [h01, bnd_some, stp, a2, bnd_some, a3, stp]
  unfold fL_records_j117
  have key : Ok (loopF (fun s_117 => fL_records_b117 s_117.1 (Int32.ofNat d) 1 v (Int32.ofNat v9) s_117.2.1 s_117.2.2) 4 (x1, Int32.ofNat s, Int32.ofNat k0)) (fun r => ∃ y s', r = (y, Int32.ofNat s') ∧ RI ok D T y.2 s' ∧ s' ≤ 4 ∧ s ≤ s' ∧ FR (fun b => b ≠ 0) x1 y) := by
    refine Ok_count k0 (fun j z => ∃ y s', z = (y, Int32.ofNat s', Int32.ofNat (k0 - j)) ∧ RI ok D T y.2 s' ∧ s' ≤ s + j ∧ s ≤ s' ∧ FR (fun b => b ≠ 0) x1 y) ?_ 0 ⟨x1, s, rfl, by rw [a4]; exact hR, by omega, by omega, FR.rf⟩ (by omega) (by omega)
    rintro j z hj ⟨y, s', rfl, y1, y2, y3, y4⟩
    show Ok (fL_records_b117 y (Int32.ofNat d) 1 v (Int32.ofNat v9) (Int32.ofNat s') (Int32.ofNat (k0 - j))) _
    by_cases q : k0 - j = 0
    · unfold fL_records_b117
      rw [if_pos ((i32_le0 (by omega)).mpr q), Ok_some, lp_inr]
      exact ⟨y, s', rfl, y1, by omega, y3, y4⟩
    · obtain ⟨y', s'', e1, e2, e3, e4, e5⟩ := rec_next (l6 := Int32.ofNat d) (l7 := 1) (l8 := v) y1 (show s' < 40 by omega) (k := k0 - (j + 1)) (by omega) h9
      rw [show k0 - j = k0 - (j + 1) + 1 by omega, e1, Ok_some, lp_inl]
      exact ⟨by omega, y', s'', rfl, e2, by omega, by omega, y4.trans e5⟩
  obtain ⟨r, m1, y, s', rfl, m2, m3, m4, m5⟩ := key
  obtain ⟨D1, T1, i1, i2, i3, i4, i5, i6⟩ := m2
  obtain ⟨σ1, j1, j2, j3, j4, j5⟩ := q_record i1 (x := 0) (Or.inl rfl)
  rw [if_pos rfl, i4] at j5
  rw [i4] at j1
  obtain ⟨σ2, k1, k2, k3, k4, k5, k6⟩ := q_group j2 (x := 0) (Or.inl rfl)
  have e3 : fI σ1 24 3 = 1 := by rw [(j3 24 (by decide)).1]; exact i2
  have hr2 : Rst σ2 := ⟨k5, by rw [(k4 1992 (by decide)).1]; exact j4⟩
  have hrow : ∀ b, b ≠ 0 → y.1 b = x.1 b := fun b hb => (m5 b hb).trans (a5 b hb)
  rw [m1, bnd_some, if_neg (show ¬ (1 : Int32) = 0 by decide), j1, bnd_some, if_pos rfl, dn_13f, show ((y.1, σ1) : LawS).2 = σ1 from rfl, k1, bnd_some, e3, show fL_one 1 = some 1 from rfl, bnd_some, bnd_some, if_pos rfl]
  unfold fL_records_j243
  rw [stp]
  rcases hsv with ⟨w1, -⟩ | ⟨w1, w2, w3⟩
  · rw [if_neg (by grind)]
    refine ⟨1, (y.1, σ2), D1, T1, rfl, k3, hr2, fun k hk => ?_, rfl⟩
    rw [i5]
    show _ = y.1 45 k
    rw [hrow 45 (by decide)]
    exact hl k hk
  · obtain ⟨o1, o2, o3⟩ := i6 w3
    subst o1
    subst hT
    rw [if_pos w1]
    obtain ⟨x5, b1, b2, b3, b4⟩ := sees_D (τ := (y.1, σ2)) (a1 := 3) (by decide) k3
    have b2 : x5.2 = σ2 := b2
    have h5 : In x5.2 D1 (N + 1, N + 1, upn par (N + 1) x0, upn (upn cho (N + 1) 0) x0 (N + 1), upD Bf (N + 1) D, Af) := by rw [b2]; exact k3
    obtain ⟨d', y1, y2, y3⟩ := q_acts1 h5
    have hdn := hd.new (D := D) hw
    have hdd : d' = d + 1 := y3.uniq hdn
    obtain ⟨σ6, c1, c2, c3, c4⟩ := q_undo (l := 1) (σ := (x5.1, x5.2).2) h5 (by omega) (by omega) (fun i hi => by rw [show i = 0 by omega]; show N + 1 ≠ 0; omega)
    have c1 : f11_undo (x5.1, x5.2).2 1 = some (.inl (1, σ6)) := c1
    have eB : upD Bf (N + 1) D (N + 1) = D := if_pos rfl
    have c2 : In σ6 (upD Bf (N + 1) D (N + 1)) (N + 1, upn par (N + 1) x0 (N + 1), upn par (N + 1) x0, upn (upn cho (N + 1) 0) x0 (N + 1), upD Bf (N + 1) D, upD Af (N + 1) D1) := c2
    rw [eB, upn_at] at c2
    have hr6 : Rst σ6 := ⟨c3.1, by rw [(c4 1992 (by unfold osh; omega)).1]; show fI x5.2 1992 5 = 0; rw [b2]; exact hr2.2⟩
    obtain ⟨x6, g1, g2, g3⟩ := like_D (τ := (x5.1, σ6)) (a1 := 2) (by decide) (by decide) c2 (by
      show SR (x5.1 2) D
      rw [b3 2 (by decide)]
      show SR (y.1 2) D
      rw [hrow 2 (by decide)]
      exact r2)
    have g2 : x6.2 = σ6 := g2
    have y1 : f11_acts x5.2 1 = _ := y1
    rw [b1, bnd_some, if_neg (show ¬ (1 : Int32) = 0 by decide), y1, nox_inl, bnd_some, hdd, i32_succ, if_pos rfl, dn_10, c1, hdl_inl, bnd_some, if_pos rfl, g1, bnd_some, if_neg (show ¬ (1 : Int32) = 0 by decide)]
    have ha : Aux s' y.2 (uI x6.2 24 3 1) := by
      have u1 : Aux s' y.2 σ1 := Aux.of j3 (by decide) (by decide) (by decide) (by decide) (by decide) (by decide) (by decide) (by decide)
      have u2 : Aux s' σ1 σ2 := Aux.of k4 (by decide) (by decide) (by decide) (by decide) (by decide) (by decide) (by decide) (by decide)
      have u3 : Aux s' σ2 σ6 := by
        have := Aux.ofo (s := s') c4
        have e : ((x5.1, x5.2) : LawS).2 = σ2 := b2
        rw [e] at this
        exact this
      have u4 : Aux s' σ6 (uI x6.2 24 3 1) := by
        rw [g2]
        exact Aux.of (P := fun a => a ≠ 24) (Sm.uI (fun b hb => hb)) (by decide) (by decide) (by decide) (by decide) (by decide) (by decide) (by decide) (by decide)
      exact ((u1.trans u2).trans u3).trans u4
    have hx6 : In x6.2 D (N + 1, x0, upn par (N + 1) x0, upn (upn cho (N + 1) 0) x0 (N + 1), upD Bf (N + 1) D, upD Af (N + 1) D1) := by rw [g2]; exact c2
    have hc6 : fI x6.2 1992 4 = Int32.ofNat s' := by
      rw [g2, (c4 1992 (by unfold osh; omega)).1]
      show fI x5.2 1992 4 = _
      rw [b2, (k4 1992 (by decide)).1]
      exact j5
    have hr6' : Rst x6.2 := by rw [g2]; exact hr6
    have t3 : fI (uI x6.2 24 3 1) 24 3 = 1 := by rw [fI_uI, if_pos rfl, if_pos rfl]
    have t4 : fI (uI x6.2 24 3 1) 24 4 = 0 := by
      rw [fI_uI, if_pos rfl, if_neg (by decide)]
      exact hx6.grp hr6'.1
    have hdp : Dp (N + 1, x0, upn par (N + 1) x0, upn (upn cho (N + 1) 0) x0 (N + 1), upD Bf (N + 1) D, upD Af (N + 1) D1) d := by
      have hdn' : Dp (N + 1, N + 1, upn par (N + 1) x0, upn (upn cho (N + 1) 0) x0 (N + 1), upD Bf (N + 1) D, Af) (d + 1) := hdn
      have := hdn'.back (j := 1) (by omega) (Af' := upD Af (N + 1) D1)
      have e : upw (upn par (N + 1) x0) 1 (N + 1) = x0 := upn_at
      rw [e] at this
      exact this
    refine rec_played (D1 := D1) ⟨by omega, by omega⟩ hx6 hr6' (fun k hk => ?_) i5 hdp (by omega) ?_ ?_ hc6 hx6.wf.1 rfl (fun hN => ?_) (fun hN => ?_)
    · rw [g3 45 (by decide)]
      show _ = x5.1 45 k
      rw [b3 45 (by decide)]
      show _ = y.1 45 k
      rw [hrow 45 (by decide)]
      exact hl k hk
    · rw [g3 2 (by decide)]
      show SR (x5.1 2) D
      rw [b3 2 (by decide)]
      show SR (y.1 2) D
      rw [hrow 2 (by decide)]
      exact r2
    · rw [g3 3 (by decide)]
      exact b4
    · obtain ⟨τ', p1, p2, -⟩ := o3.2 (uI x6.2 24 3 1) _ hx6.grp1 t3 t4 hN ha
      exact ⟨τ', p1, p2⟩
    · obtain ⟨f1, m', f2, f3, f4, f5⟩ := o3.1.2.aux ha o3.1.1
      have hin := hx6.grp1
      generalize uI x6.2 24 3 1 = τ0 at hin f1 f4 f5 t3 t4
      obtain ⟨f, n, hd', c, cu, ma, lf, ml⟩ := D
      obtain ⟨K, a, b, l, X, ⟨r, σ7, D2, T2, e1, e2, e4, e5⟩, hK⟩ := one_typed hin (a1 := 1996) (s := 0) (m := m') (by omega) (by omega) (by show 0 + m' ≤ 8000; omega) (fun i hi => by rw [Nat.zero_add]; exact f5 i hi)
      obtain ⟨p, q1, q2⟩ := bnd_split e1
      have q1 : f11_planAtCursors τ0 1996 0 (Int32.ofNat m') = some p := q1
      have hr0 : r = 0 := by
        rcases e2 with z | z
        · exact z
        · exfalso
          rcases e5.2.2 z with ⟨k, -⟩ | ⟨-, -, -, ⟨-, ⟨-, k, -⟩ | ⟨k, -⟩⟩, -⟩
          · exact hK f2 k
          · have k : N + 1 < 150 := k
            omega
          · exact k t4
      subst hr0
      obtain ⟨n1, n2, -⟩ := (e5.2.1 rfl).1
      subst n1 n2
      refine ⟨σ7, ?_, e4, e5.1⟩
      have ik : inb (0 : Int32) 40 = true := by decide
      have c0 : (0 : Int32).toNatClampNeg = 0 := by decide
      have e0 : (0 : Int32) * (200 : Int32) = 0 := by decide
      unfold f11_playStep
      rw [ik, gd_true, c0, stp, gd_true, f1, f4, if_pos (by decide), e0, q1, bnd_some, q2, bnd_some]
      rfl
theorem records_ok (h : In τ.2 D T) (hr : Rst τ.2) (hl : Ln τ D) : Turn (fL_records τ) := by
  obtain ⟨N, x0, par, cho, Bf, Af⟩ := T
  obtain ⟨m, x1, d1, d2, d3, d4, d5⟩ := draws_ok τ
  unfold fL_records
  rw [d2, bnd_some, stp]
  have h1 : In x1.2 D (N, x0, par, cho, Bf, Af) := by rw [d3]; exact h
  have r1 : Rst x1.2 := by rw [d3]; exact hr
  by_cases hm : Int32.ofNat m = 0
  · rw [if_pos hm]
    unfold fL_records_j24
    rw [if_pos hm]
    exact ⟨1, x1, D, _, rfl, h1, r1, fun k hk => by rw [d4 45 (by decide)]; exact hl k hk, rfl⟩
  · have hm1 : 1 ≤ m := by
      rcases Nat.eq_zero_or_pos m with e | e
      · rw [e] at hm
        exact absurd rfl hm
      · exact e
    obtain ⟨σ2, f1, f2, f3, f4, f5⟩ := feeds_ok (a1 := 43) h1 (show m ≤ 40 by omega) (show m ≤ 40 by omega) d5
    obtain ⟨q24, q92⟩ := f3.q (by omega) (by omega)
    have r2 : Rst σ2 := ⟨by rw [q24]; exact r1.1, by rw [q92]; exact r1.2⟩
    obtain ⟨x3, s1, s2, s3, s4⟩ := sees_D (τ := (x1.1, σ2)) (a1 := 2) (by decide) f2
    have s2 : x3.2 = σ2 := s2
    have h3 : In x3.2 D (N, x0, par, cho, Bf, Af) := by rw [s2]; exact f2
    obtain ⟨d, y1, y2, y3⟩ := q_acts1 h3
    obtain ⟨σ4, g1, g2, g3, g4, g5, g6⟩ := q_group h3 (x := 1) (Or.inr rfl)
    have e3 : fI x3.2 24 3 = 0 := by rw [s2]; exact r2.1
    rw [e3] at g1
    have g1 : f11_group (x3.1, x3.2).2 1 = some (0, σ4) := g1
    obtain ⟨sn, n1, n2⟩ := g3.rs
    obtain ⟨σ5, j1, j2, j3, j4, j5⟩ := q_record g3 (x := 1) (Or.inr rfl)
    rw [n2] at j1
    rw [if_neg (show ¬ (1 : Int32) = 0 by decide)] at j5
    rw [if_neg hm, f1, bnd_some, if_neg (show ¬ (1 : Int32) = 0 by decide), s1, bnd_some, y1, nox_inl, bnd_some, stp, dn_13t, g1, bnd_some, show fL_one 0 = some 0 from rfl, bnd_some, bnd_some, if_pos rfl, show ((x3.1, σ4) : LawS).2 = σ4 from rfl, j1, bnd_some, if_neg (i32_lt0 (by omega))]
    unfold fL_records_j74
    have c8 : fI σ5 8 1 = Int32.ofNat m := by rw [(j3 8 (by decide)).1, (g4 8 (by decide)).1, s2]; exact f4
    have c9 : ∀ i, i < m → isLt (aI σ5 9 i) = true := fun i hi => by
      rw [(j3 9 (by decide)).2.2.1, (g4 9 (by decide)).2.2.1, s2, f5 i hi]
      exact d5 i hi
    obtain ⟨v, σ6, t1, t2⟩ := rec_type (τ := (x3.1, σ5)) j2 (by show fI σ5 24 3 = 1; rw [(j3 24 (by decide)).1]; exact g5) (by show fI σ5 24 4 = 0; rw [(j3 24 (by decide)).1]; exact g6) j4 j5 c8 ⟨hm1, by omega⟩ c9
    obtain ⟨v5, z5, x7, b1, b2, b3, b4, b5⟩ := nextm (x3.1, σ6) 5 (by decide) (by decide)
    have b3 : z5 - z5 / (5 : Int32) * (5 : Int32) = Int32.ofNat v5 := b3
    have b4 : x7.2 = σ6 := b4
    have R2 : SR (x7.1 2) D := by
      rw [b5 2 (by decide)]
      exact s4
    have R45 : ∀ k, k < 16 → (lns D).1 k = x7.1 45 k := fun k hk => by
      rw [b5 45 (by decide)]
      show _ = x3.1 45 k
      rw [s3 45 (by decide)]
      show _ = x1.1 45 k
      rw [d4 45 (by decide)]
      exact hl k hk
    rw [stp, t1, bnd_some, stp, b2, bnd_some, b3, stp]
    rcases t2 with ⟨w1, w2⟩ | ⟨w1, w2⟩
    · rw [if_pos w1]
      exact rec_tail (s := 0) (ok := False) (by rw [b4]; exact w2) (by omega) (Or.inl ⟨w1, rfl⟩) b1 rfl h.wf y3 R2 R45
    · rw [if_neg (by grind)]
      exact rec_tail (s := 1) (ok := True) (by rw [b4]; exact w2) (by omega) (Or.inr ⟨w1, rfl, trivial⟩) b1 rfl h.wf y3 R2 R45
end RG
