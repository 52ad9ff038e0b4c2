/-! the law's replacesAll -/
section DN
variable {τ : LawS} {a b c w : Int32}
theorem dn_22w (h : w = 0 ∨ w = 1) : fL_done τ 22 w b c = hdl τ.1 (f11_setPattern τ.2 w) fun p => some (p.1, (τ.1, p.2)) := by
  rcases h with rfl | rfl
  · exact dn_22f
  · exact dn_22t
end DN
section RB
variable {τ x y : LawS} {f : Nat → Int32} {n pn c N : Nat} {hd : Nat → Int32} {cu : Nat → Nat} {ma lf ml : Nat → Int32} {v l7 l8 : Int32} {T : Hst}
theorem ra_letters (h : OB x.2 (f, n, hd, c, cu, ma, lf, ml)) (hs : ∀ i, i < n → x.1 42 (400 + i) = f i) : loopF (fun s_557 => fL_replacesAll_b557 s_557.1 l7 l8 (Int32.ofNat n) s_557.2) FU (x, 0) = some (.inl x) := by
  have hn := h.1.1
  apply Ok_eq
  refine Ok_count n (fun k z => z = (x, Int32.ofNat k)) ?_ 0 rfl (Nat.zero_le _) (by (show _ < FU; unfold FU; omega))
  rintro k z hk rfl
  show Ok (fL_replacesAll_b557 x l7 l8 (Int32.ofNat n) (Int32.ofNat k)) _
  unfold fL_replacesAll_b557
  by_cases q : n ≤ k
  · rw [if_pos ((i32_le (by omega) (by omega)).mpr q), Ok_some, lp_inr]
  · have e4 : (400 : Int32) + Int32.ofNat k = Int32.ofNat (400 + k) := i32_add (p := 400)
    rw [if_neg (fun z => q ((i32_le (by omega) (by omega)).mp z)), ob_letter h (by omega), nox_inl, bnd_some, e4, i35 (by omega), gd_true, ofNat_clamp (by omega), hs k (by omega), if_pos rfl, stp, i32_succ, Ok_some, lp_inl]
    exact ⟨by omega, rfl⟩
theorem or01 {u w : Int32} (hu : u = 0 ∨ u = 1) (hw : w = 0 ∨ w = 1) : (u ||| w = 0 ∨ u ||| w = 1) ∧ (u = 1 → u ||| w = 1) ∧ (w = 1 → u ||| w = 1) := by
  rcases hu with rfl | rfl <;> rcases hw with rfl | rfl <;> decide
theorem ra_touch {k i0 : Nat} (h1 : k ≤ i0) (h2 : i0 ≤ k + pn) (hk : k + pn < 3500) (h01 : ∀ i, i < 3500 → x.1 46 i = 0 ∨ x.1 46 i = 1) (hit : x.1 46 i0 = 1) : fL_replacesAll_j629 x (Int32.ofNat pn) v (Int32.ofNat N) (Int32.ofNat k) 0 (Int32.ofNat k) = some (.inl (Int32.ofNat (k + 1))) := by
  have key : Ok (loopF (fun s_629 => fL_replacesAll_b629 x (Int32.ofNat pn) v (Int32.ofNat N) (Int32.ofNat k) s_629.1 s_629.2) FU (0, Int32.ofNat k)) (fun r => r = 1) := by
    refine Ok_count (pn + 1) (fun j z => ∃ u, z = (u, Int32.ofNat (k + j)) ∧ (u = 0 ∨ u = 1) ∧ (i0 < k + j → u = 1)) ?_ 0 ⟨0, rfl, Or.inl rfl, fun z => by omega⟩ (Nat.zero_le _) (by (show _ < FU; unfold FU; omega))
    rintro j z hj ⟨u, rfl, u1, u2⟩
    show Ok (fL_replacesAll_b629 x (Int32.ofNat pn) v (Int32.ofNat N) (Int32.ofNat k) u (Int32.ofNat (k + j))) _
    unfold fL_replacesAll_b629
    rw [i32_add]
    by_cases q : k + pn < k + j
    · rw [if_pos ((i32n_lt (by omega) (by omega)).mpr q), Ok_some, lp_inr]
      exact u2 (by omega)
    · obtain ⟨o1, o2, o3⟩ := or01 u1 (h01 (k + j) (by omega))
      rw [if_neg (fun z => q ((i32n_lt (by omega) (by omega)).mp z)), i35 (by omega), gd_true, ofNat_clamp (by omega), stp, stp, i32_succ, Ok_some, lp_inl]
      refine ⟨by omega, _, rfl, o1, fun z => ?_⟩
      by_cases e : i0 = k + j
      · exact o3 (by rw [← e]; exact hit)
      · exact o2 (u2 (by omega))
  obtain ⟨r, k1, rfl⟩ := key
  unfold fL_replacesAll_j629
  rw [k1, bnd_some, if_neg (by decide)]
  unfold fL_replacesAll_j662
  rw [stp, i32_succ]
theorem ra_left {K m : Nat} {a b l : Nat → Nat} {X : Nat → Nat → Int32} {pt : Nat → Int32} (F : Fnd (fdB f n pt pn v) n pn m K a b l) (hpn : 1 ≤ pn ∧ pn ≤ 8) (hN : nA n K a b l 0 ≤ 3000) (s0 : x.1 42 0 = Int32.ofNat (nA n K a b l 0)) (s1 : ∀ i, i < nA n K a b l 0 → x.1 42 (400 + i) = spA f K a b l X 0 i) (s2 : ∀ i, i < 3500 → (x.1 46 i = 0 ∨ x.1 46 i = 1) ∧ ((∃ k, k < K ∧ pbg a b l k ≤ i ∧ i ≤ pbg a b l k + l k) → x.1 46 i = 1)) (s3 : ∀ k, k < pn → x.1 44 k = pt k) : fL_replacesAll_j597 x (Int32.ofNat pn) v (Int32.ofNat (nA n K a b l 0)) 0 = some (1, x) := by
  have key : Ok (loopF (fun s_597 => fL_replacesAll_b597 x (Int32.ofNat pn) v (Int32.ofNat (nA n K a b l 0)) s_597) FU 0) (fun r => r = .inl ()) := by
    refine Ok_count (nA n K a b l 0) (fun k z => z = Int32.ofNat k) ?_ 0 rfl (Nat.zero_le _) (by (show _ < FU; unfold FU; omega))
    rintro k z hk rfl
    show Ok (fL_replacesAll_b597 x (Int32.ofNat pn) v (Int32.ofNat (nA n K a b l 0)) (Int32.ofNat k)) _
    unfold fL_replacesAll_b597
    by_cases q : nA n K a b l 0 ≤ k
    · rw [if_pos ((i32_le (by omega) (by omega)).mpr q), Ok_some, lp_inr]
    · have hf := fL_find (τ := x) (a0 := 42) (v := v) (by decide) s0 hN hpn.2 (show k ≤ 3000 by omega)
      rw [if_neg (fun z => q ((i32_le (by omega) (by omega)).mp z)), hf, bnd_some, ite_tz]
      by_cases hf2 : fdB (fun i => x.1 42 (400 + i)) (nA n K a b l 0) (x.1 44) pn v k = true
      · have hf3 : fdB (fun i => x.1 42 (400 + i)) (nA n K a b l 0) pt pn v k = true := by
          rw [← fdB_ext (fun _ _ => rfl) s3]
          exact hf2
        obtain ⟨j, j1, j2, j3⟩ := find_left (fun i => x.1 42 (400 + i)) pt v F s1 hf3 hpn.1
        have hin := fdB_in hf2
        have ht := ra_touch (x := x) (v := v) (N := nA n K a b l 0) (k := k) (pn := pn) (i0 := max k (pbg a b l j)) (by omega) (by omega) (by omega) (fun i hi => (s2 i hi).1) ((s2 _ (by omega)).2 ⟨j, j1, by omega, by omega⟩)
        rw [if_pos hf2, stp, stp, ht, Ok_some, lp_inl]
        exact ⟨by omega, rfl⟩
      · rw [if_neg hf2]
        unfold fL_replacesAll_j662
        rw [stp, i32_succ, Ok_some, lp_inl]
        exact ⟨by omega, rfl⟩
  obtain ⟨r, k1, rfl⟩ := key
  unfold fL_replacesAll_j597
  rw [k1, bnd_some]
/-- behind the act -/
theorem ra_end {K m d : Nat} {a b l : Nat → Nat} {X : Nat → Nat → Int32} {pt : Nat → Int32} {T' : Hst} {hd' : Nat → Int32} {c' : Nat} {cu' : Nat → Nat} {f' ma' lf' ml' : Nat → Int32} (F : Fnd (fdB f n pt pn v) n pn m K a b l) (hpn : 1 ≤ pn ∧ pn ≤ 8) (hn : n ≤ 3000) (hm : m ≤ 12) (hK : K ≤ 3000) (hin : In x.2 (f', nA n K a b l 0, hd', c', cu', ma', lf', ml') T') (hrs : Rst x.2) (hl : Ln x (f', nA n K a b l 0, hd', c', cu', ma', lf', ml')) (hf' : ∀ i, i < nA n K a b l 0 → f' i = spA f K a b l X 0 i) (hX : ∀ k t, k < K → t < m → X k t = x.1 43 t) (hf : ∀ i, i < n → x.1 41 (400 + i) = f i) (h0 : x.1 41 0 = Int32.ofNat n) (hpt : ∀ k, k < pn → x.1 44 k = pt k) (hD : Dp T' (d + if K = 0 then 0 else 1)) (hd3 : d ≤ 150) : Turn (fL_replacesAll_j332 x (Int32.ofNat pn) v (Int32.ofNat m) (Int32.ofNat d) (Int32.ofNat K) 0 0 0 0) := by
  have hN := hin.gd.1
  have hN : nA n K a b l 0 ≤ 3000 := hN
  unfold fL_replacesAll_j332
  obtain ⟨y, y1, y2, y3, y4⟩ := ra_clear (x := x) (l7 := Int32.ofNat pn) (l8 := v) (l13 := Int32.ofNat m) (l14 := Int32.ofNat d) (l15 := Int32.ofNat K) (l16 := 0) (l17 := 0) (l18 := 0)
  rw [y1, bnd_some]
  unfold fL_replacesAll_j352
  have hP : ∀ p, p ≤ n → lkP y 41 n pn v p = fdB f n pt pn v p := fun p _ => by
    unfold lkP
    refine fdB_ext (fun i hi => ?_) (fun k hk => ?_)
    · rw [y3 41 (by decide)]
      exact hf i hi
    · rw [y3 44 (by decide)]
      exact hpt k hk
  obtain ⟨z, z1, z2⟩ := scan_all (f := f) (x0 := y) (l14 := Int32.ofNat d) (l15 := Int32.ofNat K) (X := X) F hpn hn hm hN hK (fun k t k1 k2 => by rw [y3 43 (by decide)]; exact hX k t k1 k2) (fun i hi => by rw [y3 41 (by decide)]; exact hf i hi) (by rw [y3 41 (by decide)]; exact h0) hP y4
  obtain ⟨-, -, -, -, -, s6, s7, s8, s9⟩ := z2
  have ez : z.2 = x.2 := s6.trans y2
  have hz : In z.2 (f', nA n K a b l 0, hd', c', cu', ma', lf', ml') T' := by rw [ez]; exact hin
  obtain ⟨d2, e1, e2, e3⟩ := q_acts1 hz
  have hdd := e3.uniq hD
  have e1 : f11_acts (z.1, z.2).2 1 = _ := e1
  rw [z1, bnd_some, if_pos rfl, ob_c0 hz.ob, nox_inl, bnd_some, if_pos rfl, show z.2 = (z.1, z.2).2 from rfl, e1, nox_inl, bnd_some]
  have tail : ∀ s2 : Int32, (s2 = 0 ∨ s2 = 1) → Int32.ofNat d2 = Int32.ofNat d + s2 → Turn (fL_replacesAll_j545 (z.1, z.2) (Int32.ofNat pn) v (Int32.ofNat (nA n K a b l 0)) (Int32.ofNat d2) (Int32.ofNat d) s2) := by
    intro s2 h01 he
    unfold fL_replacesAll_j545
    rw [one_hd h01, bnd_some, if_pos he, stp]
    unfold fL_replacesAll_j557
    have i0 : inb (0 : Int32) 3500 = true := by decide
    have c0 : (0 : Int32).toNatClampNeg = 0 := by decide
    rw [ra_letters (x := (z.1, z.2)) hz.ob (fun i hi => by rw [hf' i hi]; exact s8 i hi), bnd_some]
    show Turn (gd (inb (0 : Int32) 3500) <| stp (uT (z.1, z.2) 42 (Int32.toNatClampNeg (0 : Int32)) (Int32.ofNat (nA n K a b l 0))) fun τx_9 => stp (0 : Int32) fun x19_10 => fL_replacesAll_j597 τx_9 (Int32.ofNat pn) v (Int32.ofNat (nA n K a b l 0)) x19_10)
    rw [i0, gd_true, c0, stp, stp, ra_left (x := uT (z.1, z.2) 42 0 (Int32.ofNat (nA n K a b l 0))) (X := X) F hpn hN ?_ ?_ ?_ ?_]
    · refine ⟨1, _, _, T', rfl, hz, by show Rst z.2; rw [ez]; exact hrs, fun k hk => ?_, rfl⟩
      show _ = up2 z.1 42 0 (Int32.ofNat (nA n K a b l 0)) 45 k
      rw [up2_ne (by decide), s7 45 (by decide), y3 45 (by decide)]
      exact hl k hk
    · exact (up2_at (r := z.1) (a := 42) (k := 0) (j := 0) (v := Int32.ofNat (nA n K a b l 0))).trans (if_pos rfl)
    · intro i hi
      show up2 z.1 42 0 (Int32.ofNat (nA n K a b l 0)) 42 (400 + i) = _
      rw [up2_at, if_neg (by omega)]
      exact s8 i hi
    · intro i hi
      show (up2 z.1 42 0 (Int32.ofNat (nA n K a b l 0)) 46 i = 0 ∨ up2 z.1 42 0 (Int32.ofNat (nA n K a b l 0)) 46 i = 1) ∧ (_ → up2 z.1 42 0 (Int32.ofNat (nA n K a b l 0)) 46 i = 1)
      rw [up2_ne (by decide)]
      exact s9 i hi
    · intro k hk
      show up2 z.1 42 0 (Int32.ofNat (nA n K a b l 0)) 44 k = _
      rw [up2_ne (by decide), s7 44 (by decide), y3 44 (by decide)]
      exact hpt k hk
  by_cases hK0 : K = 0
  · rw [if_pos hK0] at hdd
    rw [if_pos ((i32_le0 (by omega)).mpr hK0)]
    exact tail 0 (Or.inl rfl) (by rw [hdd, Int32.add_zero]; rfl)
  · rw [if_neg hK0] at hdd
    rw [if_neg (fun z => hK0 ((i32_le0 (by omega)).mp z))]
    exact tail 1 (Or.inr rfl) (by rw [hdd, i32_succ])
theorem replacesAll_ok (h : In τ.2 (f, n, hd, c, cu, ma, lf, ml) T) (hr : Rst τ.2) (hl : Ln τ (f, n, hd, c, cu, ma, lf, ml)) : Turn (fL_replacesAll τ) := by
  have hn := h.gd.1
  have i0 : inb (0 : Int32) 3500 = true := by decide
  have c0 : (0 : Int32).toNatClampNeg = 0 := by decide
  obtain ⟨x1, k1, k2, k3, k4⟩ := sees_ok (a1 := 41) (by decide) h.ob
  obtain ⟨v1, x2, i1, i2, i4, i5⟩ := from_ok x1 (lo := 1) (hi := 3) 3 (by decide) (by decide) (by decide)
  have e1 : (1 : Int32) + Int32.ofNat v1 = Int32.ofNat (1 + v1) := i32_add (p := 1)
  generalize hpn : 1 + v1 = pn at e1
  have hp3 : 1 ≤ pn ∧ pn ≤ 3 := by omega
  obtain ⟨x3, p1, p2, p3, p4⟩ := ra_pat (τ := x2) hp3
  obtain ⟨v4, z4, x4, a1, a2, a3, a4, a5⟩ := nextm x3 4 (by decide) (by decide)
  have a3 : z4 - z4 / (4 : Int32) * (4 : Int32) = Int32.ofNat v4 := a3
  unfold fL_replacesAll
  rw [k1, bnd_some, i2, bnd_some, e1, stp, stp]
  unfold fL_replacesAll_j16
  rw [p1, bnd_some, a2, bnd_some, a3]
  have e4 : x4.2 = τ.2 := a4.trans (p2.trans (i4.trans k2))
  have h4 : In x4.2 (f, n, hd, c, cu, ma, lf, ml) T := by rw [e4]; exact h
  have r4 : Rst x4.2 := by rw [e4]; exact hr
  have fr4 : FR (fun b => b ≠ 0 ∧ b ≠ 41 ∧ b ≠ 44) τ x4 := (k3.weak (fun b hb => hb.2.1)).trans ((i5.weak (fun b hb => hb.1) : FR (fun b => b ≠ 0 ∧ b ≠ 41 ∧ b ≠ 44) x1 x2).trans ((p3.weak (fun b hb => ⟨hb.1, hb.2.2⟩) : FR (fun b => b ≠ 0 ∧ b ≠ 41 ∧ b ≠ 44) x2 x3).trans (a5.weak (fun b hb => hb.1))))
  have r41 : x4.1 41 = x1.1 41 := (a5 41 (by decide)).trans ((p3 41 (by decide)).trans (i5 41 (by decide)))
  have s41 : SR (x4.1 41) (f, n, hd, c, cu, ma, lf, ml) := by rw [r41]; exact k4
  have l44 : ∀ k, k < pn → isLt (x4.1 44 k) = true := fun k hk => by rw [a5 44 (by decide)]; exact p4 k hk
  have main : ∀ w : Int32, (w = 0 ∨ w = 1) → Turn (fL_replacesAll_j71 x4 (Int32.ofNat pn) w) := by
    intro w hw
    obtain ⟨σ5, f1, f2, f3, f4, f5⟩ := feeds_ok (a1 := 44) h4 (show pn ≤ 40 by omega) (show pn ≤ 8 by omega) l44
    unfold fL_replacesAll_j71
    rw [stp, f1, bnd_some, if_neg (show ¬ (1 : Int32) = 0 by decide), stp, stp]
    have f5 : ∀ k, k < pn → aI σ5 9 k = x4.1 44 k := f5
    have hP0 : ∀ p, p ≤ n → lkP (x4.1, σ5) 41 n pn w p = fdB f n (x4.1 44) pn w p := fun p _ => fdB_ext (fun i hi => s41.2.2.2.2.2.2 i hi) (fun _ _ => rfl)
    have h41 : ((x4.1, σ5) : LawS).1 41 0 = Int32.ofNat n := s41.1
    unfold fL_replacesAll_j92
    rw [ra_count h41 hn (by omega) hP0, bnd_some, one_hd hw, bnd_some, dn_22w hw]
    obtain ⟨σ6, g1, g2, g3, g4, g5, g6⟩ := q_setPattern (σ := σ5) f2 f4 ⟨by omega, by omega⟩ hw
    have ecB : fdB f n (aI σ5 9) pn w = fdB f n (x4.1 44) pn w := funext (fun p => fdB_ext (fun _ _ => rfl) f5)
    rw [ecB] at g1
    rw [show ((x4.1, σ5) : LawS).2 = σ5 from rfl, g1, hdl_inl, bnd_some, if_pos rfl]
    -- a place; finds from it
    obtain ⟨va, za, x7, b1, b2, b3, b4, b5⟩ := nextm (x4.1, σ6) (n + 1) (by omega) (by omega)
    have b3 : za - za / (Int32.ofNat n + 1) * (Int32.ofNat n + 1) = Int32.ofNat va := by rw [i32_succ]; exact b3
    have nz2 : nz (Int32.ofNat n + 1) = true := nz_iff.mpr (fun z => by rw [i32_succ] at z; have := (ofNat_z0 (by omega)).mp z; omega)
    have b4 : x7.2 = σ6 := b4
    have q41 : x7.1 41 = x4.1 41 := b5 41 (by decide)
    have q44 : x7.1 44 = x4.1 44 := b5 44 (by decide)
    have h41' : x7.1 41 0 = Int32.ofNat n := by rw [q41]; exact s41.1
    have h7 : In x7.2 (f, n, hd, c, cu, ma, lf, ml) T := by rw [b4]; exact g2
    have g4' : fI x7.2 1990 1 = Int32.ofNat pn := by rw [b4]; exact g4
    have ept : fdB f n (aI x7.2 1991) pn (fI x7.2 1989 1) = fdB f n (x4.1 44) pn w := by
      rw [b4, g5]
      exact funext (fun p => fdB_ext (fun _ _ => rfl) (fun k hk => by rw [g6 k hk, f5 k hk]))
    have hP7 : ∀ p, p ≤ n → lkP x7 41 n pn w p = fdB f n (x4.1 44) pn w p := fun p hp => by
      unfold lkP
      rw [q41, q44]
      exact hP0 p hp
    rw [b2, bnd_some, i0, gd_true, c0, h41', nz2, gd_true, b3, stp, stp]
    unfold fL_replacesAll_j162
    obtain ⟨u, u1, u2, u3⟩ := ra_up h41' hn (by omega) hP7 (show va ≤ n by omega) (l9 := 0) (l10 := Int32.ofNat va)
    rw [u1, bnd_some]
    unfold fL_replacesAll_j191
    rw [stp]
    unfold fL_replacesAll_j197
    obtain ⟨dn, d1, d2⟩ := ra_down h41' hn (by omega) hP7 (show va ≤ n by omega) (l10 := Int32.ofNat va) (l11 := Int32.ofNat u)
    rw [d1, bnd_some]
    unfold fL_replacesAll_j223
    obtain ⟨r1, m1, -, m3⟩ := q_find h7 g4' ⟨by omega, by omega⟩ (show va ≤ n by omega) (y := 1)
    obtain ⟨r0, o1, o2, -⟩ := q_find h7 g4' ⟨by omega, by omega⟩ (show va ≤ n by omega) (y := 0)
    have m3 := m3 (by decide)
    have o2 := o2 rfl
    rw [ept] at m3 o2
    have hr1 := m3.uniq u3
    have hr0 := o2.uniq d2
    have o1 : f11_find (x7.1, x7.2).2 (Int32.ofNat va) 0 = some (.inl (r0, x7.2)) := o1
    rw [dn_23t, m1, hdl_inl, bnd_some, i0, gd_true, c0, show ((x7.1, x7.2) : LawS).1 41 0 = Int32.ofNat n from h41']
    have go : Turn (fL_replacesAll_j247 (x7.1, x7.2) (Int32.ofNat pn) w (Int32.ofNat va) dn r1 (if n ≤ u then -1 else Int32.ofNat u)) := by
      unfold fL_replacesAll_j247
      rw [if_pos hr1, dn_23f, o1, hdl_inl, bnd_some, if_pos hr0]
      -- what is put
      obtain ⟨m, x8, t1, t2, t3, t4, t5⟩ := draws_ok (x7.1, x7.2)
      have t3 : x8.2 = σ6 := t3.trans b4
      have h8 : In x8.2 (f, n, hd, c, cu, ma, lf, ml) T := by rw [t3]; exact g2
      obtain ⟨σ9, w1, w2, w3, w4, w5⟩ := feeds_ok (a1 := 43) h8 (show m ≤ 40 by omega) (show m ≤ 40 by omega) t5
      obtain ⟨d, y1, y2, y3⟩ := q_acts1 w2
      have w2' : In (x8.1, σ9).2 (f, n, hd, c, cu, ma, lf, ml) T := w2
      have t2 : fL_draws ((x7.1, x7.2).1, x7.2) = some (Int32.ofNat m, x8) := t2
      rw [t2, bnd_some, stp, w1, bnd_some, if_neg (show ¬ (1 : Int32) = 0 by decide), y1, nox_inl, bnd_some, stp, dn_9]
      have hr9 : Rst σ9 := by
        obtain ⟨a24, a92⟩ := w3.q (by omega) (by omega)
        obtain ⟨c24, c92⟩ := g3.q (by omega) (by omega)
        obtain ⟨e24, e92⟩ := f3.q (by omega) (by omega)
        exact ⟨by rw [a24, t3, c24, e24]; exact r4.1, by rw [a92, t3, c92, e92]; exact r4.2⟩
      have n90 : fI σ9 1990 1 = Int32.ofNat pn := by rw [(w3 1990 (by omega)).1, t3]; exact g4
      have n89 : fI σ9 1989 1 = w := by rw [(w3 1989 (by omega)).1, t3]; exact g5
      have n91 : ∀ k, k < pn → aI σ9 1991 k = x4.1 44 k := fun k hk => by rw [(w3 1991 (by omega)).2.2.1, t3, g6 k hk, f5 k hk]
      have fr8 : ∀ b, b ≠ 0 → b ≠ 43 → x8.1 b = x4.1 b := fun b h1 h2 => by
        rw [t4 b ⟨h1, h2⟩]
        exact b5 b h1
      have hl8 : ∀ k, k < 16 → lf k = x8.1 45 k := fun k hk => by
        rw [fr8 45 (by decide) (by decide), fr4 45 (by decide)]
        exact hl k hk
      have s41' : SR (x8.1 41) (f, n, hd, c, cu, ma, lf, ml) := by rw [fr8 41 (by decide) (by decide)]; exact s41
      rcases q_replaceAll (σ := σ9) w2 n90 ⟨by omega, by omega⟩ w4 (by omega) with ⟨σ10, g1, g2, g3, g4, g5⟩ | ⟨K, a, b, l, σ10, f', hd', c', cu', ma', ml', T', j1, j2, j3, j4, j5, j6, j7, j8, G, j9, j10⟩
      · have g1 : f11_replaceAll ((x8.1, σ9).1, σ9).2 = _ := g1
        rw [g1, hdl_inr (v := -1000003) rfl, bnd_some, stp, if_pos rfl]
        exact Turn.like (τ := (x8.1, σ10)) g2 ⟨g4.trans hr9.1, by show fI σ10 1992 5 = 0; rw [(g3 1992 (by unfold osh; omega)).1]; exact hr9.2⟩ hl8 (by decide) (by decide) s41'
      · have j2 : f11_replaceAll ((x8.1, σ9).1, σ9).2 = _ := j2
        rw [j2, hdl_inl, bnd_some, stp, if_neg (fun z => by
          have := i32_lt0 (a := K) (by omega)
          have z : Int32.ofNat K = -1000003 := z
          rw [z] at this
          exact this (by decide)), stp, stp, stp, stp]
        have eF : fdB f n (aI σ9 1991) pn (fI σ9 1989 1) = fdB f n (x8.1 44) pn w := by
          rw [n89]
          exact funext (fun p => fdB_ext (fun _ _ => rfl) (fun k hk => by rw [n91 k hk, fr8 44 (by decide) (by decide)]))
        rw [eF] at j3
        have g34 := w2.grp hr9.1
        refine ra_end (x := (x8.1, σ10)) (X := fun _ => G) j3 ⟨by omega, by omega⟩ hn t1 j1 j4 ⟨?_, ?_⟩ hl8 j10 (fun k t _ ht => ?_) (fun i hi => s41'.2.2.2.2.2.2 i hi) s41'.1 (fun _ _ => rfl) ?_ y2
        · show fI σ10 24 3 = 0
          rw [j6.g3]
          exact hr9.1
        · show fI σ10 1992 5 = 0
          rw [j6.1]
          exact hr9.2
        · rw [j9 t ht]
          exact w5 t ht
        · by_cases hK0 : K = 0
          · rw [if_pos hK0, j7 hK0]
            exact y3
          · rw [if_neg hK0, ((j8 hK0).new g34 hr9.1).1]
            exact y3.new w2.wf
    by_cases z : n ≤ u
    · rw [if_pos z] at go
      rw [if_pos ((i32_le (by omega) (by omega)).mpr z)]
      exact go
    · rw [if_neg z] at go
      rw [if_neg (fun y => z ((i32_le (by omega) (by omega)).mp y))]
      exact go
  split
  · exact main 1 (Or.inr rfl)
  · exact main 0 (Or.inl rfl)
end RB
