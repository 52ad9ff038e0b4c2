/-! steps played -/
section R
variable {σ μ : Sto} {L B H : Nat} {f : Nat → Int32} {n c : Nat} {hd : Nat → Int32} {cu : Nat → Nat} {ma lf ml : Nat → Int32} {D : Doc} {T : Hst}
/-- the tapes changed -/
theorem RelT.tp {P Q : Int32 → (Nat → Int32) → Int32 → (Nat → Int32) → Prop} {μ' : Sto} (h : RelT P σ μ D L B H T) (hm1 : ∀ k, k ≠ 11 → fI μ' 2017 k = fI μ 2017 k) (hm2 : ∀ a, a ≠ 2023 → a ≠ 2049 → aI μ' a = aI μ a) (q : Q (fI σ 8 1) (aI σ 9) (fI μ' 2017 11) (aI μ' 2023)) : RelT Q σ μ' D L B H T := by
  obtain ⟨g, s, m, w, t1, t2, t3, t4, t5, t6, t7, t8⟩ := h
  refine ⟨g, s, m.congr (hm1 5 (by decide)) (hm1 6 (by decide)) (hm2 2018 (by decide) (by decide)) (hm2 2019 (by decide) (by decide)) (hm2 2020 (by decide) (by decide)) (hm2 2021 (by decide) (by decide)) (hm2 2022 (by decide) (by decide)), w, q, ?_, ?_, ?_, t5.congr Sm.rf (hm1 16 (by decide)) (hm2 2026 (by decide) (by decide)), t6.congr Sm.rf (hm1 50 (by decide)) (hm1 51 (by decide)) (fun a a1 a2 => hm2 a (by omega) (by omega)), ?_, t8.congr Sm.rf rfl rfl (hm1 31 (by decide)) (hm1 32 (by decide)) (fun a a1 a2 => hm2 a (by omega) (by omega))⟩
  · rw [hm1 12 (by decide), hm1 13 (by decide), hm1 14 (by decide), hm2 2024 (by decide) (by decide)]
    exact t2
  · rw [hm1 15 (by decide), hm1 19 (by decide), hm2 2025 (by decide) (by decide)]
    exact t3
  · rw [hm1 17 (by decide), hm2 2027 (by decide) (by decide), hm2 2028 (by decide) (by decide)]
    exact t4
  · rw [hm1 34 (by decide), hm1 33 (by decide)]
    exact t7
/-- letters of a row put at the cursors -/
theorem typed {P : Int32 → (Nat → Int32) → Int32 → (Nat → Int32) → Prop} (h : RelT P σ μ D L B H T) {a1 s m : Nat} (hm : m ≤ 200) (hs : s ≤ 12000) (h1 : s + m ≤ ln a1) (hl : ∀ i, i < m → aI σ a1 (s + i) = aI μ 2023 i ∧ isLt (aI μ 2023 i) = true) (h11 : fI μ 2017 11 = Int32.ofNat m) : ∃ r σ1 σ' μ' D' L' B' H' T', f11_planAtCursors σ a1 (Int32.ofNat s) (Int32.ofNat m) = some σ1 ∧ f11_perform σ1 = some (r, σ') ∧ f12_types μ = some (r, μ') ∧ (r = 0 ∨ r = 1) ∧ RelT P σ' μ' D' L' B' H' T' ∧ aI μ' 2049 = aI μ 2049 := by
  obtain ⟨f, n, hd, c, cu, ma, lf, ml⟩ := D
  obtain ⟨r, k1, k2⟩ := c1_begin (σ := σ) (a1 := a1) (s := s) (m := m) (x := Int32.ofNat s) (y := Int32.ofNat m) rfl rfl hs (by omega) h1 (fun i hi => by rw [(hl i hi).1]; exact (hl i hi).2)
  obtain ⟨r', k3, k4⟩ := c12_putsTape (μ := uI μ 2017 27 0) (tn := m) (by rw [fI_uI, if_pos rfl, if_neg (by decide)]; exact h11) hm
  have j : JP σ μ (uI (rA (uI (uI σ 13 4 0) 13 6 0) 19 r) 18 1 (Int32.ofNat m)) (uI (rA (uI μ 2017 27 0) 2033 r') 2017 28 (Int32.ofNat m)) n 0 0 (fun _ => 0) (fun _ => 0) (fun _ => 0) (aI μ 2023) m := JP.zero (Nat.le_refl _) (by omega) (fun i hi => ⟨by rw [k2 i hi, (hl i hi).1], k4 i hi, (hl i hi).2⟩)
  obtain ⟨K, q, a, b, l, σ2, μ2, p1, p2, p3, p4, p5⟩ := plan_cursors h.1 h.2.1 h.2.2.1 j (a1 := a1) (x2 := Int32.ofNat s) (x3 := Int32.ofNat m) rfl (gb := fun s_10 => f12_types_b10 s_10.1 s_10.2) (fun _ _ => rfl)
  obtain ⟨r9, σ3, μ3, D', L', B', H', T', v1, v2, v3, v4, v5, v6, v7, v8, v9⟩ := act_of h p3 (ins_s p4) (ins_l p4)
  refine ⟨r9, σ2, σ3, μ3, D', L', B', H', T', ?_, v1, ?_, v3, v4, ?_⟩
  · unfold f11_planAtCursors
    rw [k1, bnd_some, stp, p1]
  · unfold f12_types f12_types_j10
    rw [c12_begins1, bnd_some, k3, bnd_some, stp, p2, bnd_some, v2, bnd_some, isB_r v3, gd_true]
  · rw [v9.2.1, p3.2.1.2.1 2049 (by omega) (by decide)]
theorem erased {P : Int32 → (Nat → Int32) → Int32 → (Nat → Int32) → Prop} (h : RelT P σ μ D L B H T) {x : Int32} (hx0 : -100 ≤ x) (hx1 : x ≤ 100) : ∃ r σ2 σ3 μ3 D' L' B' H' T', f11_planErasing σ x = some σ2 ∧ f11_perform σ2 = some (r, σ3) ∧ f12_erases μ x = some (r, μ3) ∧ (r = 0 ∨ r = 1) ∧ RelT P σ3 μ3 D' L' B' H' T' := by
  obtain ⟨f, n, hd, c, cu, ma, lf, ml⟩ := D
  obtain ⟨r, k1, k2⟩ := c1_begin (σ := σ) (a1 := 9) (s := 0) (m := 0) (x := 0) (y := 0) rfl rfl (by omega) (by omega) (by omega) (fun i hi => by omega)
  have j : JP σ μ (uI (rA (uI (uI σ 13 4 0) 13 6 0) 19 r) 18 1 (Int32.ofNat 0)) (uI (uI (rA (uI μ 2017 27 0) 2033 (aI (uI μ 2017 27 0) 2033)) 2017 28 (Int32.ofNat 0)) 2017 42 0) n 0 0 (fun _ => 0) (fun _ => 0) (fun _ => 0) (fun _ => 0) 0 := (JP.zero (w := 0) (m := 0) (G := fun _ => 0) (by omega) (by omega) (fun i hi => by omega)).u42
  obtain ⟨K, q, a, b, l, σ2, μ2, p1, p2, p3, p4, p5⟩ := plan_erasing h.1 h.2.1 h.2.2.1 j rfl (x := x) (by grind) hx1
  obtain ⟨r, σ3, μ3, D', L', B', H', T', v1, v2, v3, v4, v5⟩ := act_of h p3 (Or.inr (fun k hk => by rw [p4 k hk]; omega)) (Or.inr (fun k hk => by
    rw [p4 k hk]
    have := ends_mono (f := f) (p3.2.2.1.2.2.1.1 k hk).1
    show ends f (a k) + 0 ≤ _
    omega))
  refine ⟨r, σ2, σ3, μ3, D', L', B', H', T', ?_, v1, ?_, v3, v4⟩
  · unfold f11_planErasing
    rw [k1, bnd_some, stp, stp, p1]
  · unfold f12_erases f12_erases_j13
    rw [c12_begins1, bnd_some, stp, stp, stp, c12_put0, p2, bnd_some, v2, bnd_some, isB_r v3, gd_true]
theorem movedAll (h0 : Rel0 σ μ D L B H T) {y x : Int32} (hy : 0 ≤ y ∧ y ≤ 4) (hx : -50 ≤ x ∧ x ≤ 50) : ∃ σ1 μ2 D', f11_moveAll σ y x = some σ1 ∧ f12_movesCursors μ y x = some μ2 ∧ Rel0 σ1 μ2 D' L B H T := by
  obtain ⟨f, n, hd, c, cu, ma, lf, ml⟩ := D
  obtain ⟨g, s, m, w, t1, t2, t3, ⟨⟨t, t4, t5, t6, t7⟩, tv⟩, t8⟩ := id h0
  have hw := w.cells
  obtain ⟨q, hq⟩ := mvN.ex hx.1 hx.2
  have hall : ∀ p : Nat, ∃ q, p ≤ n → q ≤ n ∧ (∀ σ, FC σ L B H f n hd t → f11_movedPlace σ (Int32.ofNat p) y x = some (Int32.ofNat q)) ∧ ∀ μ, FM μ f n hd t → f12_movedCursor μ (Int32.ofNat p) y x = some (Int32.ofNat q) := by
    intro p
    by_cases hp : p ≤ n
    · obtain ⟨q, q1, q2⟩ := moved (L := L) (B := B) (H := H) (hd := hd) g.1 g.2.1 t4 t5 hp hy hq
      exact ⟨q, fun _ => ⟨q1, q2⟩⟩
    · exact ⟨0, fun z => absurd z hp⟩
  obtain ⟨gg, hgg⟩ := Classical.axiomOfChoice hall
  have hcu := g.2.2.2.2.2.2.2.1
  have hc := g.2.2.2.2.2.1
  obtain ⟨r, r1, r2⟩ := c11_moveLoop s hw t6 hc.2 hcu (g := gg) (fun p hp => (hgg p hp).2.1)
  obtain ⟨u, u1, u2⟩ := c12_moveLoop m t7 hc.2 hcu (g := gg) (fun p hp => (hgg p hp).2.2)
  have hgn : ∀ i, i < c → gg (cu i) ≤ n := fun i hi => (hgg _ (hcu i hi)).1
  obtain ⟨σ1, q', d, h', v1, v2, v3, v4, v5, v6⟩ := c8_settleS r2 hw hc hgn
  obtain ⟨μ1, q2, d2, x1, x2, x3, x4⟩ := c12_ordersS u2 hc (fun i hi => by have := hgn i hi; have := g.1; omega)
  obtain ⟨rfl, hdd⟩ := v2.uniq x2
  have hdn : ∀ i, i < q' → d i ≤ n := fun i hi => by
    obtain ⟨j, hj, e⟩ := (v2.2.2.2 (d i)).mp ⟨i, hi, rfl⟩
    rw [← e]
    exact hgn j hj
  have x3 := x3.cext rfl hdd
  have hq8 : q' ≤ 8 := by have := v2.2.1; omega
  obtain ⟨μ2, h2, y1, y2, y3, y4⟩ := c12_opensLoop x3 g.2.1 g.2.2.2.1 hq8 hdn (x := x) (y := y)
  have hh : ∀ k, k < ends f n + 1 → h2 k = h' k := isOps.uniq y2 v3 (fun i hi => ⟨by have := ends_mono (f := f) (hdn i hi); show ends f (d i) < _; omega, rfl⟩)
  have hR : Rel0 σ1 μ2 (f, n, h', q', d, ma, lf, ml) L B H T := by
    refine h0.sheet (Sm.trans (Sm.rA (fun b hb => nsh_ne hb (by omega))) v5) (mfr.trans (mfr.rA (by omega)) (mfr.trans x4 y4)) ?_ v4 (y3.hext (fun k hk => (hh k (by omega)).symm)) ?_
    · refine g.opened (fun k hk => isOps.or v3 k (by omega)) ⟨v2.1, hq8⟩ v2.2.2.1 hdn (fun i hi => ?_)
      exact isOps.at v3 (fun i hi => by have := ends_mono (f := f) (hdn i hi); show ends f (d i) < _; omega) i hi
    · unfold SW
      rw [v6]
      exact w
  refine ⟨σ1, μ2, _, ?_, ?_, hR⟩
  · rw [f11_moveAll, stp, f11_moveAll_j2, r1, bnd_some, v1, bnd_some]
  · rw [f12_movesCursors, stp, f12_movesCursors_j2, u1, bnd_some, x1, bnd_some, stp, f12_movesCursors_j40, y1, bnd_some]
/-- three rows copied by the reference -/
theorem c12_aside {tn : Nat} (ht : tn ≤ 200) {x : Int32} : ∃ r, loopF (fun s_71 => f12_does_b71 x s_71.1 (Int32.ofNat tn) s_71.2) FU (μ, 0) = some (rA μ 2049 r) ∧ ∀ i, i < tn → r i = aI μ 2023 i := by
  have key : Ok (loopF (fun s_71 => f12_does_b71 x s_71.1 (Int32.ofNat tn) s_71.2) FU (μ, 0)) (fun s => ∃ r, s = rA μ 2049 r ∧ ∀ i, i < tn → r i = aI μ 2023 i) := by
    refine Ok_count tn (fun k s => ∃ r, s = (rA μ 2049 r, Int32.ofNat k) ∧ ∀ i, i < k → r i = aI μ 2023 i) ?_ 0 ⟨aI μ 2049, by rw [rA_self]; rfl, fun i hi => by omega⟩ (by omega) (by (show _ < FU; unfold FU; omega))
    rintro k s hk ⟨r, rfl, r1⟩
    have e2 : aI (rA μ 2049 r) 2023 = aI μ 2023 := rfl
    unfold f12_does_b71
    simp only [e2, i32_le (show tn < 2147483648 by omega) (show k < 2147483648 by omega), ofNat_clamp (show k < 2147483648 by omega)]
    by_cases hq : tn ≤ k
    · rw [if_pos hq, Ok_some, lp_inr, show tn = k by omega]
      exact ⟨r, rfl, r1⟩
    · rw [if_neg hq, inb_n (show k < 200 by omega) (by omega), gd_true, gd_true, stp, stp, i32_succ, Ok_some, lp_inl]
      refine ⟨by omega, up1 r k (aI μ 2023 k), ?_, fun i hi => ?_⟩
      · rw [rA_uA]
      · unfold up1
        by_cases e : i = k
        · rw [if_pos e, e]
        · rw [if_neg e]
          exact r1 i (by omega)
  obtain ⟨s, k1, r, rfl, k2⟩ := key
  exact ⟨r, k1, k2⟩
theorem c12_taken {m k0 : Nat} (h11 : fI μ 2017 11 = Int32.ofNat m) (ht : m ≤ 200) (hk0 : k0 < 40) {y : Int32} : ∃ r, loopF (fun s_106 => f12_does_b106 (Int32.ofNat k0) s_106.1 y s_106.2) FU (μ, 0) = some (rA μ 2023 r) ∧ ∀ i, i < m → r i = aI μ 2048 (200 * k0 + i) := by
  have key : Ok (loopF (fun s_106 => f12_does_b106 (Int32.ofNat k0) s_106.1 y s_106.2) FU (μ, 0)) (fun s => ∃ r, s = rA μ 2023 r ∧ ∀ i, i < m → r i = aI μ 2048 (200 * k0 + i)) := by
    refine Ok_count m (fun k s => ∃ r, s = (rA μ 2023 r, Int32.ofNat k) ∧ ∀ i, i < k → r i = aI μ 2048 (200 * k0 + i)) ?_ 0 ⟨aI μ 2023, by rw [rA_self]; rfl, fun i hi => by omega⟩ (by omega) (by (show _ < FU; unfold FU; omega))
    rintro k s hk ⟨r, rfl, r1⟩
    have e1 : fI (rA μ 2023 r) 2017 11 = Int32.ofNat m := h11
    have e2 : aI (rA μ 2023 r) 2048 = aI μ 2048 := rfl
    have e3 : 200 * Int32.ofNat k0 + Int32.ofNat k = Int32.ofNat (200 * k0 + k) := by
      rw [show (200 : Int32) = Int32.ofNat 200 from rfl, ← Int32.ofNat_mul, i32_add]
    unfold f12_does_b106
    simp only [e1, e2, e3, i32_le (show m < 2147483648 by omega) (show k < 2147483648 by omega), ofNat_clamp (show k < 2147483648 by omega), ofNat_clamp (show 200 * k0 + k < 2147483648 by omega)]
    by_cases hq : m ≤ k
    · rw [if_pos hq, Ok_some, lp_inr, show m = k by omega]
      exact ⟨r, rfl, r1⟩
    · rw [if_neg hq, inb_n (show 200 * k0 + k < 8000 by omega) (by omega), gd_true, inb_n (show k < 200 by omega) (by omega), gd_true, stp, stp, i32_succ, Ok_some, lp_inl]
      refine ⟨by omega, up1 r k (aI μ 2048 (200 * k0 + k)), ?_, fun i hi => ?_⟩
      · rw [rA_uA]
      · unfold up1
        by_cases e : i = k
        · rw [if_pos e, e]
        · rw [if_neg e]
          exact r1 i (by omega)
  obtain ⟨s, k1, r, rfl, k2⟩ := key
  exact ⟨r, k1, k2⟩
theorem c12_back {tn : Nat} (ht : tn ≤ 200) {x y : Int32} : ∃ r, loopF (fun s_151 => f12_does_b151 x s_151.1 (Int32.ofNat tn) y s_151.2) FU (μ, 0) = some (rA μ 2023 r) ∧ ∀ i, i < tn → r i = aI μ 2049 i := by
  have key : Ok (loopF (fun s_151 => f12_does_b151 x s_151.1 (Int32.ofNat tn) y s_151.2) FU (μ, 0)) (fun s => ∃ r, s = rA μ 2023 r ∧ ∀ i, i < tn → r i = aI μ 2049 i) := by
    refine Ok_count tn (fun k s => ∃ r, s = (rA μ 2023 r, Int32.ofNat k) ∧ ∀ i, i < k → r i = aI μ 2049 i) ?_ 0 ⟨aI μ 2023, by rw [rA_self]; rfl, fun i hi => by omega⟩ (by omega) (by (show _ < FU; unfold FU; omega))
    rintro k s hk ⟨r, rfl, r1⟩
    have e2 : aI (rA μ 2023 r) 2049 = aI μ 2049 := rfl
    unfold f12_does_b151
    simp only [e2, i32_le (show tn < 2147483648 by omega) (show k < 2147483648 by omega), ofNat_clamp (show k < 2147483648 by omega)]
    by_cases hq : tn ≤ k
    · rw [if_pos hq, Ok_some, lp_inr, show tn = k by omega]
      exact ⟨r, rfl, r1⟩
    · rw [if_neg hq, inb_n (show k < 200 by omega) (by omega), gd_true, gd_true, stp, stp, i32_succ, Ok_some, lp_inl]
      refine ⟨by omega, up1 r k (aI μ 2049 k), ?_, fun i hi => ?_⟩
      · rw [rA_uA]
      · unfold up1
        by_cases e : i = k
        · rw [if_pos e, e]
        · rw [if_neg e]
          exact r1 i (by omega)
  obtain ⟨s, k1, r, rfl, k2⟩ := key
  exact ⟨r, k1, k2⟩
end R
section R
variable {σ μ : Sto} {L B H : Nat} {D : Doc} {T : Hst} {o : Int64}
theorem ofNat_ij {p q : Nat} (hp : p < 2147483648) (hq : q < 2147483648) (e : Int32.ofNat p = Int32.ofNat q) : p = q := by
  have h1 := (i32_le (a := p) (b := q) hp hq).mp (by rw [e]; grind)
  have h2 := (i32_le (a := q) (b := p) hq hp).mp (by rw [e]; grind)
  omega
theorem Rel0.steps (h : Rel0 σ μ D L B H T) : RS σ μ := h.2.2.2.2.2.2.2.2.2.1
/-- one step -/
theorem played (h : Rel0 σ μ D L B H T) {k m : Nat} (hn : fI σ 1992 4 = Int32.ofNat m) (hm : m ≤ 40) (hk : k < m) : ∃ r σ' μ' D' L' B' H' T', f11_playStep σ (Int32.ofNat k) = some (r, σ') ∧ f12_does μ (Int32.ofNat k) = some (r, μ') ∧ (r = 0 ∨ r = 1) ∧ Rel0 σ' μ' D' L' B' H' T' := by
  obtain ⟨sn, s1, s2, s3, s4, s5, s6⟩ := h.steps
  have e : sn = m := ofNat_ij (by omega) (by omega) (by rw [← s2, hn])
  subst e
  obtain ⟨e44, hcase⟩ := s6 k hk
  have ik : inb (Int32.ofNat k) 40 = true := inb_n (by omega) (by omega)
  have ck : (Int32.ofNat k).toNatClampNeg = k := ofNat_clamp (by omega)
  unfold f11_playStep f12_does
  simp only [ik, gd_true, ck, stp, ← e44]
  rcases hcase with ⟨z0, m, hm', zA, zB, zl⟩ | ⟨z1, zA, zB, zC⟩ | ⟨z2, zA, zB, zC, zD, zE, zF⟩ | z3
  · rw [z0, zA, if_pos (by decide), if_neg (by decide), if_neg (by decide), if_neg (by decide)]
    obtain ⟨tn, t1, t2, t3, t4⟩ := h.2.2.2.2.1
    obtain ⟨r1, a1, a2⟩ := c12_aside (μ := μ) (tn := tn) t1 (x := Int32.ofNat k)
    have e47 : aI (rA μ 2049 r1) 2047 k = Int32.ofNat m := zB
    have e11 : fI (uI (rA μ 2049 r1) 2017 11 (Int32.ofNat m)) 2017 11 = Int32.ofNat m := by rw [fI_uI, if_pos rfl, if_pos rfl]
    obtain ⟨r2, b1, b2⟩ := c12_taken (μ := uI (rA μ 2049 r1) 2017 11 (Int32.ofNat m)) (m := m) (k0 := k) e11 hm' (by omega) (y := Int32.ofNat tn)
    have hT : RelT (fun x a _ _ => x = Int32.ofNat tn ∧ ∀ i, i < tn → a i = aI μ 2023 i ∧ isLt (aI μ 2023 i) = true) σ (rA (uI (rA μ 2049 r1) 2017 11 (Int32.ofNat m)) 2023 r2) D L B H T := by
      refine RelT.tp (P := RT) (μ := μ) h (fun k hk => ?_) (fun a a1 a2 => ?_) ⟨t2, t4⟩
      · show fI (uI (rA μ 2049 r1) 2017 11 (Int32.ofNat m)) 2017 k = _
        rw [fI_uI, if_pos rfl, if_neg hk]
        rfl
      · rw [aI_rA' a1]
        show aI (rA μ 2049 r1) a = _
        rw [aI_rA' a2]
    obtain ⟨r, σ1, σ', μ', D', L', B', H', T', v1, v2, v3, v4, v5, v6⟩ := typed hT (a1 := 1996) (s := 200 * k) (m := m) hm' (by omega) (by rw [show ln 1996 = 8000 from rfl]; omega) (fun i hi => by
      have e : aI (rA (uI (rA μ 2049 r1) 2017 11 (Int32.ofNat m)) 2023 r2) 2023 i = aI μ 2048 (200 * k + i) := by
        rw [aI_rA, if_pos rfl]
        exact b2 i hi
      rw [e]
      exact zl i hi) e11
    have e200 : Int32.ofNat k * 200 = Int32.ofNat (200 * k) := by
      rw [show (200 : Int32) = Int32.ofNat 200 from rfl, ← Int32.ofNat_mul, Nat.mul_comm]
    obtain ⟨r3, c1, c2⟩ := c12_back (μ := uI μ' 2017 11 (Int32.ofNat tn)) (tn := tn) t1 (x := Int32.ofNat k) (y := r)
    refine ⟨r, σ', rA (uI μ' 2017 11 (Int32.ofNat tn)) 2023 r3, D', L', B', H', T', ?_, ?_, v4, ?_⟩
    · rw [e200, v1, bnd_some, v2, bnd_some, isB_r v4, gd_true]
    · unfold f12_does_j71 f12_does_j106 f12_does_j151
      rw [t3, a1, bnd_some, ik, gd_true, ck, stp, stp, e47, b1, bnd_some, v3, bnd_some, stp, stp, stp, c1, bnd_some, isB_r v4, gd_true]
    · refine RelT.tp (Q := RT) v5 (fun k hk => ?_) (fun a a1 a2 => ?_) ?_
      · show fI (uI μ' 2017 11 (Int32.ofNat tn)) 2017 k = _
        rw [fI_uI, if_pos rfl, if_neg hk]
      · rw [aI_rA' a1]
        rfl
      · obtain ⟨p1, p2⟩ := v5.2.2.2.2.1
        refine ⟨tn, t1, p1, ?_, fun i hi => ?_⟩
        · show fI (uI μ' 2017 11 (Int32.ofNat tn)) 2017 11 = _
          rw [fI_uI, if_pos rfl, if_pos rfl]
        · have e : aI (rA (uI μ' 2017 11 (Int32.ofNat tn)) 2023 r3) 2023 i = aI μ 2023 i := by
            rw [aI_rA, if_pos rfl, c2 i hi]
            show aI μ' 2049 i = _
            rw [v6]
            show r1 i = _
            exact a2 i hi
          rw [e]
          exact p2 i hi
  · rw [z1, if_neg (by decide), if_pos (by decide), if_neg (by decide), if_pos (by decide)]
    obtain ⟨r, σ2, σ3, μ3, D', L', B', H', T', v1, v2, v3, v4, v5⟩ := erased (P := RT) h (x := aI σ 1995 k) zB zC
    refine ⟨r, σ3, μ3, D', L', B', H', T', ?_, ?_, v4, v5⟩
    · rw [v1, bnd_some, v2, bnd_some, isB_r v4, gd_true]
    · rw [← zA, v3, bnd_some, isB_r v4, gd_true]
  · rw [z2, if_neg (by decide), if_neg (by decide), if_pos (by decide), if_pos (by decide)]
    obtain ⟨σ1, μ2, D', v1, v2, v3⟩ := movedAll h (y := aI σ 1994 k) (x := aI σ 1995 k) ⟨zC, zD⟩ ⟨zE, zF⟩
    refine ⟨1, σ1, μ2, D', L, B, H, T, ?_, ?_, Or.inr rfl, v3⟩
    · rw [v1, bnd_some]
    · rw [← zA, ← zB, v2, bnd_some]
  · rw [z3, if_neg (by decide), if_neg (by decide), if_neg (by decide), if_pos (by decide), if_neg (by decide), if_neg (by decide), if_pos (by decide)]
    obtain ⟨f, n, hd, c, cu, ma, lf, ml⟩ := D
    obtain ⟨r, σ1, σ', μ', D', L', B', H', T', v1, v2, v3, v4, v5⟩ := pastes (P := RT) h
    refine ⟨r, σ', μ', D', L', B', H', T', ?_, ?_, v4, v5⟩
    · rw [v1, bnd_some, v2, bnd_some, isB_r v4, gd_true]
    · rw [v3, bnd_some, isB_r v4, gd_true]
theorem Rel0.grp1 (h : Rel0 σ μ D L B H T) : Rel0 (uI σ 24 3 1) (uI μ 2017 34 1) D L B H T := by
  obtain ⟨g, s, m, w, t1, t2, t3, t4, t5, t6, t7, t8⟩ := h
  obtain ⟨q1, q2, q3, q4⟩ := t7
  exact ⟨g, s.congr rfl rfl rfl rfl rfl rfl rfl rfl, m.congr rfl rfl rfl rfl rfl rfl rfl, w, t1, t2, t3, t4, t5.congr (Sm.uI (by omega)) rfl rfl, t6.congr (Sm.uI (by omega)) rfl rfl (fun _ _ _ => rfl), ⟨Or.inr rfl, rfl, q3, fun _ => rfl⟩, t8.congr (Sm.uI (by omega)) rfl rfl rfl rfl (fun _ _ _ => rfl)⟩
/-- what goes on, both sides: nothing refused, or the last refused -/
def gOn (x y : Int32) : Prop := (x = 0 ∧ y = 1) ∨ (x = 1 ∧ y = 0)
/-- all steps once -/
theorem playRow (h : Rel σ μ) {a b c : Int32} {l2 l2' p x y : Int32} (hg : gOn x y) : ∃ r r', loopF (fun s_89 => f11_play_b89 a l2 s_89.1 s_89.2.1 s_89.2.2.1 b s_89.2.2.2) FU (σ, p, x, 0) = some r ∧ loopF (fun s_61 => f12_play_b61 a l2' s_61.1 s_61.2.1 s_61.2.2.1 c s_61.2.2.2) FU (μ, p, y, 0) = some r' ∧ Rel r.1 r'.1 ∧ r.2.1 = r'.2.1 ∧ gOn r.2.2 r'.2.2 := by
  refine loop2 40 (fun k s s' => Rel s.1 s'.1 ∧ s.2.1 = s'.2.1 ∧ gOn s.2.2.1 s'.2.2.1 ∧ s.2.2.2 = Int32.ofNat k ∧ s'.2.2.2 = Int32.ofNat k) ?_ 0 ⟨h, rfl, hg, rfl, rfl⟩ (by omega) (by (show _ < FU; unfold FU; omega)) (by (show _ < FU; unfold FU; omega))
  rintro k ⟨S, p1, x1, k1⟩ ⟨M, p2, y1, k2⟩ hk ⟨hR, e1, e2, e3, e4⟩
  have e1 : p1 = p2 := e1
  have e2 : gOn x1 y1 := e2
  have e3 : k1 = Int32.ofNat k := e3
  have e4 : k2 = Int32.ofNat k := e4
  have hR : Rel S M := hR
  subst e1 e3 e4
  show (∃ t t', f11_play_b89 a l2 S p1 x1 b (Int32.ofNat k) = _ ∧ f12_play_b61 a l2' M p1 y1 c (Int32.ofNat k) = _ ∧ _) ∨ ∃ r r', f11_play_b89 a l2 S p1 x1 b (Int32.ofNat k) = _ ∧ f12_play_b61 a l2' M p1 y1 c (Int32.ofNat k) = _ ∧ _
  obtain ⟨D, L, B, H, T, h0⟩ := id hR
  obtain ⟨sn, s1, s2, s3, s4, s5, s6⟩ := h0.steps
  unfold f11_play_b89 f12_play_b61
  rw [s2, s3]
  simp only [i32_le (show sn < 2147483648 by omega) (show k < 2147483648 by omega)]
  by_cases hq : sn ≤ k
  · rw [if_pos hq, if_pos hq]
    exact Or.inr ⟨_, _, rfl, rfl, hR, rfl, e2⟩
  · rw [if_neg hq, if_neg hq]
    rcases e2 with ⟨rfl, rfl⟩ | ⟨rfl, rfl⟩
    · obtain ⟨r, σ', μ', D', L', B', H', T', v1, v2, v3, v4⟩ := played h0 s2 s1 (show k < sn by omega)
      rw [if_pos rfl, if_neg (by decide), v1, bnd_some, v2, bnd_some]
      simp only [stp, f11_play_j120, f11_play_j133, f12_play_j94, i32_succ]
      rcases v3 with rfl | rfl
      · exact Or.inl ⟨_, _, rfl, rfl, by omega, ⟨_, _, _, _, _, v4⟩, rfl, Or.inr ⟨rfl, rfl⟩, rfl, rfl⟩
      · exact Or.inl ⟨_, _, rfl, rfl, by omega, ⟨_, _, _, _, _, v4⟩, rfl, Or.inl ⟨rfl, rfl⟩, rfl, rfl⟩
    · rw [if_neg (by decide), if_pos rfl]
      exact Or.inr ⟨_, _, rfl, rfl, hR, rfl, Or.inr ⟨rfl, rfl⟩⟩
theorem playAll (h : Rel σ μ) {l : Nat} (hl : l ≤ 20) {l2 l2' : Int32} : ∃ r r', loopF (fun s_75 => f11_play_b75 (Int32.ofNat l) s_75.1 l2 s_75.2.1 s_75.2.2.1 s_75.2.2.2) FU (σ, 0, 0, 0) = some r ∧ loopF (fun s_47 => f12_play_b47 (Int32.ofNat l) s_47.1 l2' s_47.2.1 s_47.2.2.1 s_47.2.2.2) FU (μ, 0, 1, 0) = some r' ∧ Rel r.1 r'.1 ∧ r.2 = r'.2 := by
  refine loop2 l (fun k s s' => Rel s.1 s'.1 ∧ s.2.1 = s'.2.1 ∧ gOn s.2.2.1 s'.2.2.1 ∧ s.2.2.2 = Int32.ofNat k ∧ s'.2.2.2 = Int32.ofNat k) ?_ 0 ⟨h, rfl, Or.inl ⟨rfl, rfl⟩, rfl, rfl⟩ (by omega) (by (show _ < FU; unfold FU; omega)) (by (show _ < FU; unfold FU; omega))
  rintro k ⟨S, p1, x1, k1⟩ ⟨M, p2, y1, k2⟩ hk ⟨hR, e1, e2, e3, e4⟩
  have e1 : p1 = p2 := e1
  have e2 : gOn x1 y1 := e2
  have e3 : k1 = Int32.ofNat k := e3
  have e4 : k2 = Int32.ofNat k := e4
  have hR : Rel S M := hR
  subst e1 e3 e4
  show (∃ t t', f11_play_b75 (Int32.ofNat l) S l2 p1 x1 (Int32.ofNat k) = _ ∧ f12_play_b47 (Int32.ofNat l) M l2' p1 y1 (Int32.ofNat k) = _ ∧ _) ∨ ∃ r r', f11_play_b75 (Int32.ofNat l) S l2 p1 x1 (Int32.ofNat k) = _ ∧ f12_play_b47 (Int32.ofNat l) M l2' p1 y1 (Int32.ofNat k) = _ ∧ _
  unfold f11_play_b75 f12_play_b47
  simp only [i32_le (show l < 2147483648 by omega) (show k < 2147483648 by omega)]
  by_cases hq : l ≤ k
  · rw [if_pos hq, if_pos hq]
    exact Or.inr ⟨_, _, rfl, rfl, hR, rfl⟩
  · rw [if_neg hq, if_neg hq]
    have e2' := e2
    rcases e2 with ⟨rfl, rfl⟩ | ⟨rfl, rfl⟩
    · rw [if_pos rfl, if_neg (by decide), stp, stp]
      obtain ⟨⟨S', p', x'⟩, ⟨M', q', y'⟩, j1, j2, j3, j4, j5⟩ := playRow hR (a := Int32.ofNat l) (b := Int32.ofNat k) (c := Int32.ofNat k) (l2 := l2) (l2' := l2') (p := p1) e2'
      have j4 : p' = q' := j4
      subst j4
      unfold f11_play_j89 f12_play_j61
      rw [j1, j2, bnd_some, bnd_some]
      unfold f11_play_j141 f12_play_j102
      rw [stp, stp, i32_succ]
      exact Or.inl ⟨_, _, rfl, rfl, by omega, j3, rfl, j5, rfl, rfl⟩
    · rw [if_neg (by decide), if_pos rfl]
      exact Or.inr ⟨_, _, rfl, rfl, hR, rfl⟩
theorem op_play (h : Rel σ μ) {x : Int32} : stH (f11_play σ x) [(2, 1), (3, 2)] o (f12_play μ x) RQ := by
  obtain ⟨D, L, B, H, T, h0⟩ := id h
  unfold f11_play f11_play_j11 f12_play
  simp only [c12_in, c12_refuse, bnd_some, ite_tz, decide_eq_true_eq]
  by_cases hx0 : x < 1
  · rw [if_pos hx0, if_neg (by grind)]
    exact stH_er (c := 2) (t := 1) rfl (by decide) (by decide) rfl h
  rw [if_neg hx0]
  by_cases hx1 : x ≤ 20
  · rw [if_pos hx1, if_pos (show 1 ≤ x ∧ x ≤ 20 by grind)]
    obtain ⟨l, hl, rfl⟩ := of_range (x := x) (n := 20) ⟨by grind, hx1⟩ (by decide)
    obtain ⟨sn, s1, s2, s3, s4, s5, s6⟩ := h0.steps
    rw [← s4]
    rcases s5 with e | e
    · rw [e, if_pos rfl, if_pos rfl]
      have q2 : fI μ 2017 34 = fI σ 24 3 := h0.2.2.2.2.2.2.2.2.2.2.1.2.1
      have q1 : fI σ 24 3 = 0 ∨ fI σ 24 3 = 1 := h0.2.2.2.2.2.2.2.2.2.2.1.1
      have hG : Rel (uI σ 24 3 1) (uI μ 2017 34 1) := ⟨_, _, _, _, _, h0.grp1⟩
      rw [q2]
      rcases q1 with q1 | q1
      · rw [q1, if_pos rfl]
        simp only [stp, f11_play_j58, f11_play_j75, f12_play_j47]
        obtain ⟨⟨S, p⟩, ⟨M, p'⟩, j1, j2, j3, j4⟩ := playAll hG hl (l2 := 1) (l2' := 0)
        have j4 : p = p' := j4
        subst j4
        have j3 : Rel S M := j3
        rw [j1, j2, bnd_some, bnd_some]
        obtain ⟨D', L', B', H', T', h9⟩ := j3
        unfold f11_play_j147 f12_play_j108 f11_play_j158 f12_play_j116 f4_closeGroup f12_closes
        rw [if_neg (by decide), if_pos rfl, stp, stp, bnd_some, stp, stp, bnd_some, c12_told, bnd_some]
        exact stH_ok rfl rfl ⟨_, _, _, _, _, h9.close⟩
      · rw [q1, if_neg (by decide)]
        simp only [stp, f11_play_j58, f11_play_j75, f12_play_j47]
        obtain ⟨⟨S, p⟩, ⟨M, p'⟩, j1, j2, j3, j4⟩ := playAll hG hl (l2 := 0) (l2' := 1)
        have j4 : p = p' := j4
        subst j4
        have j3 : Rel S M := j3
        rw [j1, j2, bnd_some, bnd_some]
        unfold f11_play_j147 f12_play_j108 f11_play_j158 f12_play_j116
        rw [if_pos rfl, if_neg (by decide), c12_told, bnd_some]
        exact stH_ok rfl rfl j3
    · rw [e, if_neg (by decide), if_neg (by decide)]
      exact stH_er (c := 3) (t := 2) rfl (by decide) (by decide) rfl h
  · rw [if_neg hx1, if_neg (by grind)]
    exact stH_er (c := 2) (t := 1) rfl (by decide) (by decide) rfl h
end R
