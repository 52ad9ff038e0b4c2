theorem fI_rA {σ : Sto} {a : Nat} {r : Nat → Int32} : fI (rA σ a r) = fI σ := rfl
theorem fR_rA {σ : Sto} {a : Nat} {r : Nat → Int32} : fR (rA σ a r) = fR σ := rfl
theorem fR_uI {σ : Sto} {a k : Nat} {v : Int32} : fR (uI σ a k v) = fR σ := rfl
theorem aI_uI {σ : Sto} {a k : Nat} {v : Int32} : aI (uI σ a k v) = aI σ := rfl
section R
variable {σ μ : Sto} {o : Int64} {L B H : Nat} {f : Nat → Int32} {n c : Nat} {hd : Nat → Int32} {cu : Nat → Nat} {ma lf ml : Nat → Int32}
set_option maxHeartbeats 1000000 in
theorem c8_become (s : SC σ 1 L B H (f, n, hd, c, cu, ma, lf, ml)) (g : GD (f, n, hd, c, cu, ma, lf, ml)) (w : (L = 2 ∧ B = 3 ∧ H = 4) ∨ (L = 20 ∧ B = 21 ∧ H = 22)) {t : Nat} (ht : 100 ≤ t) (hL : fR σ t 0 = t + 1 + 1 ∧ kc (t + 1) = 13 ∧ ln (t + 1) = 3000) (hB : fR σ t 2 = t + 2 + 1 ∧ kc (t + 2) = 12 ∧ ln (t + 2) = 300) (hH : fR σ t 3 = t + 3 + 1 ∧ kc (t + 3) = 14 ∧ ln (t + 3) = 300) : ∃ σ', f8_become σ t 1 = some σ' ∧ SC σ' t (t + 1) (t + 2) (t + 3) (f, n, hd, c, cu, ma, lf, ml) ∧ Sm (fun a => a < t ∨ t + 6 < a) σ σ' ∧ fR σ' = fR σ := by
  obtain ⟨s1, ⟨s2, s3, s4, s5⟩, ⟨s6, s7⟩, s8, s9⟩ := s
  obtain ⟨g1, g2, g3, g4, g5, g6, g7, g8, g9, g10, g11⟩ := g
  obtain ⟨u1, u2, u3, u4, ⟨u5, u6, u7⟩, ⟨u8, u9, u10⟩, u11, u12⟩ := s1
  have e0 : (0 : Int32) = Int32.ofNat 0 := rfl
  have e16 : (16 : Int32) = Int32.ofNat 16 := rfl
  have c1 : cpok (Int32.ofNat 0) (Int32.ofNat 0) (Int32.ofNat n) 3000 3000 = true := cpok_t (by omega) (by omega) (by omega) (by omega) (by omega)
  have c2 : cpok (Int32.ofNat 0) (Int32.ofNat 0) (Int32.ofNat (ends f n + 1)) 300 300 = true := cpok_t (by omega) (by omega) (by omega) (by omega) (by omega)
  have c3 : cpok (Int32.ofNat 0) (Int32.ofNat 0) (Int32.ofNat c) 8 8 = true := cpok_t (by omega) (by omega) (by omega) (by omega) (by omega)
  have c4 : cpok (Int32.ofNat 0) (Int32.ofNat 0) (Int32.ofNat 16) 16 16 = true := cpok_t (by omega) (by omega) (by omega) (by omega) (by omega)
  have k0 : (Int32.ofNat 0).toNatClampNeg = 0 := ofNat_clamp (by omega)
  have kn : (Int32.ofNat n).toNatClampNeg = n := ofNat_clamp (by omega)
  have kl : (Int32.ofNat (ends f n + 1)).toNatClampNeg = ends f n + 1 := ofNat_clamp (by omega)
  have kc' : (Int32.ofNat c).toNatClampNeg = c := ofNat_clamp (by omega)
  have k16 : (Int32.ofNat 16).toNatClampNeg = 16 := ofNat_clamp (by omega)
  have f1 : fitB (aI σ L) 0 n = true := fitB_t (fun i hi => by
    rw [Nat.zero_add, u11 i hi]
    have := isLt_in (g3 i hi)
    grind)
  have f2 : fitZ (aI σ H) 0 (ends f n + 1) = true := fitZ_t (fun i hi => by
    rw [Nat.zero_add, s5 i (by omega)]
    exact g5 i (by omega))
  have f3 : fitZ (aI σ (1 + 6)) 0 16 = true := fitZ_t (fun i hi => by
    rw [Nat.zero_add, s9 i hi]
    exact (g11 i hi).1)
  unfold f8_become
  simp only [stp, fI_rA, fR_rA, u3, u4, s6, u5, u8, s2, hL.1, hB.1, hH.1, okr_s.mpr u6, okr_s.mpr u9, okr_s.mpr s3, okr_s.mpr hL.2.1, okr_s.mpr hB.2.1, okr_s.mpr hH.2.1, Nat.add_sub_cancel, u7, u10, s4, hL.2.2, hB.2.2, hH.2.2, e0, e16, c1, c2, c3, c4, gd_true, k0, kn, kl, kc', k16]
  simp (disch := omega) only [aI_rA', f1, f2, f3, gd_true]
  refine ⟨_, rfl, ⟨⟨u1, u2, ?_, ?_, hL, hB, fun k hk => ?_, fun j hj => ?_⟩, ⟨hH.1, hH.2.1, hH.2.2, fun j hj => ?_⟩, ⟨?_, fun k hk => ?_⟩, fun k hk => ?_, fun k hk => ?_⟩, ?_, rfl⟩
  · show fI (uI (uI (uI (rA _ _ _) t 1 _) t 4 _) t 6 _) t 1 = _
    rw [fI_uI, if_pos rfl, if_neg (by decide), fI_uI, if_pos rfl, if_neg (by decide), fI_uI, if_pos rfl, if_pos rfl]
  · show fI (uI (uI (uI (rA _ _ _) t 1 _) t 4 _) t 6 _) t 4 = _
    rw [fI_uI, if_pos rfl, if_neg (by decide), fI_uI, if_pos rfl, if_pos rfl, fI_uI, if_neg (by omega)]
    exact u4
  · simp (disch := omega) only [aI_uI, aI_rA']
    rw [aI_rA, if_pos rfl, cpy_at hk, Nat.zero_add]
    exact u11 k hk
  · simp (disch := omega) only [aI_uI, aI_rA']
    obtain ⟨p, p1, p2, p3⟩ := u12 j hj
    refine ⟨p, p1, p2, ?_⟩
    rw [aI_rA, if_pos rfl, cpy_at (by omega), Nat.zero_add]
    exact p3
  · simp (disch := omega) only [aI_uI, aI_rA']
    rw [aI_rA, if_pos rfl, cpy_at (by omega), Nat.zero_add]
    exact s5 j hj
  · rw [fI_uI, if_pos rfl, if_pos rfl, fI_uI, if_neg (by omega), fI_uI, if_neg (by omega)]
    exact s6
  · simp (disch := omega) only [aI_uI, aI_rA']
    rw [aI_rA, if_pos rfl, cpy_at hk, Nat.zero_add]
    exact s7 k hk
  · simp (disch := omega) only [aI_uI, aI_rA']
    rw [aI_rA, if_pos rfl, cpy_at hk, Nat.zero_add]
    exact s8 k hk
  · simp (disch := omega) only [aI_uI]
    rw [aI_rA, if_pos rfl, cpy_at hk, Nat.zero_add]
    exact s9 k hk
  · exact Sm.trans (Sm.rA (by omega)) (Sm.trans (Sm.rA (by omega)) (Sm.trans (Sm.rA (by omega)) (Sm.trans (Sm.rA (by omega)) (Sm.trans (Sm.rA (by omega)) (Sm.trans (Sm.rA (by omega)) (Sm.trans (Sm.uI (by omega)) (Sm.trans (Sm.uI (by omega)) (Sm.uI (by omega)))))))))
theorem c12_keep (h : MT μ f n) : ∃ r, f12_keep μ = some (Int32.ofNat (ends f n + 1), uI (rA (uI μ 2017 16 (Int32.ofNat n)) 2026 r) 2017 18 0) ∧ ∀ k, k < n → r k = f k := by
  have hn := h.1
  have hM : MT (uI μ 2017 16 (Int32.ofNat n)) f n := h.congr rfl rfl
  have key : Ok (loopF (fun s_10 => f12_keep_b10 s_10.1 s_10.2) FU (uI μ 2017 16 (Int32.ofNat n), 0)) (fun s => ∃ r, s = rA (uI μ 2017 16 (Int32.ofNat n)) 2026 r ∧ ∀ k, k < n → r k = f k) := by
    generalize uI μ 2017 16 (Int32.ofNat n) = M at hM
    refine Ok_count n (fun k z => ∃ r, z = (rA M 2026 r, Int32.ofNat k) ∧ ∀ i, i < k → r i = f i) ?_ 0 ⟨aI M 2026, by rw [rA_self]; rfl, fun i hi => by omega⟩ (by omega) (by (show _ < FU; unfold FU; omega))
    rintro k z hk ⟨r, rfl, hr⟩
    have e1 : fI (rA M 2026 r) 2017 5 = Int32.ofNat n := hM.2.1
    have e2 : aI (rA M 2026 r) 2018 = aI M 2018 := rfl
    unfold f12_keep_b10
    simp only [e1, e2, i32_le (show n < 2147483648 by omega) (show k < 2147483648 by omega), ofNat_clamp (show k < 2147483648 by omega), i32_succ, rA_uA]
    by_cases hq : n ≤ k
    · simp only [if_pos hq]
      simp only [Ok_stp, Ok_bnd, Ok_bndX, Ok_some, Ok_none, Ok_ite, Ok_gd, inb_iff, isB_iff, lp_inl, lp_inr, Prod.mk.injEq, Sum.inl.injEq, Sum.inr.injEq, reduceCtorEq, forall_eq', false_imp_iff, imp_self, true_and, and_true, implies_true, forall_const]
      exact ⟨r, rfl, fun i hi => hr i (by omega)⟩
    · simp only [if_neg hq, inb_n (show k < 3000 by omega) (by omega), gd_true, stp]
      simp only [Ok_stp, Ok_bnd, Ok_bndX, Ok_some, Ok_none, Ok_ite, Ok_gd, inb_iff, isB_iff, lp_inl, lp_inr, Prod.mk.injEq, Sum.inl.injEq, Sum.inr.injEq, reduceCtorEq, forall_eq', false_imp_iff, imp_self, true_and, and_true, implies_true, forall_const]
      refine ⟨by omega, up1 r k (aI M 2018 k), rfl, fun i hi => ?_⟩
      unfold up1
      by_cases e : i = k
      · rw [if_pos e, e, hM.2.2 k (by omega)]
      · rw [if_neg e]
        exact hr i (by omega)
  obtain ⟨s, k1, r, rfl, k2⟩ := key
  unfold f12_keep f12_keep_j10
  rw [h.2.1]
  simp only [stp]
  have hM2 : MT (rA (uI μ 2017 16 (Int32.ofNat n)) 2026 r) f n := hM.congr rfl rfl
  rw [k1, bnd_some, c12_lines hM2, bnd_some, c12_told, bnd_some]
  exact ⟨r, rfl, k2⟩
theorem op_keep (h : Rel σ μ) : Ok (f11_keep σ) (fun p => Ok (f12_keep μ) (fun r => p.1 = r.1 ∧ RQ p.2 r.2 o)) := by
  obtain ⟨⟨f, n, hd, c, cu, ma, lf, ml⟩, L, B, H, T, h0⟩ := id h
  obtain ⟨g, s, m, w, t1, t2, t3, t4, t5, t6, t7, t8⟩ := h0
  obtain ⟨⟨z1, z2, z3, z4⟩, f0, n0, z5, z6, z7⟩ := t5
  obtain ⟨σ', k1, k2, k3, k4⟩ := c8_become s g w.cells (t := 1998) (by omega) z5.2.2.2.2.1 z5.2.2.2.2.2.1 ⟨z1, rfl, rfl⟩
  obtain ⟨r, r1, r2⟩ := c12_keep m.1
  unfold f11_keep
  rw [k1, bnd_some, Ok_some, r1, Ok_some]
  have e1 : fI σ' 1 4 = Int32.ofNat (ends f n + 1) := by rw [(k3 1 (by omega)).1]; exact s.1.2.2.2.1
  have hw := w.cells
  have fS : ∀ P : Nat → Prop, (∀ b, P b → b < 1998 ∨ 2004 < b) → Sm P σ σ' := fun P hP => k3.weak hP
  refine ⟨e1, Rel.thr ⟨_, L, B, H, T, g, s.congr (k3 1 (by omega)).1 (k3 1 (by omega)).2.1 (k3 L (by omega)).2.2.1 (k3 B (by omega)).2.2.1 (k3 H (by omega)).2.2.1 (k3 (1 + 4) (by omega)).2.2.1 (k3 (1 + 5) (by omega)).2.2.1 (k3 (1 + 6) (by omega)).2.2.1, m.congr rfl rfl rfl rfl rfl rfl rfl, ?_, ?_, ?_, ?_, ?_, ⟨⟨?_, ?_, ?_, ?_⟩, f, n, k2.1, rfl, r2⟩, t6.congr (fS _ (by omega)) rfl rfl (fun a a1 a2 => aI_rA' (by omega)), ?_, t8.congr (fS _ (by omega)) ?_ ?_ rfl rfl (fun a a1 a2 => aI_rA' (by omega))⟩⟩
  · unfold SW
    rw [k4]
    exact w
  · rw [(k3 8 (by omega)).1, (k3 9 (by omega)).2.2.1]
    exact t1
  · rw [(k3 10 (by omega)).1, (k3 11 (by omega)).1, (k3 12 (by omega)).2.2.1]
    exact t2
  · rw [(k3 1990 (by omega)).1, (k3 1989 (by omega)).1, (k3 1991 (by omega)).2.2.1]
    exact t3
  · rw [(k3 0 (by omega)).1, (k3 2015 (by omega)).2.2.1, (k3 2016 (by omega)).2.2.1]
    exact t4
  · rw [k4]; exact z1
  · rw [k4]; exact z2
  · rw [k4]; exact z3
  · rw [k4]; exact z4
  · rw [(k3 24 (by omega)).1]
    exact t7
  · rw [(k3 24 (by omega)).1]
  · rw [k4]
end R
