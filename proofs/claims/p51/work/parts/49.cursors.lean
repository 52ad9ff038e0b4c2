/-! what an act or a move of cursors leaves as it was -/
def nsh (a : Nat) : Prop := a = 0 ∨ (8 ≤ a ∧ a ≤ 12) ∨ (24 ≤ a ∧ a ≤ 2005) ∨ a = 2015 ∨ a = 2016
def mfr (μ μ' : Sto) : Prop := (∀ k, ((11 ≤ k ∧ k ≤ 19 ∧ k ≠ 18) ∨ (31 ≤ k ∧ k ≤ 34) ∨ k = 42 ∨ k = 50 ∨ k = 51) → fI μ' 2017 k = fI μ 2017 k) ∧ ∀ a, ((2023 ≤ a ∧ a ≤ 2028) ∨ (2034 ≤ a ∧ a ≤ 2042) ∨ (2043 ≤ a ∧ a ≤ 2049)) → aI μ' a = aI μ a
theorem mfr.rf {μ : Sto} : mfr μ μ := ⟨fun _ _ => rfl, fun _ _ => rfl⟩
theorem mfr.trans {μ1 μ2 μ3 : Sto} (h : mfr μ1 μ2) (h2 : mfr μ2 μ3) : mfr μ1 μ3 := ⟨fun k hk => (h2.1 k hk).trans (h.1 k hk), fun a ha => (h2.2 a ha).trans (h.2 a ha)⟩
theorem mfr.rA {μ : Sto} {a : Nat} {r : Nat → Int32} (h : ¬ ((2023 ≤ a ∧ a ≤ 2028) ∨ (2034 ≤ a ∧ a ≤ 2042) ∨ (2043 ≤ a ∧ a ≤ 2049))) : mfr μ (rA μ a r) := ⟨fun _ _ => rfl, fun b hb => aI_rA' (fun e => h (e ▸ hb))⟩
theorem mfr.uI {μ : Sto} {k : Nat} {v : Int32} (h : ¬ ((11 ≤ k ∧ k ≤ 19 ∧ k ≠ 18) ∨ (31 ≤ k ∧ k ≤ 34) ∨ k = 42 ∨ k = 50 ∨ k = 51)) : mfr μ (uI μ 2017 k v) := ⟨fun j hj => by rw [fI_uI, if_pos rfl, if_neg (by rintro rfl; exact h hj)], fun _ _ => rfl⟩
theorem Rel0.sheet {σ μ σ' μ' : Sto} {D D' : Doc} {L B H L' B' H' : Nat} {T : Hst} (h : Rel0 σ μ D L B H T) (hs : Sm nsh σ σ') (hm : mfr μ μ') (g : GD D') (s : SC σ' 1 L' B' H' D') (m : SM μ' D') (w : SW σ' L' B' H') : Rel0 σ' μ' D' L' B' H' T := by
  obtain ⟨_, _, _, _, t1, t2, t3, t4, t5, t6, t7, t8⟩ := h
  refine ⟨g, s, m, w, ?_, ?_, ?_, ?_, t5.congr (hs.weak (fun a ha => Or.inr (Or.inr (Or.inl (by omega))))) (hm.1 16 (by omega)) (hm.2 2026 (by omega)), t6.congr (hs.weak (fun a ha => Or.inr (Or.inr (Or.inl (by omega))))) (hm.1 50 (by omega)) (hm.1 51 (by omega)) (fun a a1 a2 => hm.2 a (by omega)), ?_, t8.congr (hs.weak (fun a ha => Or.inr (Or.inr (Or.inl (by omega))))) ?_ ?_ (hm.1 31 (by omega)) (hm.1 32 (by omega)) (fun a a1 a2 => hm.2 a (by omega))⟩
  · rw [(hs 8 (Or.inr (Or.inl (by omega)))).1, (hs 9 (Or.inr (Or.inl (by omega)))).2.2.1, hm.1 11 (by omega), hm.2 2023 (by omega)]
    exact t1
  · rw [(hs 10 (Or.inr (Or.inl (by omega)))).1, (hs 11 (Or.inr (Or.inl (by omega)))).1, (hs 12 (Or.inr (Or.inl (by omega)))).2.2.1, hm.1 12 (by omega), hm.1 13 (by omega), hm.1 14 (by omega), hm.2 2024 (by omega)]
    exact t2
  · rw [(hs 1990 (Or.inr (Or.inr (Or.inl (by omega))))).1, (hs 1989 (Or.inr (Or.inr (Or.inl (by omega))))).1, (hs 1991 (Or.inr (Or.inr (Or.inl (by omega))))).2.2.1, hm.1 15 (by omega), hm.1 19 (by omega), hm.2 2025 (by omega)]
    exact t3
  · rw [(hs 0 (Or.inl rfl)).1, (hs 2015 (Or.inr (Or.inr (Or.inr (Or.inl rfl))))).2.2.1, (hs 2016 (Or.inr (Or.inr (Or.inr (Or.inr rfl))))).2.2.1, hm.1 17 (by omega), hm.2 2027 (by omega), hm.2 2028 (by omega)]
    exact t4
  · rw [(hs 24 (Or.inr (Or.inr (Or.inl (by omega))))).1, hm.1 34 (by omega), hm.1 33 (by omega)]
    exact t7
  · rw [(hs 24 (Or.inr (Or.inr (Or.inl (by omega))))).1]
  · rw [(hs 24 (Or.inr (Or.inr (Or.inl (by omega))))).2.1]
theorem nsh_ne {a b : Nat} (hb : nsh b) (ha : (1 ≤ a ∧ a ≤ 7) ∨ (13 ≤ a ∧ a ≤ 23)) : b ≠ a := by
  unfold nsh at hb
  omega
theorem SW.cells {σ : Sto} {L B H : Nat} (w : SW σ L B H) : ((L = 2 ∧ B = 3 ∧ H = 4) ∨ (L = 20 ∧ B = 21 ∧ H = 22)) := by
  rcases w with w | w <;> omega
section R
variable {σ μ : Sto} {o : Int64} {L B H : Nat} {f : Nat → Int32} {n c : Nat} {hd : Nat → Int32} {cu : Nat → Nat} {ma lf ml : Nat → Int32}
theorem CT.uI {s k : Nat} {v : Int32} (h : CT σ s L B f n) (h1 : k ≠ 1) (h4 : k ≠ 4) : CT (uI σ s k v) s L B f n := by
  unfold CT at h ⊢
  rw [fI_uI, if_pos rfl, if_neg (Ne.symm h1), fI_uI, if_pos rfl, if_neg (Ne.symm h4)]
  exact h
theorem c8_settleS (s : SC σ 1 L B H (f, n, hd, c, cu, ma, lf, ml)) (w : (L = 2 ∧ B = 3 ∧ H = 4) ∨ (L = 20 ∧ B = 21 ∧ H = 22)) (hc : 1 ≤ c ∧ c ≤ 8) (hb : ∀ i, i < c → cu i ≤ n) : ∃ (σ' : Sto) (q : Nat) (d : Nat → Nat) (h' : Nat → Int32), f8_settleCursors σ 1 = some σ' ∧ isCu c cu q d ∧ isOps hd (ends f n + 1) (fun i => ends f (d i)) q h' ∧ SC σ' 1 L B H (f, n, h', q, d, ma, lf, ml) ∧ Sm nsh σ σ' ∧ fR σ' = fR σ := by
  obtain ⟨s1, ⟨s2, s3, s4, s5⟩, ⟨s6, s7⟩, s8, s9⟩ := s
  obtain ⟨r, q, d, r', h', k1, k2, k3, k4, k5⟩ := c8_settle s1 ⟨s2, s3, s4⟩ (by omega) s5 s6 hc.1 hc.2 s7 hb
  refine ⟨_, q, d, h', k1, k2, k4, ⟨?_, ⟨s2, s3, s4, fun j hj => ?_⟩, ⟨rfl, fun k hk => ?_⟩, fun k hk => ?_, fun k hk => ?_⟩, ?_, rfl⟩
  · have a1 : CT (rA σ 5 r) 1 L B f n := s1.congr rfl rfl (aI_rA' (by omega)) (aI_rA' (by omega))
    have a2 : CT (uI (rA σ 5 r) 1 6 (Int32.ofNat q)) 1 L B f n := a1.uI (by omega) (by omega)
    exact a2.congr rfl rfl (aI_rA' (by omega)) (aI_rA' (by omega))
  · rw [aI_rA, if_pos rfl]
    exact k5 j hj
  · rw [aI_rA' (by omega)]
    show aI (rA σ 5 r) 5 k = _
    rw [aI_rA, if_pos rfl]
    exact k3 k hk
  · rw [aI_rA' (by omega)]
    show aI (rA σ 5 r) 6 k = _
    rw [aI_rA' (by omega)]
    exact s8 k hk
  · rw [aI_rA' (by omega)]
    show aI (rA σ 5 r) 7 k = _
    rw [aI_rA' (by omega)]
    exact s9 k hk
  · exact Sm.trans (Sm.rA (fun b hb => nsh_ne hb (by omega))) (Sm.trans (Sm.uI (fun b hb => nsh_ne hb (by omega))) (Sm.rA (fun b hb => nsh_ne hb (by omega))))
theorem c12_ordersS (m : SM μ (f, n, hd, c, cu, ma, lf, ml)) (hc : 1 ≤ c ∧ c ≤ 8) (hb : ∀ i, i < c → cu i ≤ 3000) : ∃ (μ' : Sto) (q : Nat) (d : Nat → Nat), f12_orders μ = some μ' ∧ isCu c cu q d ∧ SM μ' (f, n, hd, q, d, ma, lf, ml) ∧ mfr μ μ' := by
  obtain ⟨m1, m2, ⟨m3, m4⟩, m5, m6⟩ := m
  obtain ⟨r, q, d, k1, k2, k3⟩ := c12_orders m3 hc.1 hc.2 m4 hb
  refine ⟨_, q, d, k1, k2, ⟨m1.congr rfl rfl, m2, ⟨rfl, fun k hk => ?_⟩, m5, m6⟩, mfr.trans (mfr.rA (by omega)) (mfr.uI (by omega))⟩
  show aI (rA μ 2019 r) 2019 k = _
  rw [aI_rA, if_pos rfl]
  exact k3 k hk
theorem c12_opensAtS (m : SM μ (f, n, hd, c, cu, ma, lf, ml)) (hE : ends f n < 300) (h0 : hd 0 = 0) {x : Int32} {p cc : Nat} {h' : Nat → Int32} (hx : x = Int32.ofNat p) (hp : p ≤ n) (ho : isOp hd (ends f n + 1) (ends f p) h' cc) : ∃ μ', f12_opensAt μ x = some μ' ∧ SM μ' (f, n, h', c, cu, ma, lf, ml) ∧ mfr μ μ' := by
  have := ends_mono (f := f) hp
  obtain ⟨m1, m2, m3, m5, m6⟩ := m
  obtain ⟨r, r1, r2⟩ := c12_opens (μ := μ) (m := ends f n + 1) (by omega) (by omega) h0 rfl (fun k hk => by rw [m2 k hk]; simp only [Nat.lt_succ_iff]) ho
  unfold f12_opensAt
  rw [c12_lineAt m1 hx hp, bnd_some, r1, bnd_some]
  refine ⟨_, rfl, ⟨m1.congr rfl rfl, fun k hk => ?_, m3, m5, m6⟩, mfr.rA (by omega)⟩
  rw [aI_rA, if_pos rfl, r2 k hk]
  simp only [Nat.lt_succ_iff]
theorem GD.opened (g : GD (f, n, hd, c, cu, ma, lf, ml)) {h' : Nat → Int32} {q : Nat} {d : Nat → Nat} (hor : ∀ k, k ≤ ends f n → h' k = hd k ∨ h' k = 0) (hq : 1 ≤ q ∧ q ≤ 8) (ha : ∀ i j, i < j → j < q → d i < d j) (hn : ∀ i, i < q → d i ≤ n) (hv : ∀ i, i < q → h' (ends f (d i)) = 0) : GD (f, n, h', q, d, ma, lf, ml) := by
  obtain ⟨g1, g2, g3, g4, g5, g6, g7, g8, g9, g10, g11⟩ := g
  refine ⟨g1, g2, g3, ?_, fun j hj => ?_, hq, ha, hn, hv, g10, g11⟩
  · rcases hor 0 (by omega) with e | e
    · rw [e, g4]
    · exact e
  · rcases hor j hj with e | e
    · rw [e]; exact g5 j hj
    · exact Or.inl e
theorem SM.hext {h' : Nat → Int32} (m : SM μ (f, n, hd, c, cu, ma, lf, ml)) (e : ∀ k, k ≤ ends f n → h' k = hd k) : SM μ (f, n, h', c, cu, ma, lf, ml) := by
  obtain ⟨m1, m2, m3, m5, m6⟩ := m
  refine ⟨m1, fun k hk => ?_, m3, m5, m6⟩
  rw [m2 k hk]
  by_cases hk2 : k ≤ ends f n
  · rw [if_pos hk2, if_pos hk2, e k hk2]
  · rw [if_neg hk2, if_neg hk2]
theorem SM.cext {q : Nat} {d : Nat → Nat} (m : SM μ (f, n, hd, c, cu, ma, lf, ml)) (hq : q = c) (e : ∀ k, k < c → d k = cu k) : SM μ (f, n, hd, q, d, ma, lf, ml) := by
  subst hq
  obtain ⟨m1, m2, ⟨m3, m4⟩, m5, m6⟩ := m
  exact ⟨m1, m2, ⟨m3, fun k hk => by rw [m4 k hk, e k hk]⟩, m5, m6⟩
theorem op_setCursor (h : Rel σ μ) {x : Int32} : stH (f11_setCursor σ x) [(1, 1)] o (f12_setCursor μ x) RQ := by
  obtain ⟨⟨f, n, hd, c, cu, ma, lf, ml⟩, L, B, H, T, h0⟩ := id h
  obtain ⟨g, s, m, w, t⟩ := id h0
  obtain ⟨s1, ⟨s2, s3, s4, s5⟩, ⟨s6, s7⟩, s8, s9⟩ := s
  obtain ⟨m1, m2, ⟨m3, m4⟩, m5, m6⟩ := m
  have hw := w.cells
  unfold f11_setCursor f8_leaveOneCursor f12_setCursor
  rw [c11_requirePlace s1, c12_isPlace m1, bnd_some]
  simp only [ite_tz, decide_eq_true_eq, c12_refuse, c12_told, bnd_some]
  by_cases hx : 0 ≤ x ∧ x ≤ Int32.ofNat n
  · obtain ⟨p, hp, rfl⟩ := of_range hx (by have := g.1; omega)
    have i0 : inb 0 8 = true := by decide
    have e0 : (0 : Int32).toNatClampNeg = 0 := by decide
    simp only [if_pos hx, bndX_inl, stp, i0, gd_true, e0, s6, m3]
    have hpe := ends_mono (f := f) hp
    obtain ⟨h', cc, ho⟩ := isOp.ex (h := hd) (m := ends f n + 1) (j := ends f p) (by omega)
    have a1 : CT (uA σ (1 + 4) 0 (Int32.ofNat p)) 1 L B f n := s1.congr rfl rfl (aI_uA' (by omega)) (aI_uA' (by omega))
    have sS : SC (uI (uA σ (1 + 4) 0 (Int32.ofNat p)) 1 6 1) 1 L B H (f, n, hd, 1, (fun _ => p), ma, lf, ml) := by
      refine ⟨a1.uI (by omega) (by omega), ⟨s2, s3, s4, fun j hj => ?_⟩, ⟨rfl, fun k hk => ?_⟩, fun k hk => ?_, fun k hk => ?_⟩
      · show aI (uA σ (1 + 4) 0 (Int32.ofNat p)) H j = _
        rw [aI_uA' (by omega)]
        exact s5 j hj
      · show aI (uA σ (1 + 4) 0 (Int32.ofNat p)) 5 k = _
        rw [aI_uA, if_pos rfl, if_pos (by omega)]
      · show aI (uA σ (1 + 4) 0 (Int32.ofNat p)) 6 k = _
        rw [aI_uA' (by omega)]
        exact s8 k hk
      · show aI (uA σ (1 + 4) 0 (Int32.ofNat p)) 7 k = _
        rw [aI_uA' (by omega)]
        exact s9 k hk
    have mS : SM (uA (uI μ 2017 6 1) 2019 0 (Int32.ofNat p)) (f, n, hd, 1, (fun _ => p), ma, lf, ml) := by
      refine ⟨m1.congr rfl rfl, m2, ⟨rfl, fun k hk => ?_⟩, m5, m6⟩
      rw [aI_uA, if_pos rfl, if_pos (by omega)]
    obtain ⟨σ', q, d, h2, k1, k2, k4, k5, k6, k7⟩ := c8_settleS sS hw ⟨by omega, by omega⟩ (fun _ _ => hp)
    obtain ⟨μ', p1, p2, p3⟩ := c12_opensAtS mS g.2.1 g.2.2.2.1 rfl hp ho
    have hq : q = 1 := by have := k2.1; have := k2.2.1; omega
    subst hq
    have hd0 : ∀ i, i < 1 → d i = p := fun i hi => by
      obtain ⟨j, hj, e⟩ := (k2.2.2.2 (d i)).mp ⟨i, hi, rfl⟩
      exact e.symm
    have hh : ∀ k, k ≤ ends f n → h2 k = h' k := by
      intro k hk
      obtain ⟨h1, c1, o1, o2⟩ := k4
      have o2 : isOp h1 (ends f n + 1) (ends f (d 0)) h2 c1 := o2
      rw [hd0 0 (by omega)] at o2
      exact ((o2.ext (by omega) o1).uniq ho (by omega)).2 k (by omega)
    rw [k1, bnd_some, p1, bnd_some]
    refine stH_ok rfl rfl ⟨(f, n, h2, 1, d, ma, lf, ml), L, B, H, T, h0.sheet ?_ ?_ ?_ k5 ((p2.hext hh).cext rfl hd0) ?_⟩
    · exact Sm.trans (Sm.trans (Sm.uA (fun b hb => nsh_ne hb (by omega))) (Sm.uI (fun b hb => nsh_ne hb (by omega)))) k6
    · have f1 : mfr μ (uI μ 2017 6 1) := mfr.uI (by omega)
      have f2 : mfr (uI μ 2017 6 1) (uA (uI μ 2017 6 1) 2019 0 (Int32.ofNat p)) := by rw [uA_up1]; exact mfr.rA (by omega)
      exact (f1.trans f2).trans p3
    · refine g.opened (fun k hk => isOps.or k4 k (by omega)) ⟨by omega, by omega⟩ (fun i j a b => by omega) (fun i hi => by rw [hd0 i hi]; exact hp) (fun i hi => ?_)
      rw [hd0 i hi, hh _ hpe]
      exact ho.at (by omega)
    · unfold SW
      rw [k7]
      exact w
  · simp only [if_neg hx]
    exact stH_er (c := 1) (t := 1) rfl (by decide) (by decide) rfl h
theorem c8_hasCursorAt (s6 : fI σ 1 6 = Int32.ofNat c) (hc : c ≤ 8) (s7 : ∀ k, k < c → aI σ (1 + 4) k = Int32.ofNat (cu k)) (hb : ∀ i, i < c → cu i ≤ 3000) {p : Nat} (hp : p ≤ 3000) : ∃ b : Bool, f8_hasCursorAt σ 1 (Int32.ofNat p) = some (tz b) ∧ (b = true ↔ ∃ i, i < c ∧ cu i = p) := by
  have key : Ok (f8_hasCursorAt σ 1 (Int32.ofNat p)) (fun r => ∃ b : Bool, r = tz b ∧ (b = true ↔ ∃ i, i < c ∧ cu i = p)) := by
    unfold f8_hasCursorAt f8_hasCursorAt_j2
    simp only [Ok_stp, Ok_bnd]
    refine Ok.imp (Q := fun r => (r = .inl () ∧ ∀ i, i < c → cu i ≠ p) ∨ (r = .inr () ∧ ∃ i, i < c ∧ cu i = p)) ?_ ?_
    · refine Ok_count c (fun k z => z = Int32.ofNat k ∧ ∀ i, i < k → cu i ≠ p) ?_ 0 ⟨rfl, fun i hi => by omega⟩ (by omega) (by (show _ < FU; unfold FU; omega))
      rintro k z hk ⟨rfl, h1⟩
      have e1 : Int32.ofNat c ≤ Int32.ofNat k ↔ k = c := by grind
      unfold f8_hasCursorAt_b2
      simp only [s6, e1]
      by_cases hkc : k = c
      · simp only [if_pos hkc]
        simp only [Ok_stp, Ok_bnd, Ok_bndX, Ok_some, Ok_none, Ok_ite, Ok_gd, inb_iff, isB_iff, lp_inl, lp_inr, Prod.mk.injEq, Sum.inl.injEq, Sum.inr.injEq, reduceCtorEq, forall_eq', false_imp_iff, imp_self, true_and, and_true, implies_true, forall_const]
        subst hkc
        exact Or.inl h1
      · have i1 : inb (Int32.ofNat k) 8 = true := inb_t (by grind)
        have i2 : (Int32.ofNat k).toNatClampNeg = k := ofNat_clamp (by omega)
        have e2 : Int32.ofNat (cu k) = Int32.ofNat p ↔ cu k = p := by have := hb k (by omega); grind
        have e3 : Int32.ofNat k + 1 = Int32.ofNat (k + 1) := by grind
        simp only [if_neg hkc, i1, i2, gd_true, s7 k (by omega), e2, e3]
        by_cases hq : cu k = p
        · simp only [if_pos hq]
          simp only [Ok_stp, Ok_bnd, Ok_bndX, Ok_some, Ok_none, Ok_ite, Ok_gd, inb_iff, isB_iff, lp_inl, lp_inr, Prod.mk.injEq, Sum.inl.injEq, Sum.inr.injEq, reduceCtorEq, forall_eq', false_imp_iff, imp_self, true_and, and_true, implies_true, forall_const]
          exact Or.inr ⟨k, by omega, hq⟩
        · simp only [if_neg hq]
          simp only [Ok_stp, Ok_bnd, Ok_bndX, Ok_some, Ok_none, Ok_ite, Ok_gd, inb_iff, isB_iff, lp_inl, lp_inr, Prod.mk.injEq, Sum.inl.injEq, Sum.inr.injEq, reduceCtorEq, forall_eq', false_imp_iff, imp_self, true_and, and_true, implies_true, forall_const]
          exact ⟨by omega, fun i hi => by
            by_cases e : i = k
            · rw [e]; exact hq
            · exact h1 i (by omega)⟩
    · rintro r (⟨rfl, h1⟩ | ⟨rfl, h1⟩)
      · simp only [Ok_some]
        exact ⟨false, rfl, ⟨fun z => (by cases z), fun z => by obtain ⟨i, hi, e⟩ := z; exact absurd e (h1 i hi)⟩⟩
      · simp only [Ok_some]
        exact ⟨true, rfl, ⟨fun _ => h1, fun _ => rfl⟩⟩
  obtain ⟨r, h1, b, rfl, h2⟩ := key
  exact ⟨b, h1, h2⟩
theorem c12_addThere (m3 : fI μ 2017 6 = Int32.ofNat c) (hc : c ≤ 8) (m4 : ∀ k, k < c → aI μ 2019 k = Int32.ofNat (cu k)) (hb : ∀ i, i < c → cu i ≤ 3000) {p : Nat} (hp : p ≤ 3000) : ∃ b : Bool, loopF (fun s_18 => f12_addCursor_b18 (Int32.ofNat p) μ s_18.1 s_18.2) FU (0, 0) = some (tz b) ∧ (b = true ↔ ∃ i, i < c ∧ cu i = p) := by
  have key : Ok (loopF (fun s_18 => f12_addCursor_b18 (Int32.ofNat p) μ s_18.1 s_18.2) FU (0, 0)) (fun r => ∃ b : Bool, r = tz b ∧ (b = true ↔ ∃ i, i < c ∧ cu i = p)) := by
    refine Ok_count c (fun k z => ∃ b : Bool, z = (tz b, Int32.ofNat k) ∧ (b = true ↔ ∃ i, i < k ∧ cu i = p)) ?_ 0 ⟨false, rfl, ⟨fun z => (by cases z), fun z => by obtain ⟨i, hi, _⟩ := z; omega⟩⟩ (by omega) (by (show _ < FU; unfold FU; omega))
    rintro k z hk ⟨b, rfl, h1⟩
    have e1 : Int32.ofNat c ≤ Int32.ofNat k ↔ k = c := by grind
    unfold f12_addCursor_b18 f12_addCursor_j40 f12_addCursor_j45
    simp only [m3, e1]
    by_cases hkc : k = c
    · simp only [if_pos hkc]
      simp only [Ok_stp, Ok_bnd, Ok_bndX, Ok_some, Ok_none, Ok_ite, Ok_gd, inb_iff, isB_iff, lp_inl, lp_inr, Prod.mk.injEq, Sum.inl.injEq, Sum.inr.injEq, reduceCtorEq, forall_eq', false_imp_iff, imp_self, true_and, and_true, implies_true, forall_const]
      subst hkc
      exact ⟨b, rfl, h1⟩
    · have i1 : inb (Int32.ofNat k) 8 = true := inb_t (by grind)
      have i2 : (Int32.ofNat k).toNatClampNeg = k := ofNat_clamp (by omega)
      have e2 : Int32.ofNat (cu k) = Int32.ofNat p ↔ cu k = p := by have := hb k (by omega); grind
      have e3 : Int32.ofNat k + 1 = Int32.ofNat (k + 1) := by grind
      simp only [if_neg hkc, i1, i2, gd_true, m4 k (by omega), e2, e3, stp, ite_tz]
      cases b
      · simp only [Bool.false_eq_true, if_false]
        have hno : ¬ ∃ i, i < k ∧ cu i = p := fun z => by cases h1.mpr z
        by_cases hq : cu k = p
        · simp only [if_pos hq]
          simp only [Ok_stp, Ok_bnd, Ok_bndX, Ok_some, Ok_none, Ok_ite, Ok_gd, inb_iff, isB_iff, lp_inl, lp_inr, Prod.mk.injEq, Sum.inl.injEq, Sum.inr.injEq, reduceCtorEq, forall_eq', false_imp_iff, imp_self, true_and, and_true, implies_true, forall_const]
          exact ⟨Nat.lt_of_le_of_ne hk hkc, true, rfl, ⟨fun _ => ⟨k, Nat.lt_succ_self k, hq⟩, fun _ => rfl⟩⟩
        · simp only [if_neg hq]
          simp only [Ok_stp, Ok_bnd, Ok_bndX, Ok_some, Ok_none, Ok_ite, Ok_gd, inb_iff, isB_iff, lp_inl, lp_inr, Prod.mk.injEq, Sum.inl.injEq, Sum.inr.injEq, reduceCtorEq, forall_eq', false_imp_iff, imp_self, true_and, and_true, implies_true, forall_const]
          have h5 : k + 1 ≤ c := Nat.lt_of_le_of_ne hk hkc
          refine ⟨h5, false, rfl, ⟨fun z => (by cases z), fun z => ?_⟩⟩
          obtain ⟨i, hi, e⟩ := z
          by_cases e2 : i = k
          · exact absurd (e2 ▸ e) hq
          · exact absurd ⟨i, Nat.lt_of_le_of_ne (Nat.le_of_lt_succ hi) e2, e⟩ hno
      · simp only [if_true]
        have h5 : k + 1 ≤ c := Nat.lt_of_le_of_ne hk hkc
        have h6 : ∃ i, i < k + 1 ∧ cu i = p := by
          obtain ⟨i, hi, e⟩ := h1.mp rfl
          exact ⟨i, Nat.lt_succ_of_lt hi, e⟩
        simp only [Ok_stp, Ok_bnd, Ok_bndX, Ok_some, Ok_none, Ok_ite, Ok_gd, inb_iff, isB_iff, lp_inl, lp_inr, Prod.mk.injEq, Sum.inl.injEq, Sum.inr.injEq, reduceCtorEq, forall_eq', false_imp_iff, imp_self, true_and, and_true, implies_true, forall_const]
        exact ⟨h5, true, rfl, ⟨fun _ => h6, fun _ => rfl⟩⟩
  obtain ⟨r, h1, b, rfl, h2⟩ := key
  exact ⟨b, h1, h2⟩
theorem op_addCursor (h : Rel σ μ) {x : Int32} : stH (f11_addCursor σ x) [(1, 1), (3, 2)] o (f12_addCursor μ x) RQ := by
  obtain ⟨⟨f, n, hd, c, cu, ma, lf, ml⟩, L, B, H, T, h0⟩ := id h
  obtain ⟨g, s, m, w, t⟩ := id h0
  obtain ⟨s1, ⟨s2, s3, s4, s5⟩, ⟨s6, s7⟩, s8, s9⟩ := s
  obtain ⟨m1, m2, ⟨m3, m4⟩, m5, m6⟩ := m
  have hw := w.cells
  have hcu := g.2.2.2.2.2.2.2.1
  have hc18 := g.2.2.2.2.2.1
  have hn := g.1
  unfold f11_addCursor f12_addCursor f12_addCursor_j18
  rw [c11_requirePlace s1, c12_isPlace m1, bnd_some]
  simp only [ite_tz, decide_eq_true_eq, c12_refuse, c12_told, bnd_some]
  by_cases hx : 0 ≤ x ∧ x ≤ Int32.ofNat n
  · obtain ⟨p, hp, rfl⟩ := of_range hx (by omega)
    obtain ⟨b, b1, b2⟩ := c8_hasCursorAt s6 hc18.2 s7 (fun i hi => by have := hcu i hi; omega) (p := p) (by omega)
    obtain ⟨b', b1', b2'⟩ := c12_addThere m3 hc18.2 m4 (fun i hi => by have := hcu i hi; omega) (p := p) (by omega)
    have hbb : b' = b := by
      cases b <;> cases b' <;> first | rfl | (exact absurd (b2.mp rfl) (fun z => by cases b2'.mpr z)) | (exact absurd (b2'.mp rfl) (fun z => by cases b2.mpr z))
    rw [hbb] at b1'
    clear hbb b2' b2
    simp only [if_pos hx, bndX_inl, b1, stp, b1', bnd_some, ite_tz, s6, m3]
    by_cases hb : b = true
    · simp only [if_pos hb]
      exact stH_ok rfl rfl h
    · simp only [if_neg hb]
      have e1 : Int32.ofNat c < 8 ↔ c < 8 := by grind
      have e2 : Int32.ofNat c = 8 ↔ ¬ c < 8 := by grind
      simp only [e1, e2]
      by_cases hc8 : c < 8
      · have i1 : inb (Int32.ofNat c) 8 = true := inb_t (by grind)
        have i2 : (Int32.ofNat c).toNatClampNeg = c := ofNat_clamp (by omega)
        have e3 : Int32.ofNat c + 1 = Int32.ofNat (c + 1) := by grind
        have e4 : fI (uA σ 5 c (Int32.ofNat p)) 1 6 = Int32.ofNat c := s6
        have e5 : fI (uA μ 2019 c (Int32.ofNat p)) 2017 6 = Int32.ofNat c := m3
        simp only [if_pos hc8, if_neg (fun z : ¬ c < 8 => z hc8), i1, i2, gd_true, e4, e5, e3]
        have hpe := ends_mono (f := f) hp
        obtain ⟨h', cc, ho⟩ := isOp.ex (h := hd) (m := ends f n + 1) (j := ends f p) (by omega)
        have a1 : CT (uA σ 5 c (Int32.ofNat p)) 1 L B f n := s1.congr rfl rfl (aI_uA' (by omega)) (aI_uA' (by omega))
        have sS : SC (uI (uA σ 5 c (Int32.ofNat p)) 1 6 (Int32.ofNat (c + 1))) 1 L B H (f, n, hd, c + 1, (fun i => if i = c then p else cu i), ma, lf, ml) := by
          refine ⟨a1.uI (by omega) (by omega), ⟨s2, s3, s4, fun j hj => ?_⟩, ⟨rfl, fun k hk => ?_⟩, fun k hk => ?_, fun k hk => ?_⟩
          · show aI (uA σ 5 c (Int32.ofNat p)) H j = _
            rw [aI_uA' (by omega)]
            exact s5 j hj
          · show aI (uA σ 5 c (Int32.ofNat p)) 5 k = _
            rw [aI_uA, if_pos rfl]
            by_cases e : k = c
            · simp only [if_pos e]
            · simp only [if_neg e]
              exact s7 k (by omega)
          · show aI (uA σ 5 c (Int32.ofNat p)) 6 k = _
            rw [aI_uA' (by omega)]
            exact s8 k hk
          · show aI (uA σ 5 c (Int32.ofNat p)) 7 k = _
            rw [aI_uA' (by omega)]
            exact s9 k hk
        have mS : SM (uI (uA μ 2019 c (Int32.ofNat p)) 2017 6 (Int32.ofNat (c + 1))) (f, n, hd, c + 1, (fun i => if i = c then p else cu i), ma, lf, ml) := by
          refine ⟨m1.congr rfl rfl, m2, ⟨rfl, fun k hk => ?_⟩, m5, m6⟩
          show aI (uA μ 2019 c (Int32.ofNat p)) 2019 k = _
          rw [aI_uA, if_pos rfl]
          by_cases e : k = c
          · simp only [if_pos e]
          · simp only [if_neg e]
            exact m4 k (by omega)
        have hbn : ∀ i, i < c + 1 → (if i = c then p else cu i) ≤ n := fun i hi => by
          by_cases e : i = c
          · rw [if_pos e]; exact hp
          · rw [if_neg e]; exact hcu i (by omega)
        obtain ⟨σ', q, d, h2, k1, k2, k4, k5, k6, k7⟩ := c8_settleS sS hw ⟨by omega, by omega⟩ hbn
        obtain ⟨μ1, q', d', r1, r2, r3, r4⟩ := c12_ordersS mS ⟨by omega, by omega⟩ (fun i hi => by have := hbn i hi; omega)
        obtain ⟨rfl, hdd⟩ := k2.uniq r2
        obtain ⟨μ', p1, p2, p3⟩ := c12_opensAtS r3 g.2.1 g.2.2.2.1 rfl hp ho
        have hdn : ∀ i, i < q → d i ≤ n := fun i hi => by
          obtain ⟨j, hj, e⟩ := (k2.2.2.2 (d i)).mp ⟨i, hi, rfl⟩
          rw [← e]
          exact hbn j hj
        obtain ⟨i0, hi0, ei0⟩ := (k2.2.2.2 p).mpr ⟨c, by omega, if_pos rfl⟩
        have ho' : isOp hd (ends f n + 1) (ends f (d i0)) h' cc := by rw [ei0]; exact ho
        have hone := isOps.one (l := fun i => ends f (d i)) ho' (by show ends f (d i0) < _; rw [ei0]; omega) k4 (fun i hi => ⟨by have := ends_mono (f := f) (hdn i hi); show ends f (d i) < _; omega, fun hne => by
          obtain ⟨j, hj, e⟩ := (k2.2.2.2 (d i)).mp ⟨i, hi, rfl⟩
          show hd (ends f (d i)) = 0
          by_cases ejc : j = c
          · simp only [if_pos ejc] at e
            have : d i = d i0 := by rw [ei0, e]
            rcases Nat.lt_trichotomy i i0 with hl | hl | hl
            · have := k2.2.2.1 i i0 hl hi0; omega
            · exact absurd hl hne
            · have := k2.2.2.1 i0 i hl hi; omega
          · simp only [if_neg ejc] at e
            rw [← e]
            exact g.2.2.2.2.2.2.2.2.1 j (by omega)⟩)
        have hh : ∀ k, k ≤ ends f n → h2 k = h' k := fun k hk => by rw [hone k (by omega), if_pos hi0]
        have vS : fI σ' 1 6 = Int32.ofNat q := k5.2.2.1.1
        have vM : fI μ' 2017 6 = Int32.ofNat q := p2.2.2.1.1
        rw [k1, r1]
        simp only [bnd_some, p1, vS, vM]
        refine stH_ok rfl rfl ⟨(f, n, h2, q, d, ma, lf, ml), L, B, H, T, h0.sheet ?_ ?_ ?_ k5 ((p2.hext hh).cext rfl hdd) ?_⟩
        · exact Sm.trans (Sm.trans (Sm.uA (fun b hb => nsh_ne hb (by omega))) (Sm.uI (fun b hb => nsh_ne hb (by omega)))) k6
        · have f2 : mfr μ (uA μ 2019 c (Int32.ofNat p)) := by rw [uA_up1]; exact mfr.rA (by omega)
          have f1 : mfr (uA μ 2019 c (Int32.ofNat p)) (uI (uA μ 2019 c (Int32.ofNat p)) 2017 6 (Int32.ofNat (c + 1))) := mfr.uI (by omega)
          exact ((f2.trans f1).trans r4).trans p3
        · refine g.opened (fun k hk => isOps.or k4 k (by omega)) ⟨k2.1, by have := k2.2.1; omega⟩ k2.2.2.1 hdn (fun i hi => ?_)
          exact isOps.at k4 (fun i hi => by have := ends_mono (f := f) (hdn i hi); show ends f (d i) < _; omega) i hi
        · unfold SW
          rw [k7]
          exact w
      · simp only [if_neg hc8, if_pos hc8]
        exact stH_er (c := 3) (t := 2) rfl (by decide) (by decide) rfl h
  · simp only [if_neg hx]
    exact stH_er (c := 1) (t := 1) rfl (by decide) (by decide) rfl h
end R
