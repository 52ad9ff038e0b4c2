/-! calls told in full: the class's side -/
theorem SM.make {μ : Sto} {D : Doc} (g : GD D) : ∃ μ', SM μ' D ∧ mfr μ μ' := by
  obtain ⟨f, n, hd, c, cu, ma, lf, ml⟩ := D
  refine ⟨rA (rA (rA (rA (rA (uI (uI μ 2017 5 (Int32.ofNat n)) 2017 6 (Int32.ofNat c)) 2018 f) 2019 (fun k => Int32.ofNat (cu k))) 2020 ma) 2021 ml) 2022 (fun j => if j ≤ ends f n then hd j else 0), ⟨⟨g.1, ?_, fun k hk => ?_⟩, fun j hj => ?_, ⟨?_, fun k hk => ?_⟩, fun k hk => ?_, fun k hk => ?_⟩, ?_⟩
  · show fI (uI (uI μ 2017 5 (Int32.ofNat n)) 2017 6 (Int32.ofNat c)) 2017 5 = _
    rw [fI_uI, if_pos rfl, if_neg (by decide), fI_uI, if_pos rfl, if_pos rfl]
  · rw [aI_rA' (by omega), aI_rA' (by omega), aI_rA' (by omega), aI_rA' (by omega), aI_rA, if_pos rfl]
  · rw [aI_rA, if_pos rfl]
  · show fI (uI (uI μ 2017 5 (Int32.ofNat n)) 2017 6 (Int32.ofNat c)) 2017 6 = _
    rw [fI_uI, if_pos rfl, if_pos rfl]
  · rw [aI_rA' (by omega), aI_rA' (by omega), aI_rA' (by omega), aI_rA, if_pos rfl]
  · rw [aI_rA' (by omega), aI_rA' (by omega), aI_rA, if_pos rfl]
  · rw [aI_rA' (by omega), aI_rA, if_pos rfl]
  · exact mfr.trans (mfr.trans (mfr.trans (mfr.trans (mfr.trans (mfr.trans (mfr.uI (by omega)) (mfr.uI (by omega))) (mfr.rA (by omega))) (mfr.rA (by omega))) (mfr.rA (by omega))) (mfr.rA (by omega))) (mfr.rA (by omega))
theorem In.sc {σ : Sto} {D : Doc} {T : Hst} (h : In σ D T) : ∃ L B H, SC σ 1 L B H D ∧ SW σ L B H := by
  obtain ⟨μ, L, B, H, h⟩ := h
  exact ⟨L, B, H, h.2.1, h.2.2.2.1⟩
theorem In.sheet {σ σ' : Sto} {D D' : Doc} {L' B' H' : Nat} {T : Hst} (h : In σ D T) (hs : Sm nsh σ σ') (g : GD D') (s : SC σ' 1 L' B' H' D') (w : SW σ' L' B' H') : In σ' D' T := by
  obtain ⟨μ, L, B, H, h⟩ := h
  obtain ⟨μ', m1, m2⟩ := SM.make (μ := μ) g
  exact ⟨μ', L', B', H', h.sheet hs m2 g s m1 w⟩
theorem SC.cut {σ : Sto} {s L B H q q' : Nat} {f : Nat → Int32} {n : Nat} {hd : Nat → Int32} {d d' : Nat → Nat} {ma lf ml : Nat → Int32} (h : SC σ s L B H (f, n, hd, q, d, ma, lf, ml)) (e : q' = q) (e2 : ∀ i, i < q → d' i = d i) : SC σ s L B H (f, n, hd, q', d', ma, lf, ml) := by
  subst e
  obtain ⟨h1, h2, ⟨h3, h4⟩, h5⟩ := h
  exact ⟨h1, h2, ⟨h3, fun i hi => by rw [h4 i hi, e2 i hi]⟩, h5⟩
theorem isCu.many {c q : Nat} {cu d : Nat → Nat} {m : Nat} (h : isCu m cu q d) (hc : c ≤ m) (ha : ∀ i j, i < j → j < c → cu i < cu j) : c ≤ q := by
  have hex : ∀ i, ∃ k, i < c → k < q ∧ d k = cu i := fun i => by
    by_cases z : i < c
    · obtain ⟨k, k1, k2⟩ := (h.2.2.2 (cu i)).mpr ⟨i, by omega, rfl⟩
      exact ⟨k, fun _ => ⟨k1, k2⟩⟩
    · exact ⟨0, fun w => absurd w z⟩
  obtain ⟨g, hg⟩ := Classical.axiomOfChoice hex
  have hmono : ∀ i, i < c → i ≤ g i := by
    intro i
    induction i with
    | zero => intro _; exact Nat.zero_le _
    | succ i ih =>
      intro hi
      have h1 := ih (by omega)
      obtain ⟨a1, a2⟩ := hg i (by omega)
      obtain ⟨b1, b2⟩ := hg (i + 1) hi
      have hlt := ha i (i + 1) (by omega) hi
      rcases Nat.lt_or_ge (g i) (g (i + 1)) with z | z
      · omega
      · rcases Nat.lt_or_ge (g (i + 1)) (g i) with y | y
        · have := h.2.2.1 (g (i + 1)) (g i) y a1
          omega
        · have : g i = g (i + 1) := by omega
          rw [this] at a2
          omega
  by_cases z : c = 0
  · omega
  · have h1 := hmono (c - 1) (by omega)
    have h2 := (hg (c - 1) (by omega)).1
    omega
section T
variable {σ : Sto} {L B H : Nat} {f : Nat → Int32} {n c : Nat} {hd : Nat → Int32} {cu : Nat → Nat} {ma lf ml : Nat → Int32} {T : Hst}
theorem in_p {p n : Nat} (h : p ≤ n) (hn : n < 2147483648) : 0 ≤ Int32.ofNat p ∧ Int32.ofNat p ≤ Int32.ofNat n := ⟨(i32_le (a := 0) (by omega) (by omega)).mpr (by omega), (i32_le (by omega) (by omega)).mpr h⟩
/-- one cursor left -/
theorem q_one (h : In σ (f, n, hd, c, cu, ma, lf, ml) T) {p : Nat} (hp : p ≤ n) : ∃ σ' h', f8_leaveOneCursor σ 1 (Int32.ofNat p) = some σ' ∧ In σ' (f, n, h', 1, (fun _ => p), ma, lf, ml) T ∧ Sm nsh σ σ' := by
  have g := h.gd
  obtain ⟨L, B, H, s, w⟩ := h.sc
  obtain ⟨s1, ⟨s2, s3, s4, s5⟩, ⟨s6, s7⟩, s8, s9⟩ := s
  have hw := w.cells
  unfold f8_leaveOneCursor
  have i0 : inb 0 8 = true := by decide
  have e0 : (0 : Int32).toNatClampNeg = 0 := by decide
  simp only [stp, i0, gd_true, e0]
  have hpe := ends_mono (f := f) hp
  have a1 : CT (uA σ (1 + 4) 0 (Int32.ofNat p)) 1 L B f n := s1.congr rfl rfl (aI_uA' (by omega)) (aI_uA' (by omega))
  have sS : SC (uI (uA σ (1 + 4) 0 (Int32.ofNat p)) 1 6 1) 1 L B H (f, n, hd, 1, (fun _ => p), ma, lf, ml) := by
    refine ⟨a1.uI (by omega) (by omega), ⟨s2, s3, s4, fun j hj => ?_⟩, ⟨rfl, fun k hk => ?_⟩, fun k hk => ?_, fun k hk => ?_⟩
    · show aI (uA σ (1 + 4) 0 (Int32.ofNat p)) H j = _
      rw [aI_uA' (by omega)]
      exact s5 j hj
    · show aI (uA σ (1 + 4) 0 (Int32.ofNat p)) 5 k = _
      rw [aI_uA, if_pos rfl, if_pos (by omega)]
    · show aI (uA σ (1 + 4) 0 (Int32.ofNat p)) 6 k = _
      rw [aI_uA' (by omega)]
      exact s8 k hk
    · show aI (uA σ (1 + 4) 0 (Int32.ofNat p)) 7 k = _
      rw [aI_uA' (by omega)]
      exact s9 k hk
  obtain ⟨σ', q, d, h2, k1, k2, k4, k5, k6, k7⟩ := c8_settleS sS hw ⟨by omega, by omega⟩ (fun _ _ => hp)
  have hq : q = 1 := by have := k2.1; have := k2.2.1; omega
  subst hq
  have hd0 : ∀ i, i < 1 → d i = p := fun i hi => by
    obtain ⟨j, hj, e⟩ := (k2.2.2.2 (d i)).mp ⟨i, hi, rfl⟩
    exact e.symm
  have hsm : Sm nsh σ σ' := Sm.trans (Sm.trans (Sm.uA (fun b hb => nsh_ne hb (by omega))) (Sm.uI (fun b hb => nsh_ne hb (by omega)))) k6
  refine ⟨σ', h2, by rw [k1, bnd_some], h.sheet hsm ?_ (k5.cut rfl (fun i hi => (hd0 i hi).symm)) ?_, hsm⟩
  · refine g.opened (fun k hk => isOps.or k4 k (by omega)) ⟨by omega, by omega⟩ (fun i j a b => by omega) (fun i hi => hp) (fun i hi => ?_)
    have := isOps.at k4 (fun i hi => by rw [hd0 i hi]; omega) 0 (by omega)
    rw [hd0 0 (by omega)] at this
    exact this
  · unfold SW
    rw [k7]
    exact w
theorem q_setCursor (h : In σ (f, n, hd, c, cu, ma, lf, ml) T) {p : Nat} (hp : p ≤ n) : ∃ σ' h', f11_setCursor σ (Int32.ofNat p) = some (.inl (Int32.ofNat c, σ')) ∧ In σ' (f, n, h', 1, (fun _ => p), ma, lf, ml) T ∧ Sm nsh σ σ' := by
  obtain ⟨L, B, H, s, w⟩ := h.sc
  obtain ⟨σ', h', k1, k2, k3⟩ := q_one h hp
  refine ⟨σ', h', ?_, k2, k3⟩
  unfold f11_setCursor
  rw [c11_requirePlace s.1, if_pos (in_p hp (by have := h.gd.1; omega)), bndX_inl, s.2.2.1.1, stp, k1, bnd_some]
theorem q_addCursor (h : In σ (f, n, hd, c, cu, ma, lf, ml) T) {p : Nat} (hp : p ≤ n) : (∃ σ' h' q d, f11_addCursor σ (Int32.ofNat p) = some (.inl (Int32.ofNat q, σ')) ∧ c ≤ q ∧ q ≤ c + 1 ∧ In σ' (f, n, h', q, d, ma, lf, ml) T ∧ Sm nsh σ σ') ∨ (c = 8 ∧ f11_addCursor σ (Int32.ofNat p) = some (.inr (3, σ))) := by
  have g := h.gd
  obtain ⟨L, B, H, s, w⟩ := h.sc
  obtain ⟨s1, ⟨s2, s3, s4, s5⟩, ⟨s6, s7⟩, s8, s9⟩ := s
  have hw := w.cells
  have hcu := g.2.2.2.2.2.2.2.1
  have hc18 := g.2.2.2.2.2.1
  have hn := g.1
  obtain ⟨b, b1, b2⟩ := c8_hasCursorAt s6 hc18.2 s7 (fun i hi => by have := hcu i hi; omega) (p := p) (by omega)
  unfold f11_addCursor
  rw [c11_requirePlace s1, if_pos (in_p hp (by omega)), bndX_inl, b1, bnd_some, ite_tz, s6]
  by_cases hb : b = true
  · rw [if_pos hb]
    exact Or.inl ⟨σ, hd, c, cu, rfl, Nat.le_refl _, by omega, h, Sm.rf⟩
  · rw [if_neg hb]
    have e1 : Int32.ofNat c < 8 ↔ c < 8 := by grind
    simp only [e1]
    by_cases hc8 : c < 8
    · have i1 : inb (Int32.ofNat c) 8 = true := inb_t (by grind)
      have i2 : (Int32.ofNat c).toNatClampNeg = c := ofNat_clamp (by omega)
      have e3 : Int32.ofNat c + 1 = Int32.ofNat (c + 1) := by grind
      have e4 : fI (uA σ 5 c (Int32.ofNat p)) 1 6 = Int32.ofNat c := s6
      simp only [if_pos hc8, i1, i2, gd_true, e4, e3, stp]
      have hpe := ends_mono (f := f) hp
      have a1 : CT (uA σ 5 c (Int32.ofNat p)) 1 L B f n := s1.congr rfl rfl (aI_uA' (by omega)) (aI_uA' (by omega))
      have sS : SC (uI (uA σ 5 c (Int32.ofNat p)) 1 6 (Int32.ofNat (c + 1))) 1 L B H (f, n, hd, c + 1, (fun i => if i = c then p else cu i), ma, lf, ml) := by
        refine ⟨a1.uI (by omega) (by omega), ⟨s2, s3, s4, fun j hj => ?_⟩, ⟨rfl, fun k hk => ?_⟩, fun k hk => ?_, fun k hk => ?_⟩
        · show aI (uA σ 5 c (Int32.ofNat p)) H j = _
          rw [aI_uA' (by omega)]
          exact s5 j hj
        · show aI (uA σ 5 c (Int32.ofNat p)) 5 k = _
          rw [aI_uA, if_pos rfl]
          by_cases e : k = c
          · simp only [if_pos e]
          · simp only [if_neg e]
            exact s7 k (by omega)
        · show aI (uA σ 5 c (Int32.ofNat p)) 6 k = _
          rw [aI_uA' (by omega)]
          exact s8 k hk
        · show aI (uA σ 5 c (Int32.ofNat p)) 7 k = _
          rw [aI_uA' (by omega)]
          exact s9 k hk
      have hbn : ∀ i, i < c + 1 → (if i = c then p else cu i) ≤ n := fun i hi => by
        by_cases e : i = c
        · rw [if_pos e]; exact hp
        · rw [if_neg e]; exact hcu i (by omega)
      obtain ⟨σ', q, d, h2, k1, k2, k4, k5, k6, k7⟩ := c8_settleS sS hw ⟨by omega, by omega⟩ hbn
      have hdn : ∀ i, i < q → d i ≤ n := fun i hi => by
        obtain ⟨j, hj, e⟩ := (k2.2.2.2 (d i)).mp ⟨i, hi, rfl⟩
        have e : (if j = c then p else cu j) = d i := e
        rw [← e]
        exact hbn j hj
      have hle : ∀ i, i < q → ends f (d i) < ends f n + 1 := fun i hi => by
        have := ends_mono (f := f) (hdn i hi)
        omega
      have hsm : Sm nsh σ σ' := Sm.trans (Sm.trans (Sm.uA (fun b hb => nsh_ne hb (by omega))) (Sm.uI (fun b hb => nsh_ne hb (by omega)))) k6
      have hcq : c ≤ q := by
        have hcu2 : isCu (c + 1) (fun i => if i = c then p else cu i) q d := k2
        refine hcu2.many (by omega) (fun i j hij hj => ?_)
        show (if i = c then p else cu i) < (if j = c then p else cu j)
        rw [if_neg (by omega), if_neg (by omega)]
        exact g.2.2.2.2.2.2.1 i j hij hj
      rw [k1, bnd_some, k5.2.2.1.1]
      refine Or.inl ⟨σ', h2, q, d, rfl, hcq, k2.2.1, h.sheet hsm ?_ k5 ?_, hsm⟩
      · exact g.opened (fun k hk => isOps.or k4 k (by omega)) ⟨k2.1, by have := k2.2.1; omega⟩ k2.2.2.1 hdn (fun i hi => isOps.at k4 hle i hi)
      · unfold SW
        rw [k7]
        exact w
    · rw [if_neg hc8]
      exact Or.inr ⟨by omega, rfl⟩
theorem q_setMark (h : In σ (f, n, hd, c, cu, ma, lf, ml) T) {k p : Nat} (hk : k < 16) (hp : p ≤ n) {z : Int32} (hz : z = 0 ∨ z = 1) : ∃ σ' ml', f11_setMark σ (Int32.ofNat k) (Int32.ofNat p) z = some (.inl (ma k, σ')) ∧ In σ' (f, n, hd, c, cu, (fun j => if j = k then Int32.ofNat p else ma j), (fun j => if j = k then z else lf j), ml') T ∧ Sm nsh σ σ' := by
  have g := h.gd
  have hn := g.1
  obtain ⟨L, B, H, s, w⟩ := h.sc
  have hL : L ≠ 6 ∧ L ≠ 7 ∧ B ≠ 6 ∧ B ≠ 7 ∧ H ≠ 6 ∧ H ≠ 7 := by rcases w with w | w <;> omega
  have hi : inb (Int32.ofNat k) 16 = true := inb_n hk (by omega)
  have hc : ∀ k, k < 16 → aI σ 6 k = ma k := s.2.2.2.1
  have hsm : Sm nsh σ (uA (uA σ 6 k (Int32.ofNat p)) 7 k z) := Sm.trans (Sm.uA (fun b hb => nsh_ne hb (by omega))) (Sm.uA (fun b hb => nsh_ne hb (by omega)))
  refine ⟨_, fun j => if j = k then z else ml j, ?_, h.sheet (L' := L) (B' := B) (H' := H) hsm ?_ ?_ w, hsm⟩
  · unfold f11_setMark
    rw [c11_requireMark, if_pos (show 0 ≤ Int32.ofNat k ∧ Int32.ofNat k ≤ 15 from in_p (p := k) (n := 15) (by omega) (by omega)), bndX_inl, c11_requirePlace s.1, if_pos (in_p hp (by omega)), bndX_inl, hi, gd_true, ofNat_clamp (by omega), stp, gd_true, stp, gd_true, stp, nar_b hz, hc k hk]
  · obtain ⟨g1, g2, g3, g4, g5, g6, g7, g8, g9, g10, g11⟩ := g
    refine ⟨g1, g2, g3, g4, g5, g6, g7, g8, g9, fun j hj => ?_, fun j hj => ?_⟩
    · by_cases e : j = k
      · simp only [e, if_true]
        exact Or.inr ⟨p, hp, rfl⟩
      · simp only [e, if_false]
        exact g10 j hj
    · by_cases e : j = k
      · simp only [e, if_true]
        exact ⟨hz, hz, fun _ => trivial⟩
      · simp only [e, if_false]
        exact g11 j hj
  · obtain ⟨s1, s2, s3, s4, s5⟩ := s
    refine ⟨s1.congr rfl rfl ((aI_uA' hL.2.1).trans (aI_uA' hL.1)) ((aI_uA' hL.2.2.2.1).trans (aI_uA' hL.2.2.1)), ?_, s3, fun j hj => ?_, fun j hj => ?_⟩
    · rw [aI_uA' hL.2.2.2.2.2, aI_uA' hL.2.2.2.2.1]
      exact s2
    · rw [aI_uA' (by omega), aI_uA, if_pos rfl, hc j hj]
    · rw [aI_uA, if_pos rfl, aI_uA' (by omega), s5 j hj]
theorem q_unfold (h : In σ (f, n, hd, c, cu, ma, lf, ml) T) {j : Nat} (hj : j ≤ ends f n) : ∃ σ' h' cc, f11_unfold σ (Int32.ofNat j) = some (.inl (Int32.ofNat cc, σ')) ∧ isOp hd (ends f n + 1) j h' cc ∧ In σ' (f, n, h', c, cu, ma, lf, ml) T ∧ Sm nsh σ σ' := by
  have g := h.gd
  have hE := g.2.1
  obtain ⟨L, B, H, s, w⟩ := h.sc
  obtain ⟨i1, i2, i3, i4⟩ := s.2.1
  have hL : L ≠ H ∧ B ≠ H ∧ (H = 4 ∨ H = 22) := by rcases w with w | w <;> omega
  obtain ⟨h', cc, ho⟩ := isOp.ex (h := hd) (m := ends f n + 1) (j := j) (by omega)
  obtain ⟨r, r1, r2⟩ := c11_openFold (σ := σ) i3 (by omega) (by omega) rfl rfl (fun k hk => i4 k (by omega)) ho
  have hsm : Sm nsh σ (rA σ H r) := Sm.rA (fun b hb => nsh_ne hb (by omega))
  refine ⟨rA σ H r, h', cc, ?_, ho, h.sheet (L' := L) (B' := B) (H' := H) hsm ?_ ?_ w, hsm⟩
  · unfold f11_unfold
    rw [c11_requireLine s.1, if_pos (in_p hj (by omega)), bndX_inl, i1, okr_s.mpr i2, gd_true, Nat.add_sub_cancel, s.1.2.2.2.1, r1, bnd_some]
  · obtain ⟨g1, g2, g3, g4, g5, g6, g7, g8, g9, g10, g11⟩ := g
    refine ⟨g1, g2, g3, ?_, fun k hk => ?_, g6, g7, g8, fun i hi => ?_, g10, g11⟩
    · rcases ho.or 0 (by omega) with e | e
      · rw [e, g4]
      · exact e
    · rcases ho.or k (by omega) with e | e
      · rw [e]; exact g5 k hk
      · exact Or.inl e
    · have := ends_mono (f := f) (g8 i hi)
      rcases ho.or (ends f (cu i)) (by omega) with e | e
      · rw [e]; exact g9 i hi
      · exact e
  · obtain ⟨s1, s2, s3, s4, s5⟩ := s
    refine ⟨s1.congr rfl rfl (aI_rA' hL.1) (aI_rA' hL.2.1), ⟨i1, i2, i3, fun k hk => ?_⟩, ?_, ?_, ?_⟩
    · rw [aI_rA, if_pos rfl]
      exact r2 k (by omega)
    · rw [aI_rA' (by omega)]; exact s3
    · rw [aI_rA' (by omega)]; exact s4
    · rw [aI_rA' (by omega)]; exact s5
/-- what folding hides -/
theorem q_fold (h : In σ (f, n, hd, c, cu, ma, lf, ml) T) {a b : Nat} (ha : a ≤ ends f n) (hb : b ≤ ends f n) : (b ≤ a ∧ f11_fold σ (Int32.ofNat a) (Int32.ofNat b) = some (.inr (2, σ))) ∨ (a < b ∧ f11_fold σ (Int32.ofNat a) (Int32.ofNat b) = some (.inr (3, σ))) ∨ (a < b ∧ ∃ σ', f11_fold σ (Int32.ofNat a) (Int32.ofNat b) = some (.inl (Int32.ofNat (cn (seg hd (a + 1) (b + 1) 1) (ends f n + 1)), σ')) ∧ In σ' (f, n, seg hd (a + 1) (b + 1) 1, c, cu, ma, lf, ml) T ∧ Sm nsh σ σ') := by
  have g := h.gd
  have hE := g.2.1
  obtain ⟨L, B, H, s, w⟩ := h.sc
  obtain ⟨s1, ⟨s2, s3, s4, s5⟩, ⟨s6, s7⟩, s8, s9⟩ := id s
  have hw := w.cells
  have hcu := g.2.2.2.2.2.2.2.1
  have hc18 := g.2.2.2.2.2.1
  have hHn : (1 ≤ H ∧ H ≤ 7) ∨ (13 ≤ H ∧ H ≤ 23) := by omega
  unfold f11_fold
  rw [c11_requireLine s1, if_pos (in_p ha (by omega)), bndX_inl, c11_requireLine s1, if_pos (in_p hb (by omega)), bndX_inl]
  by_cases hab : a < b
  · rw [if_pos ((i32n_lt (by omega) (by omega)).mpr hab)]
    obtain ⟨q, q1, q2⟩ := c8_inLines s1 s6 hc18.2 s7 hcu (a := a + 1) (b := b) (x := Int32.ofNat a + 1) i32_succ rfl (by omega) (by omega)
    rw [q1, bnd_some, ite_tz]
    by_cases hq : q = true
    · rw [if_pos hq]
      exact Or.inr (Or.inl ⟨hab, rfl⟩)
    · rw [if_neg hq, stp, i32_succ]
      have kc : Ok (loopF (fun s_55 => f11_fold_b55 (Int32.ofNat a) (Int32.ofNat b) s_55.1 s_55.2) FU (σ, Int32.ofNat (a + 1))) (fun s => s = rA σ H (seg (aI σ H) (a + 1) (b + 1) 1)) := by
        refine Ok_count (b - a) (fun k z => z = (rA σ H (seg (aI σ H) (a + 1) (a + 1 + k) 1), Int32.ofNat (a + 1 + k))) ?_ 0 ?_ (by omega) (by (show _ < FU; unfold FU; omega))
        · rintro k z hk rfl
          have i1 : Int32.ofNat b < Int32.ofNat (a + 1 + k) ↔ k = b - a := by grind
          have i2 : fR (rA σ H (seg (aI σ H) (a + 1) (a + 1 + k) 1)) 1 3 = H + 1 := s2
          have i3 : (Int32.ofNat (a + 1 + k)).toNatClampNeg = a + 1 + k := ofNat_clamp (by omega)
          have i4 : k ≠ b - a → inb (Int32.ofNat (a + 1 + k)) 300 = true := fun _ => inb_n (by omega) (by omega)
          have i5 : Int32.ofNat (a + 1 + k) + 1 = Int32.ofNat (a + 1 + (k + 1)) := by grind
          unfold f11_fold_b55
          simp only [i1, i2, okr_s.mpr s3, s4, Nat.add_sub_cancel, i3, gd_true, stp, nar_b (Or.inr rfl), rA_uA, seg_s (Nat.le_add_right (a + 1) k), i5]
          by_cases hq : k = b - a
          · simp only [if_pos hq]
            simp only [Ok_stp, Ok_bnd, Ok_bndX, Ok_some, Ok_none, Ok_ite, Ok_gd, inb_iff, isB_iff, lp_inl, lp_inr, Prod.mk.injEq, Sum.inl.injEq, Sum.inr.injEq, reduceCtorEq, forall_eq', false_imp_iff, imp_self, true_and, and_true, implies_true, forall_const]
            rw [hq, show a + 1 + (b - a) = b + 1 by omega]
          · simp only [if_neg hq, i4 hq, gd_true]
            simp only [Ok_stp, Ok_bnd, Ok_bndX, Ok_some, Ok_none, Ok_ite, Ok_gd, inb_iff, isB_iff, lp_inl, lp_inr, Prod.mk.injEq, Sum.inl.injEq, Sum.inr.injEq, reduceCtorEq, forall_eq', false_imp_iff, imp_self, true_and, and_true, implies_true, forall_const]
            exact ⟨by omega, rfl⟩
        · rw [Nat.add_zero, seg_0, rA_self]
      obtain ⟨σ', k1, rfl⟩ := kc
      unfold f11_fold_j55
      rw [k1, bnd_some]
      have hC' : CT (rA σ H (seg (aI σ H) (a + 1) (b + 1) 1)) 1 L B f n := s1.congr rfl rfl (aI_rA' (by omega)) (aI_rA' (by omega))
      have hH' : ∀ j, j ≤ ends f n → aI (rA σ H (seg (aI σ H) (a + 1) (b + 1) 1)) H j = seg hd (a + 1) (b + 1) 1 j := fun j hj => by
        rw [aI_rA, if_pos rfl]
        unfold seg
        rw [s5 j hj]
      rw [c8_countHidden hC' s2 s3 s4 hH', bnd_some]
      have hsm : Sm nsh σ (rA σ H (seg (aI σ H) (a + 1) (b + 1) 1)) := Sm.rA (fun i hi => nsh_ne hi hHn)
      refine Or.inr (Or.inr ⟨hab, _, rfl, h.sheet (L' := L) (B' := B) (H' := H) hsm ?_ ?_ w, hsm⟩)
      · obtain ⟨g1, g2, g3, g4, g5, g6, g7, g8, g9, g10, g11⟩ := g
        refine ⟨g1, g2, g3, ?_, fun j hj => ?_, g6, g7, g8, fun i hi => ?_, g10, g11⟩
        · unfold seg
          rw [if_neg (by omega)]
          exact g4
        · unfold seg
          split
          · exact Or.inr rfl
          · exact g5 j hj
        · unfold seg
          rw [if_neg (fun z => hq (q2.mpr ⟨i, hi, by omega, by omega⟩))]
          exact g9 i hi
      · refine ⟨hC', ⟨s2, s3, s4, hH'⟩, ⟨s6, fun k hk => ?_⟩, fun k hk => ?_, fun k hk => ?_⟩
        · rw [aI_rA' (by omega)]; exact s7 k hk
        · rw [aI_rA' (by omega)]; exact s8 k hk
        · rw [aI_rA' (by omega)]; exact s9 k hk
  · rw [if_neg (fun z => hab ((i32n_lt (by omega) (by omega)).mp z))]
    exact Or.inl ⟨by omega, rfl⟩
end T
