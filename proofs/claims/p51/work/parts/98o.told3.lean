/-! the tree counted, branches chosen, the kept text, errors -/
/-- so many acts lie behind -/
def Dp (T : Hst) (k : Nat) : Prop := upw T.2.2.1 k T.2.1 = 0 ∧ ∀ j, j < k → upw T.2.2.1 j T.2.1 ≠ 0
theorem Dp.uniq {T : Hst} {k j : Nat} (h : Dp T k) (h2 : Dp T j) : k = j := by
  rcases Nat.lt_trichotomy k j with z | z | z
  · exact absurd h.1 (h2.2 k z)
  · exact z
  · exact absurd h2.1 (h.2 j z)
theorem upw_s {par : Nat → Nat} : ∀ {k y : Nat}, upw par (k + 1) y = par (upw par k y) := by
  intro k
  induction k with
  | zero => intro y; rfl
  | succ k ih =>
    intro y
    show upw par (k + 1) (par y) = par (upw par k (par y))
    exact ih
theorem upw_add {par : Nat → Nat} : ∀ {i j y : Nat}, upw par i (upw par j y) = upw par (j + i) y := by
  intro i j
  induction j with
  | zero => intro y; rw [Nat.zero_add]; rfl
  | succ j ih =>
    intro y
    rw [show j + 1 + i = (j + i) + 1 by omega]
    exact ih (y := par y)
theorem In.rh {σ : Sto} {D : Doc} {T : Hst} (h : In σ D T) : ∃ μ, RH σ μ T := by
  obtain ⟨μ, L, B, H, h⟩ := h
  exact ⟨μ, h.2.2.2.2.2.2.2.2.2.2.2⟩
theorem isBg.ext {f k : Nat → Int32} {n j p : Nat} (h : isBg f j p) (hp : p ≤ n) (e : ∀ i, i < n → k i = f i) : isBg k j p := by
  refine ⟨by rw [ends_congr e hp]; exact h.1, ?_⟩
  by_cases z : p = 0
  · exact Or.inl z
  · rw [e (p - 1) (by omega)]
    exact h.2
theorem isEn.ext {f k : Nat → Int32} {n j p : Nat} (h : isEn f n j p) (e : ∀ i, i < n → k i = f i) : isEn k n j p := by
  obtain ⟨h1, h2, h3⟩ := h
  refine ⟨h1, by rw [ends_congr e h1]; exact h2, ?_⟩
  by_cases z : p = n
  · exact Or.inl z
  · rw [e p (by omega)]
    exact h3
section T
variable {σ : Sto} {D : Doc} {f : Nat → Int32} {n c N x : Nat} {hd : Nat → Int32} {cu : Nat → Nat} {ma lf ml : Nat → Int32} {T : Hst} {par cho : Nat → Nat} {Bf Af : Nat → Doc}
theorem q_acts0 (h : In σ D T) : f11_acts σ 0 = some (.inl (Int32.ofNat T.1, σ)) ∧ T.1 ≤ 150 := by
  obtain ⟨N, x, par, cho, Bf, Af⟩ := T
  obtain ⟨μ, h⟩ := h.rh
  unfold f11_acts
  rw [if_pos (by decide), h.1.2.2.1]
  exact ⟨rfl, h.1.1⟩
theorem q_acts1 (h : In σ D T) : ∃ k, f11_acts σ 1 = some (.inl (Int32.ofNat k, σ)) ∧ k ≤ 150 ∧ Dp T k := by
  obtain ⟨N, x, par, cho, Bf, Af⟩ := T
  obtain ⟨μ, h⟩ := h.rh
  obtain ⟨k, k1, k2, k3, k4, k5⟩ := depth_both h
  refine ⟨k, ?_, k3, k4, k5⟩
  unfold f11_acts
  rw [if_neg (by decide), if_pos (by decide), k1, bnd_some]
theorem ahead_at (h : In σ D (N, x, par, cho, Bf, Af)) : ∃ v, f4_countAhead σ = some (Int32.ofNat v) ∧ v ≤ 150 ∧ ∀ m, (∀ j, j < m → cho (upw cho j x) ≠ 0) → m ≤ v := by
  obtain ⟨μ, h⟩ := h.rh
  have h' := h
  obtain ⟨⟨g1, g2, g3, g4, g5, g6, g7, g8⟩, h5, h6, h7, h8, h9, h10⟩ := h
  have key : Ok (loopF (fun s_10 => f4_countAhead_b10 σ s_10.1 s_10.2) FU (0, cRf cho x)) (fun r => ∃ v, r = Int32.ofNat v ∧ v ≤ 150 ∧ cho (upw cho v x) = 0) := by
    refine Ok_count 150 (fun k s => s = (Int32.ofNat k, cRf cho (upw cho k x)) ∧ k ≤ upw cho k x ∧ upw cho k x ≤ N) ?_ 0 ⟨rfl, Nat.zero_le _, g2⟩ (by omega) (by (show _ < FU; unfold FU; omega))
    rintro k s hk ⟨rfl, hky, hyN⟩
    show Ok (f4_countAhead_b10 σ (Int32.ofNat k) (cRf cho (upw cho k x))) _
    rw [upw_s]
    generalize hy : upw cho k x = y at hky hyN
    obtain ⟨c1, c2, c3, c4⟩ := h6 y hyN
    unfold f4_countAhead_b10
    by_cases e : cho y = 0
    · rw [if_pos (cRf_0.mpr e), Ok_some, lp_inr]
      exact ⟨k, rfl, by omega, by rw [hy]; exact e⟩
    · rw [if_neg (fun z => e (cRf_0.mp z))]
      have hlt : y < cho y := by
        have := (h5 (cho y) (by omega) c1).1
        have := c2 e
        omega
      obtain ⟨d1, d2, d3, d4⟩ := h6 (cho y) c1
      have e1 : cRf cho y = 26 + 13 * cho y + 1 := by
        unfold cRf
        rw [if_neg e]
      simp only [stp]
      rw [e1, okr_node (by omega), gd_true, Nat.add_sub_cancel, show fR σ (26 + 13 * cho y) 1 = cRf cho (cho y) from d3, i32_succ, Ok_some, lp_inl]
      exact ⟨by omega, rfl, by omega, c1⟩
  obtain ⟨r, k1, v, rfl, k2, k3⟩ := key
  refine ⟨v, ?_, k2, fun m hm => ?_⟩
  · unfold f4_countAhead f4_countAhead_j10
    rw [stp, g5, okr_node (by omega), gd_true, Nat.add_sub_cancel, h'.cRf, stp, k1, bnd_some]
  · rcases Nat.lt_or_ge v m with z | z
    · exact absurd k3 (hm v z)
    · exact z
theorem q_acts2 (h : In σ D (N, x, par, cho, Bf, Af)) : ∃ v, f11_acts σ 2 = some (.inl (Int32.ofNat v, σ)) ∧ v ≤ 150 ∧ ∀ m, (∀ j, j < m → cho (upw cho j x) ≠ 0) → m ≤ v := by
  obtain ⟨v, v1, v2, v3⟩ := ahead_at h
  refine ⟨v, ?_, v2, v3⟩
  unfold f11_acts
  rw [if_neg (by decide), if_neg (by decide), if_pos (by decide), v1, bnd_some]
theorem q_acts3 (h : In σ D (N, x, par, cho, Bf, Af)) : f11_acts σ 3 = some (.inl (Int32.ofNat (cB (ctB par x) N), σ)) ∧ cB (ctB par x) N ≤ 150 := by
  obtain ⟨μ, h⟩ := h.rh
  have := cB_le (P := ctB par x) N
  have := h.1.1
  refine ⟨?_, by omega⟩
  unfold f11_acts
  rw [if_neg (by decide), if_neg (by decide), if_neg (by decide), if_pos (by decide), (count_both h).1, bnd_some]
/-- a continuation is chosen -/
theorem q_branch (h : In σ D (N, x, par, cho, Bf, Af)) {j : Nat} (j1 : j < N) (j2 : ctB par x j = true) : ∃ σ', f11_branch σ (Int32.ofNat (cB (ctB par x) j)) = some (.inl (Int32.ofNat (cB (ctB par x) N), σ')) ∧ In σ' D (N, x, par, upn cho x (j + 1), Bf, Af) ∧ Sm osh σ σ' ∧ fI σ' 24 3 = 0 ∧ fI σ' 24 4 = 0 := by
  obtain ⟨μ, L, B, H, h0⟩ := h
  have rh := h0.2.2.2.2.2.2.2.2.2.2.2
  have g1 : N ≤ 150 := rh.1.1
  have g2 : x ≤ N := rh.1.2.1
  have hle := cB_le (P := ctB par x)
  unfold f11_branch
  rcases contin rh (y := Int32.ofNat (cB (ctB par x) j)) with ⟨i, i1, i2, i3, i4⟩ | ⟨i1, -⟩
  · have hN := hle N
    have hij : i = j := by
      have e := (ofNat_eq (by have := hle j; omega) (by have := hle i; omega)).mp i3
      have hs : ∀ k, ctB par x k = true → cB (ctB par x) (k + 1) = cB (ctB par x) k + 1 := fun k hk => by
        show cB (ctB par x) k + (if ctB par x k = true then 1 else 0) = _
        rw [if_pos hk]
      rcases Nat.lt_trichotomy i j with z | z | z
      · have := cB_mono (P := ctB par x) (show i + 1 ≤ j by omega)
        have := hs i i2
        omega
      · exact z
      · have := cB_mono (P := ctB par x) (show j + 1 ≤ i by omega)
        have := hs j j2
        omega
    subst hij
    rw [i4, bnd_some, stp, if_neg (by omega)]
    have hcl := h0.close
    have hsc : Sm (fun a => a ≠ 24) σ (uI (uI σ 24 3 0) 24 4 0) := Sm.trans (Sm.uI (by omega)) (Sm.uI (by omega))
    have c3 : fI (uI (uI σ 24 3 0) 24 4 0) 24 3 = 0 := by rw [fI_uI, if_pos rfl, if_neg (by decide), fI_uI, if_pos rfl, if_pos rfl]
    have c4 : fI (uI (uI σ 24 3 0) 24 4 0) 24 4 = 0 := by rw [fI_uI, if_pos rfl, if_pos rfl]
    unfold f4_closeGroup
    rw [stp, stp, bnd_some]
    generalize uI (uI σ 24 3 0) 24 4 0 = σc at hcl hsc c3 c4
    generalize uI (uI μ 2017 34 0) 2017 33 (-1) = μc at hcl
    have rc := hcl.2.2.2.2.2.2.2.2.2.2.2
    obtain ⟨⟨k1, k2, k3, k4, k5, k6, k7, k8⟩, h5, h6, h7, h8, h9, h10⟩ := id rc
    have hpj : par (i + 1) = x := by
      unfold ctB at j2
      exact of_decide_eq_true j2
    have hpl : ∀ i, 1 ≤ i → i ≤ N → par i < i := fun i i1 i2 => (h5 i i1 i2).1
    have hnew : RH (uR σc (26 + 13 * x) 1 (26 + 13 * (i + 1) + 1)) (uA μc 2035 x (Int32.ofNat (i + 1))) (N, x, par, upn cho x (i + 1), Bf, Af) := by
      have hf0 : ∀ k, fR (uR σc (26 + 13 * x) 1 (26 + 13 * (i + 1) + 1)) (26 + 13 * k) 0 = fR σc (26 + 13 * k) 0 := fun k => by
        rw [fR_uR]
        by_cases e : 26 + 13 * k = 26 + 13 * x
        · rw [if_pos e, if_neg (by decide)]
        · rw [if_neg e]
      have hf1 : ∀ k, fR (uR σc (26 + 13 * x) 1 (26 + 13 * (i + 1) + 1)) (26 + 13 * k) 1 = if k = x then 26 + 13 * (i + 1) + 1 else fR σc (26 + 13 * k) 1 := fun k => by
        rw [fR_uR]
        by_cases e : k = x
        · rw [if_pos (by omega), if_pos rfl, if_pos e]
        · rw [if_neg (by omega), if_neg e]
      refine ⟨⟨k1, k2, k3, k4, ?_, k6, ?_, k8⟩, fun i i1 i2 => ?_, fun i i2 => ?_, fun i i1 i2 => ?_, fun i i1 i2 => ?_, fun i i1 i2 i3 => ?_, fun i i1 i2 => ?_⟩
      · rw [fR_uR, if_neg (by omega)]
        exact k5
      · have := hf0 0
        exact this.trans k7
      · rw [hf0 i, aI_uA' (by decide)]
        exact h5 i i1 i2
      · rw [hf1 i, aI_uA, if_pos rfl]
        by_cases e : i = x
        · rw [e, if_pos rfl, if_pos rfl, upn_at]
          exact ⟨by omega, fun _ => hpj, by rw [if_neg (by omega)], rfl⟩
        · rw [if_neg e, if_neg e, upn_ne e]
          exact h6 i i2
      · rw [hf1 i, if_neg (by omega)]
        exact h7 i i1 i2
      · obtain ⟨d1, d2, d3⟩ := h8 i i1 i2
        exact ⟨d1, d2.congr (fun a a1 a2 => ⟨rfl, rfl, rfl⟩), d3.congr (fun a a1 a2 => aI_uA' (by omega))⟩
      · obtain ⟨d1, d2, d3⟩ := h9 i i1 i2 i3
        exact ⟨d1, d2.congr (fun a a1 a2 => ⟨rfl, rfl, rfl⟩), d3.congr (fun a a1 a2 => aI_uA' (by omega))⟩
      · obtain ⟨k, hk⟩ := id i2
        have hix := upw_le hpl k8 k x k2
        have := hpl i i1 (by omega)
        rw [upn_ne (by omega)]
        exact h10 i i1 i2
    obtain ⟨c5, _⟩ := count_both hnew
    have hR : Rel0 (uR σc (26 + 13 * x) 1 (26 + 13 * (i + 1) + 1)) (uA μc 2035 x (Int32.ofNat (i + 1))) D L B H (N, x, par, upn cho x (i + 1), Bf, Af) := by
      have hs : Sm (fun a => a ≠ 26 + 13 * x) σc (uR σc (26 + 13 * x) 1 (26 + 13 * (i + 1) + 1)) := Sm.uR (by omega)
      have hw := hcl.2.2.2.1.cells
      refine RelT.act (P := RT) hcl (hs.weak (by omega)) (fun _ _ => rfl) (fun a ha => aI_uA' (by omega)) hcl.1 (hcl.2.1.congr rfl (hs 1 (by omega)).2.1 rfl rfl rfl rfl rfl rfl) (hcl.2.2.1.congr rfl rfl (aI_uA' (by decide)) (aI_uA' (by decide)) (aI_uA' (by decide)) (aI_uA' (by decide)) (aI_uA' (by decide))) ?_ hcl.2.2.2.2.2.2.2.2.2.2.1 hnew
      unfold SW
      rw [(hs 13 (by omega)).2.1]
      exact hcl.2.2.2.1
    rw [k5, okr_node (by omega), gd_true, Nat.add_sub_cancel, stp, c5, bnd_some]
    refine ⟨_, rfl, ⟨_, _, _, _, hR⟩, (hsc.weak (fun a ha => by unfold osh at ha; omega)).trans (Sm.uR (fun b hb => by unfold osh at hb; omega)), c3, c4⟩
  · exact absurd rfl (i1 j j1 j2)
/-- no such continuation -/
theorem q_branchNo (h : In σ D (N, x, par, cho, Bf, Af)) {y : Int32} (hy : ∀ j, j < N → ctB par x j = true → y ≠ Int32.ofNat (cB (ctB par x) j)) : f11_branch σ y = some (.inr (4, σ)) := by
  obtain ⟨μ, h⟩ := h.rh
  unfold f11_branch
  rcases contin h (y := y) with ⟨i, i1, i2, i3, -⟩ | ⟨-, i2⟩
  · exact absurd i3 (hy i i1 i2)
  · rw [i2, bnd_some, stp, if_pos rfl]
/-- the text is kept -/
theorem q_keep (h : In σ (f, n, hd, c, cu, ma, lf, ml) T) : ∃ σ', f11_keep σ = some (Int32.ofNat (ends f n + 1), σ') ∧ In σ' (f, n, hd, c, cu, ma, lf, ml) T ∧ Sm (fun a => a < 1998 ∨ 2004 < a) σ σ' ∧ CT σ' 1998 1999 2000 f n := by
  obtain ⟨μ, L, B, H, h0⟩ := h
  obtain ⟨g, s, m, w, t1, t2, t3, t4, t5, t6, t7, t8⟩ := h0
  obtain ⟨⟨z1, z2, z3, z4⟩, f0, n0, z5, z6, z7⟩ := t5
  obtain ⟨σ', k1, k2, k3, k4⟩ := c8_become s g w.cells (t := 1998) (by omega) z5.2.2.2.2.1 z5.2.2.2.2.2.1 ⟨z1, rfl, rfl⟩
  have hw := w.cells
  have fS : ∀ P : Nat → Prop, (∀ b, P b → b < 1998 ∨ 2004 < b) → Sm P σ σ' := fun P hP => k3.weak hP
  have e1 : fI σ' 1 4 = Int32.ofNat (ends f n + 1) := by rw [(k3 1 (by omega)).1]; exact s.1.2.2.2.1
  refine ⟨σ', ?_, ⟨rA (uI μ 2017 16 (Int32.ofNat n)) 2026 f, L, B, H, g, s.congr (k3 1 (by omega)).1 (k3 1 (by omega)).2.1 (k3 L (by omega)).2.2.1 (k3 B (by omega)).2.2.1 (k3 H (by omega)).2.2.1 (k3 (1 + 4) (by omega)).2.2.1 (k3 (1 + 5) (by omega)).2.2.1 (k3 (1 + 6) (by omega)).2.2.1, m.congr rfl rfl rfl rfl rfl rfl rfl, ?_, ?_, ?_, ?_, ?_, ⟨⟨?_, ?_, ?_, ?_⟩, f, n, k2.1, rfl, fun _ _ => rfl⟩, t6.congr (fS _ (by omega)) rfl rfl (fun a a1 a2 => aI_rA' (by omega)), ?_, t8.congr (fS _ (by omega)) ?_ ?_ rfl rfl (fun a a1 a2 => aI_rA' (by omega))⟩, k3.weak (by omega), k2.1⟩
  · unfold f11_keep
    rw [k1, bnd_some, e1]
  · unfold SW
    rw [k4]
    exact w
  · rw [(k3 8 (by omega)).1, (k3 9 (by omega)).2.2.1]
    exact t1
  · rw [(k3 10 (by omega)).1, (k3 11 (by omega)).1, (k3 12 (by omega)).2.2.1]
    exact t2
  · rw [(k3 1990 (by omega)).1, (k3 1989 (by omega)).1, (k3 1991 (by omega)).2.2.1]
    exact t3
  · rw [(k3 0 (by omega)).1, (k3 2015 (by omega)).2.2.1, (k3 2016 (by omega)).2.2.1]
    exact t4
  · rw [k4]; exact z1
  · rw [k4]; exact z2
  · rw [k4]; exact z3
  · rw [k4]; exact z4
  · rw [(k3 24 (by omega)).1]
    exact t7
  · rw [(k3 24 (by omega)).1]
  · rw [k4]
theorem In.kept (h : In σ D T) : ∃ k kn, CT σ 1998 1999 2000 k kn := by
  obtain ⟨μ, L, B, H, h0⟩ := h
  obtain ⟨-, k, kn, z5, -⟩ := h0.2.2.2.2.2.2.2.2.1
  exact ⟨k, kn, z5⟩
/-- lines of the kept text that stay -/
theorem q_same (h : In σ (f, n, hd, c, cu, ma, lf, ml) T) {k : Nat → Int32} {kn : Nat} (hk : CT σ 1998 1999 2000 k kn) : ∃ e σ', f3_countSame σ 1 = some (Int32.ofNat (lc e (ends k kn + 1) (ends f n + 1)), σ') ∧ ((∀ i, i < n → k i = f i) → kn = n → ∀ j, j < ends f n + 1 → e j j = true) ∧ In σ' (f, n, hd, c, cu, ma, lf, ml) T ∧ Sm (fun a => ¬ (2012 ≤ a ∧ a ≤ 2014)) σ σ' := by
  obtain ⟨L, B, H, s, w⟩ := h.sc
  have hw := w.cells
  obtain ⟨bf, ef, hl⟩ := lines_fn f n
  obtain ⟨bk, ek, hlk⟩ := lines_fn k kn
  obtain ⟨r1, r2, r3, q1⟩ := c3_countSame s.1 hk hl hlk (by omega)
  have hs : Sm (fun a => ¬ (2012 ≤ a ∧ a ≤ 2014)) σ (rA (rA (rA σ 2012 r1) 2013 r2) 2014 r3) := Sm.trans (Sm.rA (by omega)) (Sm.trans (Sm.rA (by omega)) (Sm.rA (by omega)))
  refine ⟨_, _, q1, fun e1 e2 j hj => ?_, h.spare (hs.weak (by omega)) rfl, hs⟩
  subst e2
  have hee : ends k kn = ends f kn := ends_congr e1 (Nat.le_refl _)
  obtain ⟨b1, b2, b3, b4⟩ := hl j (by omega)
  obtain ⟨d1, d2, d3, d4⟩ := hlk j (by omega)
  have eb : bk j = bf j := d1.uniq (b1.ext b4 e1)
  have ee : ek j = ef j := d2.uniq (b2.ext e1)
  show eqL f k bf ef bk ek j j = true
  unfold eqL
  rw [eb, ee]
  have hn := b2.1
  simp only [decide_true, Bool.true_and, decide_eq_true_eq]
  exact fun t ht => (e1 _ (by omega)).symm
theorem lc_all {e : Nat → Nat → Bool} : ∀ m, (∀ j, j < m → e j j = true) → lc e m m = m := by
  intro m
  induction m with
  | zero => intro _; rw [lc_0]
  | succ m ih =>
    intro h
    rw [lc_s, if_pos (h m (by omega)), ih (fun j hj => h j (by omega))]
end T
