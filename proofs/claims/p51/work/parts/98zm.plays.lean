/-! the law's turns, and its end -/
/-- the room as a turn finds it -/
def Rdy (x : LawS) : Prop := ∃ D T, In x.2 D T ∧ Rst x.2 ∧ Ln x D
theorem Turn.rdy {z : Option (Int32 × LawS)} (h : Turn z) : ∃ x, z = some (1, x) ∧ Rdy x := by
  obtain ⟨v, x, D, T, rfl, h1, h2, h3, rfl⟩ := h
  exact ⟨x, rfl, D, T, h1, h2, h3⟩
theorem Mov.rdy {τ : LawS} {T : Hst} {z : Option (Int32 × LawS)} (h : Mov τ T z) (hr : Rst τ.2) : ∃ x, z = some (1, x) ∧ Rdy x := by
  obtain ⟨x, D', rfl, h1, h2, h3, h4, -⟩ := h
  exact ⟨x, rfl, D', T, h1, ⟨by rw [h2]; exact hr.1, by rw [h3]; exact hr.2⟩, h4⟩
theorem Act.rdy {τ : LawS} {D : Doc} {T : Hst} {z : Option (Int32 × LawS)} (h : Act τ D T z) (hr : Rst τ.2) (hl : Ln τ D) : ∃ v x, z = some (v, x) ∧ -1000003 ≤ v ∧ Rdy x := by
  obtain ⟨v, x, D', T', rfl, h1, h2, h3, h4⟩ := h
  refine ⟨v, x, rfl, h1, D', T', h2, ⟨by rw [h3.g3]; exact hr.1, by rw [h3.1]; exact hr.2⟩, fun k hk => ?_⟩
  rw [h3.ln, h4 45 (by decide)]
  exact hl k hk
section PY
variable {x τ : LawS} {σ : Sto} {f : Nat → Int32} {n c k w : Nat} {hd : Nat → Int32} {cu : Nat → Nat} {ma lf ml : Nat → Int32} {D : Doc} {T : Hst}
theorem Rdy.held (h : Rdy x) : ∃ y, fL_holds x = some (1, y) ∧ Rdy y := by
  obtain ⟨⟨f, n, hd, c, cu, ma, lf, ml⟩, T, h1, h2, h3⟩ := h
  obtain ⟨y, k1, k2, k3⟩ := holds_ok h1.ob
  exact ⟨y, k1, (f, n, hd, c, cu, ma, lf, ml), T, by rw [k2]; exact h1, by rw [k2]; exact h2, fun k hk => by rw [k3 45 (by decide)]; exact h3 k hk⟩
theorem p_387 (h : Rdy x) : ∃ y, fL_plays_j387 x 1 (Int32.ofNat k) = some (.inl (y, 1, Int32.ofNat (k + 1))) ∧ Rdy y := by
  obtain ⟨y, h1, h2⟩ := h.held
  refine ⟨y, ?_, h2⟩
  unfold fL_plays_j387
  rw [if_neg (show ¬ (1 : Int32) = 0 by decide), h1, bnd_some, if_neg (show ¬ (1 : Int32) = 0 by decide)]
  unfold fL_plays_j408
  rw [stp, stp, i32_succ]
theorem i32_two {v : Nat} : (2 : Int32) * Int32.ofNat v = Int32.ofNat (2 * v) := by
  show Int32.ofNat 2 * Int32.ofNat v = _
  rw [← Int32.ofNat_mul]
/-- how far the kept text is from the text -/
theorem diff_at (h : In σ (f, n, hd, c, cu, ma, lf, ml) T) {g : Nat → Int32} {gn : Nat} (hk : CT σ 1998 1999 2000 g gn) : ∃ v σ', v < 2147483648 ∧ f11_differences σ = some (Int32.ofNat v, σ') ∧ ((∀ i, i < n → g i = f i) → gn = n → v = 0) ∧ In σ' (f, n, hd, c, cu, ma, lf, ml) T ∧ Sm (fun a => ¬ (2012 ≤ a ∧ a ≤ 2014)) σ σ' := by
  obtain ⟨e, σ', q1, q2, q3, q4⟩ := q_same h hk
  obtain ⟨L, B, H, s, w⟩ := h.sc
  have e1 : fI σ' 1998 4 = Int32.ofNat (ends g gn + 1) := by rw [(q4 1998 (by omega)).1]; exact hk.2.2.2.1
  have e2 : fI σ' 1 4 = Int32.ofNat (ends f n + 1) := by rw [(q4 1 (by omega)).1]; exact s.1.2.2.2.1
  have hE := h.gd.2.1
  have hG := hk.2.1
  have l1 := lc_le (e := e) (ends g gn + 1) (ends f n + 1)
  have l2 : lc e (ends g gn + 1) (ends f n + 1) ≤ ends f n + 1 := by
    rw [lc_flip]
    exact lc_le _ _
  refine ⟨ends g gn + 1 + (ends f n + 1) - 2 * lc e (ends g gn + 1) (ends f n + 1), σ', by omega, ?_, fun z1 z2 => ?_, q3, q4⟩
  · unfold f11_differences
    rw [q1, bnd_some, stp, e1, e2, i32_add, i32_two, i32_sub (by omega)]
  · have he : ends g gn = ends f n := by
      rw [z2]
      exact ends_congr z1 (Nat.le_refl _)
    have := lc_all (e := e) (ends f n + 1) (q2 z1 z2)
    rw [he, this]
    omega
/-- the share of lines that stay -/
theorem share_at (h : In σ (f, n, hd, c, cu, ma, lf, ml) T) {g : Nat → Int32} {gn : Nat} (hk : CT σ 1998 1999 2000 g gn) : ∃ v σ', v ≤ ends f n + 1 ∧ f11_sameShare σ = some (FP.fdiv (FP.i2f (Int32.ofNat v)) (FP.i2f (Int32.ofNat (ends f n + 1))), σ') ∧ ((∀ i, i < n → g i = f i) → gn = n → v = ends f n + 1) ∧ In σ' (f, n, hd, c, cu, ma, lf, ml) T ∧ Sm (fun a => ¬ (2012 ≤ a ∧ a ≤ 2014)) σ σ' := by
  obtain ⟨e, σ', q1, q2, q3, q4⟩ := q_same h hk
  obtain ⟨L, B, H, s, w⟩ := h.sc
  have e2 : fI σ' 1 4 = Int32.ofNat (ends f n + 1) := by rw [(q4 1 (by omega)).1]; exact s.1.2.2.2.1
  have hE := h.gd.2.1
  have l2 : lc e (ends g gn + 1) (ends f n + 1) ≤ ends f n + 1 := by
    rw [lc_flip]
    exact lc_le _ _
  obtain ⟨y, y1, y2⟩ := fdiv_form (a := lc e (ends g gn + 1) (ends f n + 1)) (b := ends f n + 1) (by omega) (by omega) (by omega)
  have hn : nf32 (FP.fdiv (FP.i2f (Int32.ofNat (lc e (ends g gn + 1) (ends f n + 1)))) (FP.i2f (Int32.ofNat (ends f n + 1)))) = true := by
    rw [y1]
    exact nf32_t y2
  refine ⟨lc e (ends g gn + 1) (ends f n + 1), σ', l2, ?_, fun z1 z2 => ?_, q3, q4⟩
  · unfold f11_sameShare
    rw [q1, bnd_some, e2, hn, gd_true]
  · have he : ends g gn = ends f n := by
      rw [z2]
      exact ends_congr z1 (Nat.le_refl _)
    rw [he]
    exact lc_all (e := e) (ends f n + 1) (q2 z1 z2)
/-- the turn that keeps the text -/
theorem p_kept (h1 : In x.2 D T) (h2 : Rst x.2) (h3 : Ln x D) : ∃ v s2 σ1 σ2 σ3 a y b σ4 s5 σ5, f11_keep x.2 = some (v, σ1) ∧ f11_count σ1 1 = some (.inl (v, σ1)) ∧ f11_differences σ1 = some (0, σ2) ∧ f11_sameShare σ2 = some (s2, σ3) ∧ Op.cmpValue (FP.fcmp s2 FP.fconst1) .l = 0 ∧ fL_acts (x.1, σ3) = some (a, y) ∧ ¬ a ≤ -1000009 ∧ f11_differences y.2 = some (b, σ4) ∧ ¬ b < 0 ∧ f11_sameShare σ4 = some (s5, σ5) ∧ ¬ 0 < Op.cmpValue (FP.fcmp s5 FP.fconst1) .g ∧ Rdy (y.1, σ5) := by
  obtain ⟨f, n, hd, c, cu, ma, lf, ml⟩ := D
  have hE := h1.gd.2.1
  obtain ⟨σ1, k1, k2, k3, k4⟩ := q_keep h1
  obtain ⟨v2, σ2, v2l, d1, d2, d3, d4⟩ := diff_at k2 k4
  have d2 := d2 (fun _ _ => rfl) rfl
  subst d2
  have k5 : CT σ2 1998 1999 2000 f n := k4.congr (d4 1998 (by omega)).1 (d4 1998 (by omega)).2.1 (d4 1999 (by omega)).2.2.1 (d4 2000 (by omega)).2.2.1
  obtain ⟨v3, σ3, v3l, e1, e2, e3, e4⟩ := share_at d3 k5
  have e2 := e2 (fun _ _ => rfl) rfl
  subst e2
  have q1 := k3.q (by omega) (by omega)
  have q2 := d4.q (by omega) (by omega)
  have q3 := e4.q (by omega) (by omega)
  have r3 : Rst σ3 := ⟨by rw [q3.1, q2.1, q1.1]; exact h2.1, by rw [q3.2, q2.2, q1.2]; exact h2.2⟩
  obtain ⟨a, y, a1, a2, ⟨f', n', hd', c', cu', ma', lf', ml'⟩, T', i1, i2, i3⟩ := (acts_D (τ := (x.1, σ3)) e3 r3.2).rdy r3 h3
  obtain ⟨g, gn, hg⟩ := i1.kept
  have hE' := i1.gd.2.1
  obtain ⟨b, σ4, bl, b1, -, b3, b4⟩ := diff_at i1 hg
  have hg2 : CT σ4 1998 1999 2000 g gn := hg.congr (b4 1998 (by omega)).1 (b4 1998 (by omega)).2.1 (b4 1999 (by omega)).2.2.1 (b4 2000 (by omega)).2.2.1
  obtain ⟨u, σ5, ul, u1, -, u3, u4⟩ := share_at b3 hg2
  have q4 := b4.q (by omega) (by omega)
  have q5 := u4.q (by omega) (by omega)
  refine ⟨_, _, σ1, σ2, σ3, a, y, _, σ4, _, σ5, k1, ob_c1 k2.ob, d1, e1, shr_one (by omega) (by omega), a1, fun z => absurd (Int32.le_trans a2 z) (by decide), b1, i32_lt0 bl, u1, shr_le (by omega) (by omega) ul, (f', n', hd', c', cu', ma', lf', ml'), T', u3, ⟨by rw [q5.1, q4.1]; exact i2.1, by rw [q5.2, q4.2]; exact i2.2⟩, i3⟩
theorem p_8 (h : Rdy x) : ∃ y, fL_plays_j154 x (Int32.ofNat k) 8 = some (.inl (y, 1, Int32.ofNat (k + 1))) ∧ Rdy y := by
  obtain ⟨D, T, h1, h2, h3⟩ := h
  obtain ⟨v, s2, σ1, σ2, σ3, a, y, b, σ4, s5, σ5, e1, e2, e3, e4, e5, e6, e7, e8, e9, e10, e11, e12⟩ := p_kept h1 h2 h3
  have e2 : f11_count (v, σ1).2 1 = some (.inl (v, σ1)) := e2
  have e3 : f11_differences (v, σ1).2 = some (0, σ2) := e3
  have e4 : f11_sameShare ((0 : Int32), σ2).2 = some (s2, σ3) := e4
  have e6 : fL_acts (x.1, (s2, σ3).2) = some (a, y) := e6
  have e8 : f11_differences (a, y).2.2 = some (b, σ4) := e8
  have e10 : f11_sameShare (b, σ4).2 = some (s5, σ5) := e10
  unfold fL_plays_j154
  rw [if_pos (by decide), if_neg (by decide), if_pos (by decide), if_neg (by decide), if_pos (by decide), if_pos (by decide), e1, bnd_some, e2, nox_inl, bnd_some, if_pos rfl, e3, bnd_some, if_pos rfl, e4, bnd_some, if_pos e5, e6, bnd_some, if_neg e7, e8, bnd_some, if_neg e9, e10, bnd_some, if_neg e11]
  unfold fL_plays_j341
  rw [stp]
  exact p_387 e12
theorem p_154 (h : Rdy x) (hw : w < 10) : ∃ y, fL_plays_j154 x (Int32.ofNat k) (Int32.ofNat w) = some (.inl (y, 1, Int32.ofNat (k + 1))) ∧ Rdy y := by
  have fin : ∀ z : Option (Int32 × LawS), (∃ y, z = some (1, y) ∧ Rdy y) → ∃ y, (bnd z fun p => stp p.1 fun l9 => fL_plays_j387 p.2 l9 (Int32.ofNat k)) = some (.inl (y, 1, Int32.ofNat (k + 1))) ∧ Rdy y := by
    rintro z ⟨y, rfl, hy⟩
    rw [bnd_some, stp]
    exact p_387 hy
  by_cases w8 : w = 8
  · subst w8
    exact p_8 h
  obtain ⟨⟨f, n, hd, c, cu, ma, lf, ml⟩, T, h1, h2, h3⟩ := id h
  have cle : ∀ a : Nat, a < 10 → (Int32.ofNat a ≤ Int32.ofNat w ↔ a ≤ w) := fun a ha => i32_le (by omega) (by omega)
  have ceq : ∀ a : Nat, a < 10 → (Int32.ofNat w = Int32.ofNat a ↔ w = a) := fun a ha => ofNat_eq (by omega) (by omega)
  have c2 : (2 : Int32) ≤ Int32.ofNat w ↔ 2 ≤ w := cle 2 (by omega)
  have c5 : (5 : Int32) ≤ Int32.ofNat w ↔ 5 ≤ w := cle 5 (by omega)
  have c8 : (8 : Int32) ≤ Int32.ofNat w ↔ 8 ≤ w := cle 8 (by omega)
  have d2 : Int32.ofNat w = (2 : Int32) ↔ w = 2 := ceq 2 (by omega)
  have d5 : Int32.ofNat w = (5 : Int32) ↔ w = 5 := ceq 5 (by omega)
  have d8 : Int32.ofNat w = (8 : Int32) ↔ w = 8 := ceq 8 (by omega)
  unfold fL_plays_j154
  by_cases q2 : 2 ≤ w
  · rw [if_pos (c2.mpr q2)]
    by_cases r2 : w = 2
    · rw [if_pos (d2.mpr r2)]
      exact fin _ (replacesAll_ok h1 h2 h3).rdy
    · rw [if_neg (fun z => r2 (d2.mp z))]
      by_cases q5 : 5 ≤ w
      · rw [if_pos (c5.mpr q5)]
        by_cases r5 : w = 5
        · rw [if_pos (d5.mpr r5)]
          exact fin _ (branches_ok h1 h2 h3).rdy
        · rw [if_neg (fun z => r5 (d5.mp z))]
          by_cases q8 : 8 ≤ w
          · rw [if_pos (c8.mpr q8), if_neg (fun z => w8 (d8.mp z))]
            obtain ⟨v, z1, x1, a1, a2, a3, a4, a5⟩ := nextm x 2 (by decide) (by decide)
            have a3 : z1 - z1 / (2 : Int32) * (2 : Int32) = Int32.ofNat v := a3
            have i1 : In x1.2 (f, n, hd, c, cu, ma, lf, ml) T := by rw [a4]; exact h1
            have i2 : Rst x1.2 := by rw [a4]; exact h2
            have i3 : Ln x1 (f, n, hd, c, cu, ma, lf, ml) := fun k hk => by rw [a5 45 (by decide)]; exact h3 k hk
            rw [a2, bnd_some, a3]
            by_cases q : Int32.ofNat v = 0
            · obtain ⟨y, e, hy⟩ := (records_ok i1 i2 i3).rdy
              rw [if_pos q, e, bnd_some]
              unfold fL_plays_j385
              rw [stp]
              exact p_387 hy
            · obtain ⟨a, y, e, ha, hy⟩ := (acts_D i1 i2.2).rdy i2 i3
              rw [if_neg q, e, bnd_some, if_neg (show ¬ a ≤ -1000009 from fun z => absurd (Int32.le_trans ha z) (by decide))]
              unfold fL_plays_j385
              rw [stp]
              exact p_387 hy
          · rw [if_neg (fun z => q8 (c8.mp z))]
            exact fin _ ((moves_D h1 h2.2 h3).rdy h2)
      · rw [if_neg (fun z => q5 (c5.mp z))]
        exact fin _ (goes_ok h1 h2 h3).rdy
  · rw [if_neg (fun z => q2 (c2.mp z))]
    exact fin _ (replaces_ok h1 h2 h3).rdy
theorem p_102 (h : Rdy x) (hk : k < 16) : ∃ y, fL_plays_b102 x 1 (Int32.ofNat k) = some (.inl (y, 1, Int32.ofNat (k + 1))) ∧ Rdy y := by
  obtain ⟨⟨f, n, hd, c, cu, ma, lf, ml⟩, T, h1, h2, h3⟩ := h
  obtain ⟨v, z1, x1, a1, a2, a3, a4, a5⟩ := nextm x 10 (by decide) (by decide)
  have a3 : z1 - z1 / (10 : Int32) * (10 : Int32) = Int32.ofNat v := a3
  obtain ⟨r, σ⟩ := x1
  have a4 : σ = x.2 := a4
  have i1 : In σ (f, n, hd, c, cu, ma, lf, ml) T := by rw [a4]; exact h1
  have i2 : Rst σ := by rw [a4]; exact h2
  have i3 : Ln (r, σ) (f, n, hd, c, cu, ma, lf, ml) := fun k hk => by rw [a5 45 (by decide)]; exact h3 k hk
  have e0 : f11_count (z1, r, σ).2.2 0 = some (.inl (Int32.ofNat n, σ)) := ob_c0 i1.ob
  have e16 : (16 : Int32) ≤ Int32.ofNat k ↔ 16 ≤ k := i32_le (a := 16) (by omega) (by omega)
  unfold fL_plays_b102
  rw [if_neg (fun z => by have := e16.mp z; omega), if_neg (show ¬ (1 : Int32) = 0 by decide), a2, bnd_some, a3, stp, e0, nox_inl, bnd_some]
  by_cases q : Int32.ofNat n ≤ 350
  · rw [if_pos q]
    exact p_154 (x := (r, σ)) ⟨_, T, i1, i2, i3⟩ a1
  · rw [if_neg q]
    obtain ⟨a, y, e, ha, hy⟩ := (act_3 (τ := (r, σ)) (a := 100) (b := 300) (c := 0) i1 i2.2).rdy i2 i3
    have e : fL_done ((z1, r, σ).2.1, (Int32.ofNat n, σ).2) 3 100 300 0 = some (a, y) := e
    rw [e, bnd_some, if_neg (show ¬ a = -1000009 from fun z => by rw [z] at ha; exact absurd ha (by decide))]
    exact p_154 hy a1
/-- calls out of range -/
theorem p_end (h : Rdy x) : ∃ y, fL_plays_j416 x 1 = some (1, y) := by
  obtain ⟨⟨f, n, hd, c, cu, ma, lf, ml⟩, T, h1, h2, h3⟩ := h
  obtain ⟨r, σ⟩ := x
  have h1 : In σ (f, n, hd, c, cu, ma, lf, ml) T := h1
  have hn := h1.gd.1
  obtain ⟨L, B, H, s, w⟩ := h1.sc
  have hC := s.1
  have z0 : (0 : Int32) ≤ 0 := by decide
  have zn : ¬ Int32.ofNat n + 1 ≤ Int32.ofNat n := fun z => by
    rw [i32_succ] at z
    have := (i32_le (by omega) (by omega)).mp z
    omega
  have r1 : f11_replace σ 0 (Int32.ofNat n + 1) = some (.inr (1, σ)) := by
    unfold f11_replace
    rw [c11_requirePart hC, if_neg (fun z => zn z.2.2), bndX_inr]
  have r2 : f11_replace σ 0 (-1) = some (.inr (1, σ)) := by
    unfold f11_replace
    rw [c11_requirePart hC, if_neg (fun z => absurd z.2.1 (by decide)), bndX_inr]
  have r3 : f11_erase σ 101 = some (.inr (2, σ)) := by
    unfold f11_erase f11_erase_j12
    rw [if_neg (by decide), if_neg (by decide)]
  have r4 : f11_letterAt σ (Int32.ofNat n) = some (.inr (1, σ)) := by
    unfold f11_letterAt f11_letterAt_j15
    rw [if_neg (i32_lt0 (by omega)), hC.2.2.1, if_neg (fun z => by have := (i32n_lt (by omega) (by omega)).mp z; omega)]
  have r5 : f11_lineOf σ (Int32.ofNat n + 1) = some (.inr (1, σ)) := by
    unfold f11_lineOf
    rw [c11_requirePlace hC, if_neg (fun z => zn z.2), bndX_inr]
  have r6 : f11_moveCursors σ 5 0 = some (.inr (2, σ)) := by
    unfold f11_moveCursors f11_moveCursors_j21
    rw [if_neg (by decide), if_pos (by decide)]
  have r7 : f11_play σ 0 = some (.inr (2, σ)) := by
    unfold f11_play f11_play_j11
    rw [if_pos (by decide)]
  have r8 : f11_undo σ 151 = some (.inr (2, σ)) := by
    unfold f11_undo f11_undo_j12
    rw [if_neg (by decide), if_neg (by decide)]
  have e0 : f11_count (r, σ).2 0 = some (.inl (Int32.ofNat n, σ)) := ob_c0 h1.ob
  have d1 : fL_done (r, σ) 2 0 (Int32.ofNat n + 1) 0 = some (-1000001, (r, σ)) := by
    rw [dn_2, show ((r, σ) : LawS).2 = σ from rfl, r1]
    exact hdl_inr rfl
  have d2 : fL_done (r, σ) 2 0 (-1) 0 = some (-1000001, (r, σ)) := by
    rw [dn_2, show ((r, σ) : LawS).2 = σ from rfl, r2]
    exact hdl_inr rfl
  have d3 : fL_done (r, σ) 1 101 0 0 = some (-1000002, (r, σ)) := by
    rw [dn_1, show ((r, σ) : LawS).2 = σ from rfl, r3]
    exact hdl_inr rfl
  have d4 : fL_done (r, σ) 26 (Int32.ofNat n) 0 0 = some (-1000001, (r, σ)) := by
    rw [dn_26, show ((r, σ) : LawS).2 = σ from rfl, r4]
    exact hdl_inr rfl
  have d5 : fL_done (r, σ) 27 (Int32.ofNat n + 1) 0 0 = some (-1000001, (r, σ)) := by
    rw [dn_27, show ((r, σ) : LawS).2 = σ from rfl, r5]
    exact hdl_inr rfl
  have d6 : fL_done (r, σ) 16 5 0 0 = some (-1000002, (r, σ)) := by
    rw [dn_16, show ((r, σ) : LawS).2 = σ from rfl, r6]
    exact hdl_inr rfl
  have d7 : fL_done (r, σ) 24 0 0 0 = some (-1000002, (r, σ)) := by
    rw [dn_24, show ((r, σ) : LawS).2 = σ from rfl, r7]
    exact hdl_inr rfl
  have d8 : fL_done (r, σ) 10 151 0 0 = some (-1000002, (r, σ)) := by
    rw [dn_10, show ((r, σ) : LawS).2 = σ from rfl, r8]
    exact hdl_inr rfl
  obtain ⟨σ', e⟩ := q_errors h1
  have fin : fL_plays_j561 (r, σ) 1 = some (1, (r, σ')) := by
    unfold fL_plays_j561
    rw [stp, if_neg (show ¬ (1 : Int32) = 0 by decide), show ((r, σ) : LawS).2 = σ from rfl, e, bnd_some, if_pos rfl]
    unfold fL_plays_j581
    rw [show isB (1 : Int32) = true from rfl, gd_true]
  have d1 : fL_done ((r, σ).1, (Int32.ofNat n, σ).2) 2 0 (Int32.ofNat n + 1) 0 = some (-1000001, (r, σ)) := d1
  have d2 : fL_done ((-1000001 : Int32), (r, σ)).2 2 0 (-1) 0 = some (-1000001, (r, σ)) := d2
  have d3 : fL_done ((-1000001 : Int32), (r, σ)).2 1 101 0 0 = some (-1000002, (r, σ)) := d3
  have d4 : fL_done ((-1000002 : Int32), (r, σ)).2 26 (Int32.ofNat n) 0 0 = some (-1000001, (r, σ)) := d4
  have d5 : fL_done ((-1000001 : Int32), (r, σ)).2 27 (Int32.ofNat n + 1) 0 0 = some (-1000001, (r, σ)) := d5
  have d6 : fL_done ((-1000001 : Int32), (r, σ)).2 16 5 0 0 = some (-1000002, (r, σ)) := d6
  have d7 : fL_done ((-1000002 : Int32), (r, σ)).2 24 0 0 0 = some (-1000002, (r, σ)) := d7
  have d8 : fL_done ((-1000002 : Int32), (r, σ)).2 10 151 0 0 = some (-1000002, (r, σ)) := d8
  refine ⟨(r, σ'), ?_⟩
  unfold fL_plays_j416
  rw [e0, nox_inl, bnd_some, stp, if_neg (show ¬ (1 : Int32) = 0 by decide), d1, bnd_some, if_pos rfl, d2, bnd_some, if_pos rfl, d3, bnd_some, if_pos rfl, d4, bnd_some, if_pos rfl, d5, bnd_some, if_pos rfl, d6, bnd_some, if_pos rfl, d7, bnd_some, if_pos rfl, d8, bnd_some, if_pos rfl]
  exact fin
theorem p_all (h : Rdy x) : ∃ y, fL_plays_j102 x 1 0 = some (1, y) := by
  have key : Ok (loopF (fun s_102 => fL_plays_b102 s_102.1 s_102.2.1 s_102.2.2) 17 (x, 1, 0)) (fun r => ∃ y, r = .inl (y, 1) ∧ Rdy y) := by
    refine Ok_count 16 (fun k z => ∃ y, z = (y, 1, Int32.ofNat k) ∧ Rdy y) ?_ 0 ⟨x, rfl, h⟩ (by omega) (by omega)
    rintro k z hk ⟨y, rfl, hy⟩
    show Ok (fL_plays_b102 y 1 (Int32.ofNat k)) _
    by_cases q : k = 16
    · subst q
      unfold fL_plays_b102
      rw [if_pos (by decide), Ok_some, lp_inr]
      exact ⟨y, rfl, hy⟩
    · obtain ⟨y', e, hy'⟩ := p_102 hy (show k < 16 by omega)
      rw [e, Ok_some, lp_inl]
      exact ⟨by omega, y', rfl, hy'⟩
  obtain ⟨r, m1, y, rfl, hy⟩ := key
  obtain ⟨y', e⟩ := p_end hy
  refine ⟨y', ?_⟩
  unfold fL_plays_j102
  rw [m1, bnd_some]
  exact e
end PY
/-! the law's start -/
def tree0 : Hst := (0, 0, fun _ => 0, fun _ => 0, fun _ => doc0, fun _ => doc0)
theorem in0 : In σ0 doc0 tree0 := by
  refine ⟨μ0, 2, 3, 4, gd0, ?_, ?_, ?_, ?_, ?_, ?_, ?_, ?_, ?_, ?_, ?_⟩
  · refine ⟨ct0 (by decide) (by decide) ⟨by decide, by decide, by decide⟩ ⟨by decide, by decide, by decide⟩ (by decide), ⟨by decide, by decide, by decide, fun j _ => ?_⟩, ⟨by decide, fun k hk => ?_⟩, fun k hk => ?_, fun k hk => ?_⟩
    · exact rfl
    · exact rfl
    · show fil 16 (-1) k = -1
      unfold fil
      rw [if_pos hk]
    · exact rfl
  · refine ⟨⟨by omega, rfl, fun k hk => by omega⟩, fun j _ => ?_, ⟨rfl, fun k _ => rfl⟩, fun k hk => ?_, fun k _ => rfl⟩
    · show (0 : Int32) = if _ then (0 : Int32) else 0
      split <;> rfl
    · show fil 16 (-1) k = -1
      unfold fil
      rw [if_pos hk]
  · exact Or.inl ⟨rfl, rfl, rfl, by decide, by decide, by decide⟩
  · exact ⟨0, by omega, by decide, by decide, fun k hk => by omega⟩
  · exact ⟨0, by omega, by decide, by decide, fun k hk => by omega, Or.inl ⟨by decide, by decide, by omega⟩⟩
  · exact ⟨by decide, Or.inl (by decide), 0, by omega, by decide, by decide, fun k hk => by omega⟩
  · refine ⟨⟨4, by omega, by omega, by decide, by decide⟩, fun k hk => ?_⟩
    have e : k = 0 ∨ k = 1 := by omega
    rcases e with rfl | rfl <;> decide
  · refine ⟨⟨by decide, by decide, by decide, by decide⟩, fun _ => 0, 0, ct0 (by decide) (by decide) ⟨by decide, by decide, by decide⟩ ⟨by decide, by decide, by decide⟩ (by decide), by decide, fun k hk => by omega⟩
  · exact ⟨0, by omega, by decide, by decide, by decide, Or.inl (by decide), fun k hk => by omega⟩
  · exact ⟨Or.inl (by decide), by decide, by decide, by decide⟩
  · refine ⟨⟨by omega, by omega, by decide, by decide, by decide, by decide, by decide, rfl⟩, fun i h1 h2 => absurd (Nat.le_trans h1 h2) (by decide), fun i hi => ?_, fun i h1 h2 => ?_, fun i h1 h2 => absurd (Nat.le_trans h1 h2) (by decide), fun i h1 h2 => absurd (Nat.le_trans h1 h2) (by decide), fun i h1 h2 => ?_⟩
    · have e : i = 0 := by omega
      subst e
      exact ⟨by omega, fun z => absurd rfl z, by decide, by decide⟩
    · have h0 : ∀ i, i < 151 → fR σ0 (26 + 13 * i) 1 = 0 := by decide +kernel
      exact h0 i (by omega)
    · obtain ⟨k, hk⟩ := h2
      have : ∀ k, upw (fun _ => 0) k 0 = 0 := fun k => by
        induction k with
        | zero => rfl
        | succ k ih => exact ih
      rw [this k] at hk
      omega
theorem plays_ok {r : Nat → Nat → Int32} (hz : ∀ k, k < 16 → r 45 k = 0) : ∃ y, fL_plays (r, σ0) = some (1, y) := by
  have h0 : In σ0 doc0 (0, 0, fun _ => 0, fun _ => 0, fun _ => doc0, fun _ => doc0) := in0
  have e0 : f11_count (r, σ0).2 0 = some (.inl (0, σ0)) := rfl
  have e1 : f11_count ((0 : Int32), σ0).2 1 = some (.inl (1, σ0)) := rfl
  have e2 : f11_cursorAt ((1 : Int32), σ0).2 0 = some (.inl (0, σ0)) := ob_cursor h0.ob (k := 0) (by omega)
  have e3 : f11_replaceAll σ0 = some (.inr (3, σ0)) := by
    unfold f11_replaceAll
    rw [c7_isSet (σ := σ0) (pn := 0) rfl (by omega), bnd_some, ite_tz, if_neg (by decide)]
  obtain ⟨σ1, u1, u2, u3, u4⟩ := q_undo0 h0
  have b1 : f11_branch σ1 0 = some (.inr (4, σ1)) := q_branchNo u2 (fun j hj => absurd hj (Nat.not_lt_zero j))
  have d1 : fL_done ((r, σ0).1, ((0 : Int32), σ0).2) 9 0 0 0 = some (-1000003, (r, σ0)) := by
    rw [dn_9]
    show hdl r (f11_replaceAll σ0) _ = _
    rw [e3]
    exact hdl_inr rfl
  have d2 : fL_done ((-1000003 : Int32), (r, σ0)).2 10 1 0 0 = some (0, (r, σ1)) := by
    rw [dn_10]
    show hdl r (f11_undo σ0 1) _ = _
    rw [u1]
    exact hdl_inl
  have d3 : fL_done ((0 : Int32), (r, σ1)).2 12 0 0 0 = some (-1000004, (r, σ1)) := by
    rw [dn_12]
    show hdl r (f11_branch σ1 0) _ = _
    rw [b1]
    exact hdl_inr rfl
  have hR : Rdy (r, σ1) := by
    refine ⟨doc0, _, u2, ⟨u3.1, ?_⟩, fun k hk => (hz k hk).symm⟩
    rw [(u4 1992 (by unfold osh; omega)).1]
    rfl
  obtain ⟨y, hy⟩ := p_all hR
  refine ⟨y, ?_⟩
  unfold fL_plays
  rw [e0, nox_inl, bnd_some, if_pos rfl, e1, nox_inl, bnd_some, if_pos rfl, e2, nox_inl, bnd_some, if_pos rfl, d1, bnd_some, if_pos rfl, d2, bnd_some, if_pos rfl, d3, bnd_some, if_pos rfl]
  unfold fL_plays_j97
  rw [stp, stp]
  exact hy
