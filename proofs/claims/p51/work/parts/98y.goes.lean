/-! the law's goesBack -/
theorem lq35 {j : Nat} (h : j ≤ 40) : lq (2 + j) = 3500 := by
  unfold lq
  rw [if_neg (by omega), if_neg (by omega), if_pos (by omega)]
theorem i41 {j : Nat} (h : j < 41) : inb (Int32.ofNat j) 41 = true := inb_n h (by omega)
section G
variable {τ x : LawS} {D : Doc} {T : Hst} {l6 l7 l9 : Int32} {n b : Nat}
theorem sees_D {a1 : Nat} (ha : lq a1 = 3500) (h : In τ.2 D T) : ∃ x', fL_sees τ a1 = some x' ∧ x'.2 = τ.2 ∧ FR (fun b => b ≠ a1) τ x' ∧ SR (x'.1 a1) D := by
  obtain ⟨f, m, hd, c, cu, ma, lf, ml⟩ := D
  exact sees_ok ha h.ob
theorem like_D {a1 : Nat} (ha : lq a1 = 3500) (h42 : a1 ≠ 42) (h : In τ.2 D T) (s : SR (τ.1 a1) D) : ∃ x, fL_isLike τ a1 = some (1, x) ∧ x.2 = τ.2 ∧ FR (fun b => b ≠ 42) τ x := by
  obtain ⟨f, m, hd, c, cu, ma, lf, ml⟩ := D
  obtain ⟨x, k1, k2, k3, -⟩ := isLike_ok ha h42 h.ob s VI.rf
  exact ⟨x, k1, k2, k3⟩
theorem acts_D (h : In τ.2 D T) (hr : fI τ.2 1992 5 = 0) : Act τ D T (fL_acts τ) := by
  obtain ⟨f, m, hd, c, cu, ma, lf, ml⟩ := D
  exact acts_ok h hr
theorem moves_D (h : In τ.2 D T) (hr : fI τ.2 1992 5 = 0) (hl : Ln τ D) : Mov τ T (fL_moves τ) := by
  obtain ⟨f, m, hd, c, cu, ma, lf, ml⟩ := D
  exact moves_ok h hr hl
/-- one act, or a group of three -/
theorem gb_acts (h : In τ.2 D T) (hr : Rst τ.2) (hn : n ≤ 40) {g : Nat} (hg : g = 0 ∨ g = 1) : ∃ x D' T', fL_goesBack_j43 l6 l7 τ (Int32.ofNat n) l9 (Int32.ofNat g) = fL_goesBack_j126 l6 l7 x (Int32.ofNat n) l9 ∧ In x.2 D' T' ∧ Rst x.2 ∧ Chg D T D' T' ∧ SR (x.1 (2 + n)) D ∧ FR (fun b => b ≠ 0 ∧ b ≠ 43 ∧ b ≠ 2 + n) τ x := by
  obtain ⟨x1, k1, k2, k3, k4⟩ := sees_D (lq35 hn) h
  have h1 : In x1.2 D T := by rw [k2]; exact h
  have r1 : Rst x1.2 := by rw [k2]; exact hr
  have g4 := h1.grp r1.1
  unfold fL_goesBack_j43
  rw [stp, i41 (by omega), gd_true, ofNat_clamp (by omega), k1, bnd_some]
  rcases hg with rfl | rfl
  · rw [if_neg (by decide)]
    unfold fL_goesBack_j73
    rw [stp]
    unfold fL_goesBack_j76
    have key : Ok (loopF (fun s_76 => fL_goesBack_b76 l6 l7 s_76.1 (Int32.ofNat n) l9 (Int32.ofNat 0) s_76.2) 4 (x1, 0)) (fun r => ∃ x D' T', r = .inl x ∧ In x.2 D' T' ∧ GA x1.2 x.2 D D' T T' ∧ FR (fun b => b ≠ 0 ∧ b ≠ 43) x1 x) := by
      refine Ok_count 1 (fun k z => ∃ x D' T', z = (x, Int32.ofNat k) ∧ (k = 0 → x = x1) ∧ (k = 1 → In x.2 D' T' ∧ GA x1.2 x.2 D D' T T' ∧ FR (fun b => b ≠ 0 ∧ b ≠ 43) x1 x)) ?_ 0 ⟨x1, D, T, rfl, fun _ => rfl, fun w => absurd w (by decide)⟩ (by omega) (by omega)
      rintro k z hk ⟨x, D', T', rfl, e0, e1⟩
      show Ok (fL_goesBack_b76 l6 l7 x (Int32.ofNat n) l9 (Int32.ofNat 0) (Int32.ofNat k)) _
      unfold fL_goesBack_b76
      by_cases q : k = 1
      · subst q
        rw [if_pos (by decide), Ok_some, lp_inr]
        exact ⟨x, D', T', rfl, e1 rfl⟩
      · have hk0 : k = 0 := by omega
        subst hk0
        have e0 := e0 rfl
        subst e0
        obtain ⟨v, x2, D2, T2, a1, a2, a3, a4, a5⟩ := acts_D h1 r1.2
        rw [if_neg (by decide), a1, bnd_some, if_neg (fun w => by have w : v = -1000009 := w; rw [w] at a2; exact absurd a2 (by decide)), stp, Ok_some, lp_inl, i32_succ]
        exact ⟨by omega, x2, D2, T2, rfl, fun w => absurd w (by decide), fun _ => ⟨a3, a4, a5⟩⟩
    obtain ⟨r, m1, x, D', T', rfl, m2, m3, m4⟩ := key
    have m1 : loopF (fun s_76 => fL_goesBack_b76 l6 l7 s_76.1 (Int32.ofNat n) l9 (Int32.ofNat 0) s_76.2) 4 (x1, 0) = some (Sum.inl x) := m1
    rw [m1, bnd_some]
    show ∃ x_1 D' T', (if Int32.ofNat 0 = (1 : Int32) then _ else fL_goesBack_j126 l6 l7 x (Int32.ofNat n) l9) = _ ∧ _
    rw [if_neg (by decide)]
    refine ⟨x, D', T', rfl, m2, ⟨by rw [m3.g3]; exact r1.1, by rw [m3.1]; exact r1.2⟩, m3.chg g4, by rw [m4 (2 + n) (by omega)]; exact k4, (k3.weak (fun b hb => hb.2.2)).trans (m4.weak (fun b hb => ⟨hb.1, hb.2.1⟩))⟩
  · rw [if_pos (by decide), dn_13t]
    obtain ⟨σ1, q1, q2, q3, q4, q5, q6⟩ := q_group h1 (x := 1) (Or.inr rfl)
    have e92 : fI σ1 1992 5 = 0 := by rw [(q4 1992 (by decide)).1]; exact r1.2
    rw [q1, bnd_some, show fI x1.2 24 3 = 0 from r1.1]
    rw [show fL_one 0 = some 0 from rfl, bnd_some, bnd_some, if_pos rfl]
    unfold fL_goesBack_j73
    rw [stp]
    unfold fL_goesBack_j76
    have key : Ok (loopF (fun s_76 => fL_goesBack_b76 l6 l7 s_76.1 (Int32.ofNat n) l9 (Int32.ofNat 1) s_76.2) 4 ((x1.1, σ1), 0)) (fun r => ∃ x D' T', r = .inl x ∧ In x.2 D' T' ∧ Grp x.2 D T D' T' ∧ fI x.2 1992 5 = 0 ∧ FR (fun b => b ≠ 0 ∧ b ≠ 43) x1 x) := by
      refine Ok_count 3 (fun k z => ∃ x D' T', z = (x, Int32.ofNat k) ∧ In x.2 D' T' ∧ Grp x.2 D T D' T' ∧ fI x.2 1992 5 = 0 ∧ FR (fun b => b ≠ 0 ∧ b ≠ 43) x1 x) ?_ 0 ⟨(x1.1, σ1), D, T, rfl, q3, ⟨q5, Or.inl ⟨q6, rfl, rfl⟩⟩, e92, FR.rf⟩ (by omega) (by omega)
      rintro k z hk ⟨x, D', T', rfl, e1, e2, e3, e4⟩
      show Ok (fL_goesBack_b76 l6 l7 x (Int32.ofNat n) l9 (Int32.ofNat 1) (Int32.ofNat k)) _
      unfold fL_goesBack_b76
      have e21 : (2 : Int32) * Int32.ofNat 1 < Int32.ofNat k ↔ 2 < k := i32n_lt (a := 2) (by omega) (by omega)
      simp only [e21]
      by_cases q : 2 < k
      · rw [if_pos q, Ok_some, lp_inr]
        exact ⟨x, D', T', rfl, e1, e2, e3, e4⟩
      · obtain ⟨v, x2, D2, T2, a1, a2, a3, a4, a5⟩ := acts_D e1 e3
        rw [if_neg q, a1, bnd_some, if_neg (fun w => by have w : v = -1000009 := w; rw [w] at a2; exact absurd a2 (by decide)), stp, Ok_some, lp_inl, i32_succ]
        exact ⟨by omega, x2, D2, T2, rfl, a3, e2.act a4, by rw [a4.1]; exact e3, e4.trans a5⟩
    obtain ⟨r, m1, x, D', T', rfl, m2, m3, m4, m5⟩ := key
    have m1 : loopF (fun s_76 => fL_goesBack_b76 l6 l7 s_76.1 (Int32.ofNat n) l9 (Int32.ofNat 1) s_76.2) 4 ((x1.1, σ1), 0) = some (Sum.inl x) := m1
    obtain ⟨σ2, p1, p2, p3, p4, p5, p6⟩ := q_group m2 (x := 0) (Or.inl rfl)
    rw [m1, bnd_some]
    show ∃ x_1 D' T', (if Int32.ofNat 1 = (1 : Int32) then (bnd (fL_done x 13 0 0 0) fun p_58 => if p_58.1 = (1 : Int32) then fL_goesBack_j126 l6 l7 p_58.2 (Int32.ofNat n) l9 else _) else _) = _ ∧ _
    rw [if_pos (by decide), dn_13f, p1, bnd_some, m3.1, show fL_one 1 = some 1 from rfl, bnd_some, bnd_some, if_pos rfl]
    refine ⟨(x.1, σ2), D', T', rfl, p3, ⟨p5, by show fI σ2 1992 5 = 0; rw [(p4 1992 (by decide)).1]; exact m4⟩, m3.chg, by show SR (x.1 (2 + n)) D; rw [m5 (2 + n) (by omega)]; exact k4, ?_⟩
    exact (k3.weak (fun b hb => hb.2.2)).trans (fun b hb => m5 b ⟨hb.1, hb.2.1⟩)
/-- what is known as the acts are done: the documents ahead of each -/
def GBI (b n : Nat) (x : LawS) : Prop := ∃ D T, In x.2 D T ∧ Rst x.2 ∧ Ln x D ∧ Dp T (b + n) ∧ b + n ≤ 150 ∧ ∀ j, j < n → SR (x.1 (2 + j)) (bk T (n - 1 - j))
theorem gb_next (hi : GBI b n x) {k m : Nat} (hk : k < m) (hm : m ≤ 10) (hn : n ≤ k) : ∃ x' n', fL_goesBack_b22 x (Int32.ofNat b) (Int32.ofNat m) (Int32.ofNat n) (Int32.ofNat k) = some (.inl (x', Int32.ofNat n', Int32.ofNat (k + 1))) ∧ GBI b n' x' ∧ n' ≤ k + 1 := by
  obtain ⟨D, T, h, hr, hl, hd, hb, hs⟩ := hi
  unfold fL_goesBack_b22
  obtain ⟨v, z, x1, a1, a2, a3, a4, a5⟩ := nextm x 5 (by decide) (by decide)
  have a3 : z - z / (5 : Int32) * (5 : Int32) = Int32.ofNat v := a3
  rw [if_neg (fun w => by have := (i32_le (by omega) (by omega)).mp w; omega), a2, bnd_some, a3]
  have h1 : In x1.2 D T := by rw [a4]; exact h
  have r1 : Rst x1.2 := by rw [a4]; exact hr
  -- what comes behind the acts
  have tail : ∀ y D' T', In y.2 D' T' → Rst y.2 → Chg D T D' T' → SR (y.1 (2 + n)) D → FR (fun b => b ≠ 0 ∧ b ≠ 43 ∧ b ≠ 2 + n) x1 y → ∃ x' n', fL_goesBack_j126 (Int32.ofNat b) (Int32.ofNat m) y (Int32.ofNat n) (Int32.ofNat k) = some (.inl (x', Int32.ofNat n', Int32.ofNat (k + 1))) ∧ GBI b n' x' ∧ n' ≤ k + 1 := by
    intro y D' T' y1 y2 y3 y4 y5
    have yl : Ln y D' := fun i hi => by
      have e : lns D' = lns D := by
        rcases y3 with ⟨e, -⟩ | ⟨-, e⟩
        · rw [e]
        · exact e
      rw [e, y5 45 (by omega), a5 45 (by decide)]
      exact hl i hi
    have rows : ∀ j, j < n → y.1 (2 + j) = x.1 (2 + j) := fun j hj => by rw [y5 (2 + j) (by omega), a5 (2 + j) (by omega)]
    -- the rest: a move, perhaps
    have rest : ∀ (u : LawS) (e n' : Nat), Int32.ofNat n + Int32.ofNat e = Int32.ofNat n' → In u.2 D' T' → Rst u.2 → Ln u D' → Dp T' (b + n') → b + n' ≤ 150 → n' ≤ k + 1 → (∀ j, j < n' → SR (u.1 (2 + j)) (bk T' (n' - 1 - j))) → ∃ x' n', fL_goesBack_j169 (Int32.ofNat b) (Int32.ofNat m) u (Int32.ofNat n) (Int32.ofNat k) (Int32.ofNat e) = some (.inl (x', Int32.ofNat n', Int32.ofNat (k + 1))) ∧ GBI b n' x' ∧ n' ≤ k + 1 := by
      intro u e n' he u1 u2 u3 u4 u5 u6 u7
      unfold fL_goesBack_j169
      obtain ⟨v2, z2, u', b1, b2, b3, b4, b5⟩ := nextm u 3 (by decide) (by decide)
      have b3 : z2 - z2 / (3 : Int32) * (3 : Int32) = Int32.ofNat v2 := b3
      have w1 : In u'.2 D' T' := by rw [b4]; exact u1
      have w2 : Rst u'.2 := by rw [b4]; exact u2
      have w3 : Ln u' D' := fun i hi => by rw [b5 45 (by decide)]; exact u3 i hi
      have w7 : ∀ j, j < n' → SR (u'.1 (2 + j)) (bk T' (n' - 1 - j)) := fun j hj => by rw [b5 (2 + j) (by omega)]; exact u7 j hj
      rw [he, stp, b2, bnd_some, b3]
      by_cases q : Int32.ofNat v2 = 0
      · rw [if_pos q]
        obtain ⟨u2', D2, c1, c2, c3, c4, c5, c6⟩ := moves_D w1 w2.2 w3
        rw [c1, bnd_some, if_neg (show ¬ (1 : Int32) = 0 by decide)]
        unfold fL_goesBack_j197
        rw [stp, i32_succ]
        exact ⟨u2', n', rfl, ⟨D2, T', c2, ⟨by rw [c3]; exact w2.1, by rw [c4]; exact w2.2⟩, c5, u4, u5, fun j hj => by rw [c6 (2 + j) (by omega)]; exact w7 j hj⟩, u6⟩
      · rw [if_neg q]
        unfold fL_goesBack_j197
        rw [stp, i32_succ]
        exact ⟨u', n', rfl, ⟨D', T', w1, w2, w3, u4, u5, w7⟩, u6⟩
    unfold fL_goesBack_j126
    obtain ⟨d, p1, p2, p3⟩ := q_acts1 y1
    rw [p1, nox_inl, bnd_some]
    rcases y3 with ⟨e1, e2⟩ | ⟨e1, e2⟩
    · subst e1 e2
      have hdn : d = b + n := p3.uniq hd
      subst hdn
      have e0 : Int32.ofNat (b + n) - Int32.ofNat b - Int32.ofNat n = Int32.ofNat 0 := by
        rw [i32_sub (by omega), i32_sub (by omega)]
        congr 1
        omega
      obtain ⟨u, c1, c2, c3⟩ := like_D (τ := (y.1, y.2)) (lq35 (j := n) (by omega)) (by omega) y1 y4
      rw [e0, stp, if_neg (by decide), if_neg (by decide), if_pos (by decide), i41 (by omega), gd_true, ofNat_clamp (by omega), c1, bnd_some, if_neg (show ¬ (1 : Int32) = 0 by decide)]
      have c2 : u.2 = y.2 := c2
      refine rest u 0 n (by rw [i32_add]; rfl) (by rw [c2]; exact y1) (by rw [c2]; exact y2) (fun i hi => by rw [c3 45 (by decide)]; exact yl i hi) hd hb (by omega) (fun j hj => ?_)
      rw [c3 (2 + j) (by omega)]
      show SR (y.1 (2 + j)) _
      rw [rows j hj]
      exact hs j hj
    · subst e1
      have hd2 := hd.new (D := D) h.wf
      have hdn : d = b + n + 1 := p3.uniq hd2
      subst hdn
      have e0 : Int32.ofNat (b + n + 1) - Int32.ofNat b - Int32.ofNat n = Int32.ofNat 1 := by
        rw [i32_sub (by omega), i32_sub (by omega)]
        congr 1
        omega
      rw [e0, stp, if_neg (by decide), if_neg (by decide), if_neg (by decide)]
      refine rest (y.1, y.2) 1 (n + 1) i32_add y1 y2 yl hd2 (by omega) (by omega) (fun j hj => ?_)
      show SR (y.1 (2 + j)) _
      by_cases q : j = n
      · rw [q, show n + 1 - 1 - n = 0 by omega, bk_new0]
        exact y4
      · rw [show n + 1 - 1 - j = n - 1 - j + 1 by omega, bk_newS h.wf, rows j (by omega)]
        exact hs j (by omega)
  have fin : ∀ g : Nat, g = 0 ∨ g = 1 → ∃ x' n', fL_goesBack_j43 (Int32.ofNat b) (Int32.ofNat m) x1 (Int32.ofNat n) (Int32.ofNat k) (Int32.ofNat g) = some (.inl (x', Int32.ofNat n', Int32.ofNat (k + 1))) ∧ GBI b n' x' ∧ n' ≤ k + 1 := fun g hg => by
    obtain ⟨y, D', T', y1, y2, y3, y4, y5, y6⟩ := gb_acts (l6 := Int32.ofNat b) (l7 := Int32.ofNat m) (l9 := Int32.ofNat k) h1 r1 (show n ≤ 40 by omega) hg
    rw [y1]
    exact tail y D' T' y2 y3 y4 y5 y6
  split
  · exact fin 1 (Or.inr rfl)
  · exact fin 0 (Or.inl rfl)
end G
