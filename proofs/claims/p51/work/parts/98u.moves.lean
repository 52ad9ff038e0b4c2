/-! the law's moves -/
theorem cn_clr {h : Nat → Int32} {m j lo hi : Nat} (r : isRun h m j lo hi) : cn (clr h lo hi) m + (hi - lo) = cn h m := by
  obtain ⟨r1, r2, r3, r4, r5, r6⟩ := r
  have key : ∀ k, k ≤ m → cn (clr h lo hi) k + (min k hi - min k lo) = cn h k := by
    intro k
    induction k with
    | zero => intro _; rw [Nat.zero_min, Nat.zero_min]; rfl
    | succ k ih =>
      intro hk
      have h1 := ih (by omega)
      rw [cn, cn]
      unfold clr at h1 ⊢
      by_cases z : lo ≤ k ∧ k < hi
      · rw [if_pos z, if_pos rfl, if_neg (r4 k z.1 z.2)]
        omega
      · rw [if_neg z]
        by_cases z2 : h k = 0
        · rw [if_pos z2]
          omega
        · rw [if_neg z2]
          omega
  have := key m (Nat.le_refl _)
  rw [Nat.min_eq_right r3, Nat.min_eq_right (by omega)] at this
  exact this
theorem cn_seg {h : Nat → Int32} {a b m : Nat} (hb : b < m) : b - a ≤ cn (seg h (a + 1) (b + 1) 1) m := by
  have key : ∀ k, min k (b + 1) - min k (a + 1) ≤ cn (seg h (a + 1) (b + 1) 1) k := by
    intro k
    induction k with
    | zero => rw [Nat.zero_min]; omega
    | succ k ih =>
      rw [cn]
      by_cases z : a + 1 ≤ k ∧ k < b + 1
      · have e : seg h (a + 1) (b + 1) 1 k = 1 := if_pos z
        rw [e, if_neg (by decide)]
        omega
      · omega
  have := key m
  omega
/-- the law's row knows how the marks lean -/
def Ln (τ : LawS) (D : Doc) : Prop := ∀ k, k < 16 → (lns D).1 k = τ.1 45 k
/-- a move of the law: what it gives -/
def Mov (τ : LawS) (T : Hst) (x : Option (Int32 × LawS)) : Prop := ∃ τ' D', x = some (1, τ') ∧ In τ'.2 D' T ∧ fI τ'.2 24 = fI τ.2 24 ∧ fI τ'.2 1992 = fI τ.2 1992 ∧ Ln τ' D' ∧ FR (fun b => b ≠ 0 ∧ b ≠ 45) τ τ'
section MV
variable {τ τ0 : LawS} {f : Nat → Int32} {n c : Nat} {hd : Nat → Int32} {cu : Nat → Nat} {ma lf ml : Nat → Int32} {T : Hst}
theorem Mov.of {τ1 : LawS} {x : Option (Int32 × LawS)} (h : Mov τ1 T x) (e : τ1.2 = τ.2) (hf : FR (fun b => b ≠ 0 ∧ b ≠ 45) τ τ1) : Mov τ T x := by
  obtain ⟨τ', D', h1, h2, h3, h4, h5, h6⟩ := h
  exact ⟨τ', D', h1, h2, by rw [h3, e], by rw [h4, e], h5, hf.trans h6⟩
theorem Sm.nq {σ σ' : Sto} (h : Sm nsh σ σ') : fI σ' 24 = fI σ 24 ∧ fI σ' 1992 = fI σ 1992 := h.q (by unfold nsh; omega) (by unfold nsh; omega)
/-- the numbers of a fold told again -/
theorem mark_ok (h : In τ.2 (f, n, hd, c, cu, ma, lf, ml) T) (hl : Ln τ (f, n, hd, c, cu, ma, lf, ml)) {p k : Nat} (hp : p ≤ n) (hk : k < 16) {z : Int32} (hz : z = 0 ∨ z = 1) : Mov τ T (fL_moves_j224 τ (Int32.ofNat p) (Int32.ofNat k) z) := by
  have hi : inb (Int32.ofNat k) 16 = true := inb_n hk (by omega)
  obtain ⟨σ', ml', k1, k2, k3⟩ := q_setMark h hk hp hz
  obtain ⟨e24, e92⟩ := k3.nq
  have hlf : Ln ((uT τ 45 k z).1, σ') (f, n, hd, c, cu, (fun j => if j = k then Int32.ofNat p else ma j), (fun j => if j = k then z else lf j), ml') := fun j hj => by
    show (if j = k then z else lf j) = up2 τ.1 45 k z 45 j
    rw [up2_at]
    by_cases e : j = k
    · rw [if_pos e, if_pos e]
    · rw [if_neg e, if_neg e]
      exact hl j hj
  have hm : (if k = k then Int32.ofNat p else ma k) = Int32.ofNat p := if_pos rfl
  have hf : FR (fun b => b ≠ 0 ∧ b ≠ 45) τ ((uT τ 45 k z).1, σ') := FR.st (FR.uT (fun b hb => hb.2))
  unfold fL_moves_j224
  rw [stp, ob_mark h.ob hk, nox_inl, bnd_some, stp, hi, gd_true, ofNat_clamp (by omega), nar_b hz, stp, one_hd hz, bnd_some]
  rcases hz with rfl | rfl
  · have k1 : f11_setMark (uT (τ.1, τ.2) 45 k 0).2 (Int32.ofNat k) (Int32.ofNat p) 0 = _ := k1
    rw [dn_17f, k1, hdl_inl, bnd_some, if_pos rfl, ob_mark (show OB ((uT (τ.1, τ.2) 45 k 0).1, σ').2 _ from k2.ob) hk, nox_inl, bnd_some, if_pos hm]
    exact ⟨_, _, rfl, k2, e24, e92, hlf, hf⟩
  · have k1 : f11_setMark (uT (τ.1, τ.2) 45 k 1).2 (Int32.ofNat k) (Int32.ofNat p) 1 = _ := k1
    rw [dn_17t, k1, hdl_inl, bnd_some, if_pos rfl, ob_mark (show OB ((uT (τ.1, τ.2) 45 k 1).1, σ').2 _ from k2.ob) hk, nox_inl, bnd_some, if_pos hm]
    exact ⟨_, _, rfl, k2, e24, e92, hlf, hf⟩
theorem Mov.mk {σ' : Sto} {D' : Doc} (h : In σ' D' T) (hs : Sm nsh τ.2 σ') (hl : Ln τ D') : Mov τ T (some (1, (τ.1, σ'))) := ⟨_, D', rfl, h, hs.nq.1, hs.nq.2, hl, FR.rf⟩
theorem fold_ok (h : In τ.2 (f, n, hd, c, cu, ma, lf, ml) T) (hl : Ln τ (f, n, hd, c, cu, ma, lf, ml)) {a b : Nat} (ha : a ≤ ends f n) (hb : b ≤ ends f n) : Mov τ T (bnd (fL_done (τ.1, τ.2) (19 : Int32) (Int32.ofNat a) (Int32.ofNat b) (0 : Int32)) fun p_38 =>
            stp p_38.1 fun x10_13 =>
            if (Int32.ofNat a) < (Int32.ofNat b) then
              if x10_13 = (-1000003 : Int32) then
                bnd (nox (f11_count p_38.2.2 (4 : Int32))) fun p_44 =>
                if p_44.1 = (Int32.ofNat (cn hd (ends f n + 1))) then
                  fL_moves_j393 (p_38.2.1, p_44.2) (1 : Int32)
                else
                  fL_moves_j393 (p_38.2.1, p_44.2) (0 : Int32)
              else
                bnd (nox (f11_count p_38.2.2 (4 : Int32))) fun p_41 =>
                if x10_13 = p_41.1 then
                  if x10_13 < ((Int32.ofNat b) - (Int32.ofNat a)) then
                    fL_moves_j392 (p_38.2.1, p_41.2)
                  else
                    fL_moves_j393 (p_38.2.1, p_41.2) (1 : Int32)
                else
                  fL_moves_j392 (p_38.2.1, p_41.2)
            else
              if x10_13 = (-1000002 : Int32) then
                fL_moves_j393 p_38.2 (1 : Int32)
              else
                fL_moves_j393 p_38.2 (0 : Int32)) := by
  have hE := h.gd.2.1
  rw [dn_19]
  rcases q_fold h ha hb with ⟨z, k1⟩ | ⟨z, k1⟩ | ⟨z, σ', k1, k2, k3⟩
  · have k1 : f11_fold (τ.1, τ.2).2 (Int32.ofNat a) (Int32.ofNat b) = _ := k1
    rw [k1, hdl_inr (v := -1000002) rfl, bnd_some, stp, if_neg (fun w => by have := (i32n_lt (by omega) (by omega)).mp w; omega), if_pos rfl]
    exact Mov.mk h Sm.rf hl
  · have k1 : f11_fold (τ.1, τ.2).2 (Int32.ofNat a) (Int32.ofNat b) = _ := k1
    rw [k1, hdl_inr (v := -1000003) rfl, bnd_some, stp, if_pos ((i32n_lt (by omega) (by omega)).mpr z), if_pos rfl, ob_c4 (show OB ((τ.1, τ.2).1, τ.2).2 _ from h.ob), nox_inl, bnd_some, if_pos rfl]
    exact Mov.mk h Sm.rf hl
  · have k1 : f11_fold (τ.1, τ.2).2 (Int32.ofNat a) (Int32.ofNat b) = _ := k1
    have hc := cn_le (f := seg hd (a + 1) (b + 1) 1) (ends f n + 1)
    have hs := cn_seg (h := hd) (a := a) (b := b) (m := ends f n + 1) (by omega)
    rw [k1, hdl_inl, bnd_some, stp, if_pos ((i32n_lt (by omega) (by omega)).mpr z), if_neg (fun w => by
      have := i32_lt0 (a := cn (seg hd (a + 1) (b + 1) 1) (ends f n + 1)) (by omega)
      have w : Int32.ofNat (cn (seg hd (a + 1) (b + 1) 1) (ends f n + 1)) = -1000003 := w
      rw [w] at this
      exact this (by decide)), ob_c4 (show OB ((τ.1, τ.2).1, σ').2 _ from k2.ob), nox_inl, bnd_some, if_pos rfl, i32_sub (by omega), if_neg (fun w => by have := (i32n_lt (by omega) (by omega)).mp w; omega)]
    exact Mov.mk k2 k3 hl
theorem unfold_ok (h : In τ.2 (f, n, hd, c, cu, ma, lf, ml) T) (hl : Ln τ (f, n, hd, c, cu, ma, lf, ml)) {a : Nat} (ha : a ≤ ends f n) : Mov τ T (bnd (fL_done (τ.1, τ.2) (20 : Int32) (Int32.ofNat a) (0 : Int32) (0 : Int32)) fun p_35 =>
            stp p_35.1 fun x11_12 =>
            if x11_12 < 0 then
              fL_moves_j460 p_35.2
            else
              if x11_12 ≤ 0 then
                fL_moves_j429 p_35.2 (Int32.ofNat a) (Int32.ofNat (cn hd (ends f n + 1))) (hd a) x11_12 (0 : Int32)
              else
                fL_moves_j429 p_35.2 (Int32.ofNat a) (Int32.ofNat (cn hd (ends f n + 1))) (hd a) x11_12 (1 : Int32)) := by
  have hE := h.gd.2.1
  have h01 := h.gd.2.2.2.2.1 a ha
  obtain ⟨σ', h', cc, k1, k2, k3, k4⟩ := q_unfold h ha
  have k1 : f11_unfold (τ.1, τ.2).2 (Int32.ofNat a) = _ := k1
  have hN := cn_le (f := hd) (ends f n + 1)
  have hN' := cn_le (f := h') (ends f n + 1)
  have hkey : cc + cn h' (ends f n + 1) = cn hd (ends f n + 1) ∧ h' a = 0 ∧ (cc = 0 ↔ hd a = 0) := by
    rcases k2 with ⟨a1, a2, a3⟩ | ⟨lo, hi, a1, a2, a3⟩
    · rw [a2, Nat.zero_add, cn_ext a3, a3 a (by omega), a1]
      exact ⟨rfl, rfl, by simp⟩
    · have := cn_clr a1
      rw [cn_ext a3, a3 a (by omega), a2]
      obtain ⟨r1, r2, r3, r4, -⟩ := a1
      refine ⟨by omega, ?_, ?_⟩
      · unfold clr
        rw [if_pos ⟨r1, r2⟩]
      · have := r4 a r1 r2
        constructor
        · intro w; omega
        · intro w; exact absurd w this
  obtain ⟨y1, y2, y3⟩ := hkey
  have tail : Mov τ T (fL_moves_j429 (τ.1, σ') (Int32.ofNat a) (Int32.ofNat (cn hd (ends f n + 1))) (hd a) (Int32.ofNat cc) (hd a)) := by
    unfold fL_moves_j429
    rw [if_pos rfl, ob_c4 (show OB (τ.1, σ').2 _ from k3.ob), nox_inl, bnd_some, i32_sub (by omega), if_pos (by rw [show cn hd (ends f n + 1) - cc = cn h' (ends f n + 1) by omega]), ob_hidden k3.ob ha, nox_inl, bnd_some, if_pos y2]
    exact Mov.mk k3 k4 hl
  rw [dn_20, k1, hdl_inl, bnd_some, stp, if_neg (i32_lt0 (by omega))]
  by_cases z : cc = 0
  · rw [if_pos ((i32_le0 (by omega)).mpr z)]
    rw [y3.mp z] at tail ⊢
    exact tail
  · rw [if_neg (fun w => z ((i32_le0 (by omega)).mp w))]
    rcases h01 with w | w
    · exact absurd (y3.mpr w) z
    · rw [w] at tail ⊢
      exact tail
theorem moves_ok (h : In τ.2 (f, n, hd, c, cu, ma, lf, ml) T) (hr : fI τ.2 1992 5 = 0) (hl : Ln τ (f, n, hd, c, cu, ma, lf, ml)) : Mov τ T (fL_moves τ) := by
  have hn := h.gd.1
  have hE := h.gd.2.1
  have hc8 := h.gd.2.2.2.2.2.1
  unfold fL_moves
  rw [ob_c0 h.ob, nox_inl, bnd_some, stp, ob_c1 h.ob, nox_inl, bnd_some, stp]
  obtain ⟨v1, z1, τ1, a1, a2, a3, a4, a5⟩ := nextm τ 6 (by decide) (by decide)
  have a2 : fL_next (τ.1, τ.2) = _ := a2
  have a3 : z1 - z1 / (6 : Int32) * (6 : Int32) = Int32.ofNat v1 := a3
  obtain ⟨v4, z4, τ2, d1, d2, d3, d4, d5⟩ := nextm τ1 (n + 1) (by omega) (by omega)
  have d3 : z4 - z4 / (Int32.ofNat n + 1) * (Int32.ofNat n + 1) = Int32.ofNat v4 := by rw [i32_succ]; exact d3
  have nz2 : nz (Int32.ofNat n + 1) = true := nz_iff.mpr (fun z => by rw [i32_succ] at z; have := (ofNat_z0 (by omega)).mp z; omega)
  rw [a2, bnd_some, a3, stp, d2, bnd_some, nz2, gd_true, d3, stp]
  have e2 : τ2.2 = τ.2 := d4.trans a4
  have hf2' : FR (fun b => b ≠ 0) τ τ2 := a5.trans d5
  have hf2 : FR (fun b => b ≠ 0 ∧ b ≠ 45) τ τ2 := hf2'.weak (fun b hb => hb.1)
  have h2 : In τ2.2 (f, n, hd, c, cu, ma, lf, ml) T := by rw [e2]; exact h
  have hl2 : Ln τ2 (f, n, hd, c, cu, ma, lf, ml) := fun k hk => by rw [hf2' 45 (by decide)]; exact hl k hk
  have hv4 : v4 ≤ n := by omega
  have ew : ∀ k : Nat, k < 9 → (Int32.ofNat v1 = Int32.ofNat k ↔ v1 = k) := fun k hk => ofNat_eq (by omega) (by omega)
  have w0 : Int32.ofNat v1 = (0 : Int32) ↔ v1 = 0 := ew 0 (by omega)
  have w1 : Int32.ofNat v1 = (1 : Int32) ↔ v1 = 1 := ew 1 (by omega)
  have w2 : Int32.ofNat v1 = (2 : Int32) ↔ v1 = 2 := ew 2 (by omega)
  have w3 : Int32.ofNat v1 = (3 : Int32) ↔ v1 = 3 := ew 3 (by omega)
  have w4 : Int32.ofNat v1 = (4 : Int32) ↔ v1 = 4 := ew 4 (by omega)
  simp only [w0, w1, w2, w3, w4]
  by_cases q0 : v1 = 0
  · rw [if_pos q0]
    obtain ⟨σ', h', k1, k2, k3⟩ := q_setCursor h2 hv4
    have o := k2.ob
    rw [dn_14, k1, hdl_inl, bnd_some, if_neg (fun w => by have w : Int32.ofNat c < Int32.ofNat 1 := w; have := (i32n_lt (by omega) (by omega)).mp w; omega), ob_c2 (show OB (τ2.1, σ').2 _ from o), nox_inl, bnd_some, if_pos (show Int32.ofNat 1 = (1 : Int32) from rfl)]
    have o0 := ob_cursor o (k := 0) (by omega)
    have o0 : f11_cursorAt σ' 0 = _ := o0
    rw [o0, nox_inl, bnd_some, if_pos rfl]
    exact (Mov.mk k2 k3 hl2).of e2 hf2
  rw [if_neg q0]
  by_cases q1 : v1 = 1
  · rw [if_pos q1, ob_c2 h2.ob, nox_inl, bnd_some, stp, dn_15]
    rcases q_addCursor h2 hv4 with ⟨σ', h', q, d, k1, k2, k3, k4, k5⟩ | ⟨k1, k2⟩
    · have k1 : f11_addCursor (τ2.1, τ2.2).2 (Int32.ofNat v4) = _ := k1
      rw [k1, hdl_inl, bnd_some, stp, if_neg (fun w => by
        have := i32_lt0 (a := q) (by omega)
        have w : Int32.ofNat q = -1000003 := w
        rw [w] at this
        exact this (by decide)), ob_c2 (show OB ((τ2.1, τ2.2).1, σ').2 _ from k4.ob), nox_inl, bnd_some, if_pos rfl, if_neg (fun w => by have := (i32n_lt (by omega) (by omega)).mp w; omega), i32_succ, if_neg (fun w => by have := (i32n_lt (by omega) (by omega)).mp w; omega)]
      exact (Mov.mk k4 k5 hl2).of e2 hf2
    · have k2 : f11_addCursor (τ2.1, τ2.2).2 (Int32.ofNat v4) = _ := k2
      rw [k2, hdl_inr (v := -1000003) rfl, bnd_some, stp, if_pos rfl, if_pos (show Int32.ofNat c = 8 by rw [k1]; rfl)]
      exact (Mov.mk h2 Sm.rf hl2).of e2 hf2
  rw [if_neg q1]
  by_cases q2 : v1 = 2
  · rw [if_pos q2]
    obtain ⟨v5, z5, τ3, b1, b2, b3, b4, b5⟩ := nextm τ2 5 (by decide) (by decide)
    have b3 : z5 - z5 / (5 : Int32) * (5 : Int32) = Int32.ofNat v5 := b3
    obtain ⟨v6, τ4, i1, i2, i4, i5⟩ := from_ok τ3 (lo := -4) (hi := 4) 9 (by decide) (by decide) (by decide)
    have e4 : τ4.2 = τ.2 := i4.trans (b4.trans e2)
    have h4 : In τ4.2 (f, n, hd, c, cu, ma, lf, ml) T := by rw [e4]; exact h
    have hr4 : fI τ4.2 1992 5 = 0 := by rw [e4]; exact hr
    have hf4' : FR (fun b => b ≠ 0) τ τ4 := hf2'.trans (b5.trans i5)
    have hl4 : Ln τ4 (f, n, hd, c, cu, ma, lf, ml) := fun k hk => by rw [hf4' 45 (by decide)]; exact hl k hk
    obtain ⟨σ', h', q, d, k1, k2, k3⟩ := q_moveCursors h4 hr4 (y := Int32.ofNat v5) (x := -4 + Int32.ofNat v6) (in_p (p := v5) (n := 4) (by omega) (by omega)) (by
      have : ∀ v : Nat, v < 9 → -50 ≤ -4 + Int32.ofNat v ∧ -4 + Int32.ofNat v ≤ 50 := by decide
      exact this v6 i1)
    rw [b2, bnd_some, i2, bnd_some, b3, dn_16, k1, hdl_inl, bnd_some, ob_c2 (show OB (τ4.1, σ').2 _ from k2.ob), nox_inl, bnd_some, if_pos rfl]
    exact (Mov.mk k2 k3 hl4).of e4 (hf4'.weak (fun b hb => hb.1))
  rw [if_neg q2]
  by_cases q3 : v1 = 3
  · rw [if_pos q3]
    obtain ⟨v5, z5, τ3, b1, b2, b3, b4, b5⟩ := nextm τ2 16 (by decide) (by decide)
    have b3 : z5 - z5 / (16 : Int32) * (16 : Int32) = Int32.ofNat v5 := b3
    obtain ⟨v6, τ4, i1, i2, i4, i5⟩ := next_ok τ3
    have e4 : τ4.2 = τ.2 := i4.trans (b4.trans e2)
    have h4 : In τ4.2 (f, n, hd, c, cu, ma, lf, ml) T := by rw [e4]; exact h
    have hf4' : FR (fun b => b ≠ 0) τ τ4 := hf2'.trans (b5.trans i5)
    have hl4 : Ln τ4 (f, n, hd, c, cu, ma, lf, ml) := fun k hk => by rw [hf4' 45 (by decide)]; exact hl k hk
    rw [b2, bnd_some, b3, stp, i2, bnd_some]
    split
    · exact (mark_ok h4 hl4 hv4 b1 (Or.inr rfl)).of e4 (hf4'.weak (fun b hb => hb.1))
    · exact (mark_ok h4 hl4 hv4 b1 (Or.inl rfl)).of e4 (hf4'.weak (fun b hb => hb.1))
  rw [if_neg q3]
  obtain ⟨v5, z5, τ3, b1, b2, b3, b4, b5⟩ := nextm τ2 (ends f n + 1) (by omega) (by omega)
  obtain ⟨v6, z6, τ4, i1, i2, i3, i4, i5⟩ := nextm τ3 (ends f n + 1) (by omega) (by omega)
  have nz1 : nz (Int32.ofNat (ends f n + 1)) = true := nz_iff.mpr (fun z => by have := (ofNat_z0 (by omega)).mp z; omega)
  have e4 : τ4.2 = τ.2 := i4.trans (b4.trans e2)
  have h4 : In τ4.2 (f, n, hd, c, cu, ma, lf, ml) T := by rw [e4]; exact h
  have hf4' : FR (fun b => b ≠ 0) τ τ4 := hf2'.trans (b5.trans i5)
  have hl4 : Ln τ4 (f, n, hd, c, cu, ma, lf, ml) := fun k hk => by rw [hf4' 45 (by decide)]; exact hl k hk
  rw [b2, bnd_some, nz1, gd_true, b3, stp, i2, bnd_some, gd_true, i3, stp, ob_c4 h4.ob, nox_inl, bnd_some, stp]
  by_cases q4 : v1 = 4
  · rw [if_pos q4]
    exact (fold_ok h4 hl4 (by omega) (by omega)).of e4 (hf4'.weak (fun b hb => hb.1))
  · rw [if_neg q4, ob_hidden h4.ob (by omega), nox_inl, bnd_some, stp]
    exact (unfold_ok h4 hl4 (by omega)).of e4 (hf4'.weak (fun b hb => hb.1))
end MV
