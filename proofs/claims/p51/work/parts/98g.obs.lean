/-! what is seen of a room -/
/-- the room's document; the tab's width -/
def OB (σ : Sto) (D : Doc) : Prop := GD D ∧ (∃ L B H, SC σ 1 L B H D) ∧ ∃ t : Nat, 1 ≤ t ∧ t ≤ 8 ∧ fI σ 0 10 = Int32.ofNat t
theorem Rel0.ob {σ μ : Sto} {D : Doc} {L B H : Nat} {T : Hst} (h : Rel0 σ μ D L B H T) : OB σ D := by
  obtain ⟨t, t1, t8, ht, -⟩ := h.2.2.2.2.2.2.2.1.1
  exact ⟨h.1, ⟨L, B, H, h.2.1⟩, t, t1, t8, ht⟩
theorem nox_inl {α β : Type} {a : α} : nox (some (.inl a : α ⊕ β)) = some a := rfl
theorem cw_mn {t : Nat} {f : Nat → Int32} {b : Nat} (ht : 1 ≤ t) {i j : Nat} (h : i < j) : cw t f b i < cw t f b j := by
  have step : ∀ k, cw t f b k < cw t f b (k + 1) := fun k => by
    rw [cw]
    split
    · have h1 := Nat.div_add_mod (cw t f b k) t
      have h2 := Nat.mod_lt (cw t f b k) ht
      rw [Nat.add_mul, Nat.one_mul, Nat.mul_comm (cw t f b k / t) t]
      omega
    · omega
  obtain ⟨d, rfl⟩ : ∃ d, j = i + 1 + d := ⟨j - (i + 1), by omega⟩
  clear h
  induction d with
  | zero => exact step i
  | succ d ih => exact Nat.lt_trans ih (step (i + 1 + d))
theorem z_le {n : Nat} (h : n < 2147483648) : (0 : Int32) ≤ Int32.ofNat n := by grind
section O
variable {σ : Sto} {f : Nat → Int32} {n c : Nat} {hd : Nat → Int32} {cu : Nat → Nat} {ma lf ml : Nat → Int32}
theorem ob_letter (h : OB σ (f, n, hd, c, cu, ma, lf, ml)) {k : Nat} (hk : k < n) : f11_letterAt σ (Int32.ofNat k) = some (.inl (f k, σ)) := by
  obtain ⟨g, ⟨L, B, H, hC, -⟩, -⟩ := h
  obtain ⟨hn, -, h3, -, ⟨h5, h6, h7⟩, -, hL, -⟩ := hC
  unfold f11_letterAt f11_letterAt_j15
  rw [h3, h5]
  apply Ok_eq
  simp only [Ok_stp, Ok_bnd, Ok_bndX, Ok_some, Ok_none, Ok_ite, Ok_gd, inb_iff, isB_iff, lp_inl, lp_inr, Prod.mk.injEq, Sum.inl.injEq, Sum.inr.injEq, reduceCtorEq, forall_eq', false_imp_iff, imp_self, true_and, and_true, implies_true, forall_const]
  have hc : (Int32.ofNat k).toNatClampNeg = k := ofNat_clamp (by omega)
  simp (disch := omega) only [okr_s, Nat.add_sub_cancel, h6, h7, hc, hL _ hk]
  grind
theorem ob_letterNo (h : OB σ (f, n, hd, c, cu, ma, lf, ml)) : f11_letterAt σ (Int32.ofNat n) = some (.inr (1, σ)) := by
  obtain ⟨g, ⟨L, B, H, hC, -⟩, -⟩ := h
  obtain ⟨hn, -, h3, -⟩ := hC
  unfold f11_letterAt f11_letterAt_j15
  rw [h3]
  grind
theorem ob_line (h : OB σ (f, n, hd, c, cu, ma, lf, ml)) {p : Nat} (hp : p ≤ n) : f11_lineOf σ (Int32.ofNat p) = some (.inl (Int32.ofNat (ends f p), σ)) := by
  obtain ⟨g, ⟨L, B, H, hC, -⟩, -⟩ := h
  have hn := hC.1
  unfold f11_lineOf
  rw [c11_requirePlace hC, if_pos ⟨(i32_le (a := 0) (by omega) (by omega)).mpr (by omega), (i32_le (by omega) (by omega)).mpr hp⟩, bndX_inl, c8_lineWith hC rfl hp, bnd_some]
theorem ob_lineNo (h : OB σ (f, n, hd, c, cu, ma, lf, ml)) {x : Int32} (hx : x = Int32.ofNat n + 1) : f11_lineOf σ x = some (.inr (1, σ)) := by
  obtain ⟨g, ⟨L, B, H, hC, -⟩, -⟩ := h
  have hn := hC.1
  unfold f11_lineOf
  rw [c11_requirePlace hC, if_neg (by grind), bndX_inr]
theorem ob_column (h : OB σ (f, n, hd, c, cu, ma, lf, ml)) {p : Nat} (hp : p ≤ n) : ∃ v : Nat, v < 2147483648 ∧ f11_columnOf σ (Int32.ofNat p) = some (.inl (Int32.ofNat v, σ)) ∧ f11_placeAt σ (Int32.ofNat (ends f p)) (Int32.ofNat v) = some (.inl (Int32.ofNat p, σ)) := by
  obtain ⟨g, ⟨L, B, H, hC, -⟩, t, t1, t8, ht⟩ := h
  have hn := hC.1
  have hE := hC.2.1
  have hpe := ends_mono (f := f) hp
  obtain ⟨b, hb0, hb⟩ := isBg.ex (ends_mono (f := f) hp)
  have hbp : b ≤ p := hb.le_iff.mpr (Nat.le_refl _)
  obtain ⟨e, he1, he⟩ := isEn.ex hp rfl
  have hw := cw_le (t := t) (f := f) (b := b) t1 t8 (p - b)
  refine ⟨cw t f b (p - b), by omega, ?_, ?_⟩
  · unfold f11_columnOf
    rw [c11_requirePlace hC, if_pos ⟨(i32_le (a := 0) (by omega) (by omega)).mpr (by omega), (i32_le (by omega) (by omega)).mpr hp⟩, bndX_inl, c8_columnWith hC t1 t8 rfl ht hp hb, bnd_some]
  · have hpl : isPl t f b e (cw t f b (p - b)) p := ⟨hbp, he1, Or.inr (Nat.le_refl _), fun i hi => cw_mn t1 (by omega)⟩
    unfold f11_placeAt
    rw [c11_requireLine hC, if_pos ⟨(i32_le (a := 0) (by omega) (by omega)).mpr (by omega), (i32_le (by omega) (by omega)).mpr hpe⟩, bndX_inl, if_pos (z_le (n := cw t f b (p - b)) (by omega)), c8_placeWith hC t1 t8 rfl hpe rfl (by omega) ht hb he hpl, bnd_some]
theorem ob_begin (h : OB σ (f, n, hd, c, cu, ma, lf, ml)) {p : Nat} (hp : p ≤ n) (hb : isBg f (ends f p) p) : f11_placeAt σ (Int32.ofNat (ends f p)) 0 = some (.inl (Int32.ofNat p, σ)) := by
  obtain ⟨g, ⟨L, B, H, hC, -⟩, t, t1, t8, ht⟩ := h
  have hn := hC.1
  have hE := hC.2.1
  have hpe := ends_mono (f := f) hp
  obtain ⟨e, he1, he⟩ := isEn.ex hp rfl
  have hpl : isPl t f p e 0 p := ⟨Nat.le_refl _, he1, Or.inr (Nat.zero_le _), fun i hi => by omega⟩
  unfold f11_placeAt
  rw [c11_requireLine hC, if_pos ⟨(i32_le (a := 0) (by omega) (by omega)).mpr (by omega), (i32_le (by omega) (by omega)).mpr hpe⟩, bndX_inl, if_pos (by decide), c8_placeWith hC t1 t8 (c := 0) (y := 0) rfl hpe rfl (by omega) ht hb he hpl, bnd_some]
theorem ob_cursor (h : OB σ (f, n, hd, c, cu, ma, lf, ml)) {k : Nat} (hk : k < c) : f11_cursorAt σ (Int32.ofNat k) = some (.inl (Int32.ofNat (cu k), σ)) := by
  obtain ⟨g, ⟨L, B, H, hC, -, ⟨hc1, hc2⟩, -⟩, -⟩ := h
  have hG : 1 ≤ c ∧ c ≤ 8 := g.2.2.2.2.2.1
  unfold f11_cursorAt f11_cursorAt_j15
  rw [hc1]
  have hc : (Int32.ofNat k).toNatClampNeg = k := ofNat_clamp (by omega)
  apply Ok_eq
  simp only [Ok_stp, Ok_bnd, Ok_bndX, Ok_some, Ok_none, Ok_ite, Ok_gd, inb_iff, isB_iff, lp_inl, lp_inr, Prod.mk.injEq, Sum.inl.injEq, Sum.inr.injEq, reduceCtorEq, forall_eq', false_imp_iff, imp_self, true_and, and_true, implies_true, forall_const]
  simp only [hc, hc2 _ hk]
  grind
theorem ob_mark (h : OB σ (f, n, hd, c, cu, ma, lf, ml)) {k : Nat} (hk : k < 16) : f11_markAt σ (Int32.ofNat k) = some (.inl (ma k, σ)) := by
  obtain ⟨g, ⟨L, B, H, hC, -, -, hm, -⟩, -⟩ := h
  unfold f11_markAt
  have hi : inb (Int32.ofNat k) 16 = true := inb_n hk (by omega)
  rw [c11_requireMark, if_pos ⟨(i32_le (a := 0) (by omega) (by omega)).mpr (by omega), (i32_le (b := 15) (by omega) (by omega)).mpr (by omega)⟩, bndX_inl, hi, gd_true, ofNat_clamp (by omega), hm k hk]
theorem ob_hidden (h : OB σ (f, n, hd, c, cu, ma, lf, ml)) {j : Nat} (hj : j ≤ ends f n) : f11_isHidden σ (Int32.ofNat j) = some (.inl (hd j, σ)) := by
  obtain ⟨g, ⟨L, B, H, hC, ⟨i1, i2, i3, i4⟩, -⟩, -⟩ := h
  have hE := hC.2.1
  have hz := g.2.2.2.2.1
  have hi2 : inb (Int32.ofNat j) 300 = true := inb_n (by omega) (by omega)
  have hB : isB (hd j) = true := isB_iff.mpr (hz j hj)
  unfold f11_isHidden
  rw [c11_requireLine hC, if_pos ⟨(i32_le (a := 0) (by omega) (by omega)).mpr (by omega), (i32_le (by omega) (by omega)).mpr hj⟩, bndX_inl]
  simp (disch := omega) only [hi2, gd_true, i1, okr_s.mpr i2, Nat.add_sub_cancel, i3, ofNat_clamp, i4 j hj, hB]
theorem ob_c0 (h : OB σ (f, n, hd, c, cu, ma, lf, ml)) : f11_count σ 0 = some (.inl (Int32.ofNat n, σ)) := by
  obtain ⟨g, ⟨L, B, H, hC, -⟩, -⟩ := h
  unfold f11_count
  rw [if_pos (by decide), hC.2.2.1]
theorem ob_c1 (h : OB σ (f, n, hd, c, cu, ma, lf, ml)) : f11_count σ 1 = some (.inl (Int32.ofNat (ends f n + 1), σ)) := by
  obtain ⟨g, ⟨L, B, H, hC, -⟩, -⟩ := h
  unfold f11_count
  rw [if_neg (by decide), if_pos (by decide), hC.2.2.2.1]
theorem ob_c2 (h : OB σ (f, n, hd, c, cu, ma, lf, ml)) : f11_count σ 2 = some (.inl (Int32.ofNat c, σ)) := by
  obtain ⟨g, ⟨L, B, H, hC, -, ⟨hc1, hc2⟩, -⟩, -⟩ := h
  unfold f11_count
  rw [if_neg (by decide), if_neg (by decide), if_pos (by decide), hc1]
theorem ob_c4 (h : OB σ (f, n, hd, c, cu, ma, lf, ml)) : f11_count σ 4 = some (.inl (Int32.ofNat (cn hd (ends f n + 1)), σ)) := by
  obtain ⟨g, ⟨L, B, H, hC, ⟨i1, i2, i3, i4⟩, -⟩, -⟩ := h
  unfold f11_count
  rw [if_neg (by decide), if_neg (by decide), if_neg (by decide), if_neg (by decide), if_pos (by decide), c8_countHidden hC i1 i2 i3 i4, bnd_some]
theorem ob_c5 : f11_count σ 5 = some (.inl (fI σ 8 1, σ)) := by
  unfold f11_count
  rw [if_neg (by decide), if_neg (by decide), if_neg (by decide), if_neg (by decide), if_neg (by decide), if_pos (by decide)]
end O
