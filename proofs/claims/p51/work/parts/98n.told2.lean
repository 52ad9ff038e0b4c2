/-! more calls told in full -/
section T
variable {σ : Sto} {D : Doc} {f : Nat → Int32} {n c : Nat} {hd : Nat → Int32} {cu : Nat → Nat} {ma lf ml : Nat → Int32} {T : Hst}
theorem In.spare {σ' : Sto} (h : In σ D T) (hs : Sm (fun a => a < 2005 ∨ a = 2015 ∨ a = 2016) σ σ') (hr : fR σ' = fR σ) : In σ' D T := by
  obtain ⟨μ, L, B, H, h⟩ := h
  exact ⟨μ, L, B, H, h.spare hs hr⟩
/-- the cursors moved: where each goes -/
theorem q_moveAll (h : In σ (f, n, hd, c, cu, ma, lf, ml) T) {y x : Int32} (hy : 0 ≤ y ∧ y ≤ 4) (hx : -50 ≤ x ∧ x ≤ 50) : ∃ (σ' : Sto) (h' : Nat → Int32) (q : Nat) (d gg : Nat → Nat) (t : Nat), f11_moveAll σ y x = some σ' ∧ In σ' (f, n, h', q, d, ma, lf, ml) T ∧ Sm nsh σ σ' ∧ isCu c (fun i => gg (cu i)) q d ∧ isOps hd (ends f n + 1) (fun i => ends f (d i)) q h' ∧ fI σ 0 10 = Int32.ofNat t ∧ (∀ p, p ≤ n → gg p ≤ n) ∧ ∀ p, p ≤ n → ∀ μ, FM μ f n hd t → f12_movedCursor μ (Int32.ofNat p) y x = some (Int32.ofNat (gg p)) := by
  have g := h.gd
  obtain ⟨t, t4, t5, t6⟩ := h.ob.2.2
  obtain ⟨L, B, H, s, w⟩ := h.sc
  have hw := w.cells
  obtain ⟨m, hm⟩ := mvN.ex hx.1 hx.2
  have hall : ∀ p : Nat, ∃ q, p ≤ n → q ≤ n ∧ (∀ σ, FC σ L B H f n hd t → f11_movedPlace σ (Int32.ofNat p) y x = some (Int32.ofNat q)) ∧ ∀ μ, FM μ f n hd t → f12_movedCursor μ (Int32.ofNat p) y x = some (Int32.ofNat q) := by
    intro p
    by_cases hp : p ≤ n
    · obtain ⟨q, q1, q2⟩ := moved (L := L) (B := B) (H := H) (hd := hd) g.1 g.2.1 t4 t5 hp hy hm
      exact ⟨q, fun _ => ⟨q1, q2⟩⟩
    · exact ⟨0, fun z => absurd z hp⟩
  obtain ⟨gg, hgg⟩ := Classical.axiomOfChoice hall
  have hcu := g.2.2.2.2.2.2.2.1
  have hc := g.2.2.2.2.2.1
  obtain ⟨r, r1, r2⟩ := c11_moveLoop s hw t6 hc.2 hcu (g := gg) (fun p hp => (hgg p hp).2.1)
  have hgn : ∀ i, i < c → gg (cu i) ≤ n := fun i hi => (hgg _ (hcu i hi)).1
  obtain ⟨σ1, q', d, h', v1, v2, v3, v4, v5, v6⟩ := c8_settleS r2 hw hc hgn
  have hdn : ∀ i, i < q' → d i ≤ n := fun i hi => by
    obtain ⟨j, hj, e⟩ := (v2.2.2.2 (d i)).mp ⟨i, hi, rfl⟩
    rw [← e]
    exact hgn j hj
  have hq8 : q' ≤ 8 := by have := v2.2.1; omega
  have hsm : Sm nsh σ σ1 := Sm.trans (Sm.rA (fun b hb => nsh_ne hb (by omega))) v5
  refine ⟨σ1, h', q', d, gg, t, ?_, h.sheet hsm ?_ v4 ?_, hsm, v2, v3, t6, fun p hp => (hgg p hp).1, fun p hp => (hgg p hp).2.2⟩
  · rw [f11_moveAll, stp, f11_moveAll_j2, r1, bnd_some, v1, bnd_some]
  · refine g.opened (fun k hk => isOps.or v3 k (by omega)) ⟨v2.1, hq8⟩ v2.2.2.1 hdn (fun i hi => ?_)
    exact isOps.at v3 (fun i hi => by have := ends_mono (f := f) (hdn i hi); show ends f (d i) < _; omega) i hi
  · unfold SW
    rw [v6]
    exact w
theorem q_moveCursors (h : In σ (f, n, hd, c, cu, ma, lf, ml) T) (hr : fI σ 1992 5 = 0) {y x : Int32} (hy : 0 ≤ y ∧ y ≤ 4) (hx : -50 ≤ x ∧ x ≤ 50) : ∃ σ' h' q d, f11_moveCursors σ y x = some (.inl (Int32.ofNat q, σ')) ∧ In σ' (f, n, h', q, d, ma, lf, ml) T ∧ Sm nsh σ σ' := by
  obtain ⟨σ', h', q, d, gg, t, k1, k2, k3, -⟩ := q_moveAll h hy hx
  obtain ⟨L, B, H, s, w⟩ := k2.sc
  refine ⟨σ', h', q, d, ?_, k2, k3⟩
  have hr2 : fI σ' 1992 5 = 0 := by rw [(k3 1992 (by unfold nsh; omega)).1]; exact hr
  unfold f11_moveCursors
  rw [if_neg (by grind), if_neg (by grind), if_neg (by grind), if_pos hx.2, k1, bnd_some, add_off hr2, bnd_some, s.2.2.1.1]
/-- a group is opened or closed -/
theorem q_group (h : In σ D T) {x : Int32} (hx : x = 0 ∨ x = 1) : ∃ σ', f11_group σ x = some (fI σ 24 3, σ') ∧ (fI σ 24 3 = 0 ∨ fI σ 24 3 = 1) ∧ In σ' D T ∧ Sm (fun a => a ≠ 24) σ σ' ∧ fI σ' 24 3 = x ∧ fI σ' 24 4 = 0 := by
  obtain ⟨μ, L, B, H, h0⟩ := id h
  obtain ⟨g, s, m, w, t1, t2, t3, t4, t5, t6, t7, t8⟩ := h0
  obtain ⟨q1, q2, q3, q4⟩ := t7
  have hB : isB x = true := isB_iff.mpr hx
  have hB2 : isB (fI σ 24 3) = true := isB_iff.mpr q1
  have hs : Sm (fun a => a ≠ 24) σ (uI (uI (uI σ 24 3 0) 24 4 0) 24 3 x) := Sm.trans (Sm.uI (by omega)) (Sm.trans (Sm.uI (by omega)) (Sm.uI (by omega)))
  refine ⟨uI (uI (uI σ 24 3 0) 24 4 0) 24 3 x, ?_, q1, ⟨uI (uI (uI μ 2017 34 0) 2017 33 (-1)) 2017 34 x, L, B, H, g, s.congr rfl rfl rfl rfl rfl rfl rfl rfl, m.congr rfl rfl rfl rfl rfl rfl rfl, w, t1, t2, t3, t4, t5.congr (hs.weak (by omega)) rfl rfl, t6.congr (hs.weak (by omega)) rfl rfl (fun _ _ _ => rfl), ⟨hx, rfl, rfl, fun z => absurd rfl z⟩, t8.congr (Sm.trans (Sm.uI (by omega)) (Sm.trans (Sm.uI (by omega)) (Sm.uI (by omega)))) rfl rfl rfl rfl (fun _ _ _ => rfl)⟩, hs, ?_, ?_⟩
  · unfold f11_group f4_closeGroup
    simp only [stp, bnd_some, hB, hB2, gd_true]
  · rw [fI_uI, if_pos rfl, if_pos rfl]
  · rw [fI_uI, if_pos rfl, if_neg (by decide), fI_uI, if_pos rfl, if_pos rfl]
/-- recording begins, ends -/
theorem q_record (h : In σ D T) {x : Int32} (hx : x = 0 ∨ x = 1) : ∃ σ', f11_record σ x = some (fI σ 1992 4, σ') ∧ In σ' D T ∧ Sm (fun a => a ≠ 1992) σ σ' ∧ fI σ' 1992 5 = x ∧ fI σ' 1992 4 = (if x = 0 then fI σ 1992 4 else 0) := by
  obtain ⟨μ, L, B, H, h0⟩ := id h
  obtain ⟨g, s, m, w, t1, t2, t3, t4, t5, t6, t7, t8⟩ := h0
  obtain ⟨sn, q1, q2, q3, q4, q5, q6⟩ := t6
  have hB : isB x = true := isB_iff.mpr hx
  unfold f11_record f11_record_j20
  rcases hx with rfl | rfl
  · have hs : Sm (fun a => a ≠ 1992) σ (uI σ 1992 5 0) := Sm.uI (by omega)
    refine ⟨uI σ 1992 5 0, rfl, ⟨uI μ 2017 51 0, L, B, H, g, s.congr rfl rfl rfl rfl rfl rfl rfl rfl, m.congr rfl rfl rfl rfl rfl rfl rfl, w, t1, t2, t3, t4, t5.congr (hs.weak (by omega)) rfl rfl, ⟨sn, q1, q2, q3, rfl, Or.inl rfl, q6⟩, t7, t8.congr (Sm.uI (by omega)) rfl rfl rfl rfl (fun _ _ _ => rfl)⟩, hs, rfl, rfl⟩
  · have hs : Sm (fun a => a ≠ 1992) σ (uI (uI σ 1992 4 0) 1992 5 1) := Sm.trans (Sm.uI (by omega)) (Sm.uI (by omega))
    refine ⟨uI (uI σ 1992 4 0) 1992 5 1, rfl, ⟨uI (uI μ 2017 50 0) 2017 51 1, L, B, H, g, s.congr rfl rfl rfl rfl rfl rfl rfl rfl, m.congr rfl rfl rfl rfl rfl rfl rfl, w, t1, t2, t3, t4, t5.congr (hs.weak (by omega)) rfl rfl, ⟨0, by omega, rfl, rfl, rfl, Or.inr rfl, fun k hk => by omega⟩, t7, t8.congr (Sm.trans (Sm.uI (by omega)) (Sm.uI (by omega))) rfl rfl rfl rfl (fun _ _ _ => rfl)⟩, hs, rfl, rfl⟩
/-- the pattern is set -/
theorem q_setPattern (h : In σ (f, n, hd, c, cu, ma, lf, ml) T) {m : Nat} (h8 : fI σ 8 1 = Int32.ofNat m) (hm : 1 ≤ m ∧ m ≤ 40) {x : Int32} (hx : x = 0 ∨ x = 1) : ∃ σ', f11_setPattern σ x = some (.inl (Int32.ofNat (cB (fdB f n (aI σ 9) m x) n), σ')) ∧ In σ' (f, n, hd, c, cu, ma, lf, ml) T ∧ Sm (fun a => a ≠ 1989 ∧ a ≠ 1990 ∧ a ≠ 1991) σ σ' ∧ fI σ' 1990 1 = Int32.ofNat m ∧ fI σ' 1989 1 = x ∧ ∀ k, k < m → aI σ' 1991 k = aI σ 9 k := by
  obtain ⟨μ, L, B, H, h0⟩ := id h
  have hC : CT σ 1 L B f n := h0.2.1.1
  obtain ⟨tn, q0, q1, q2, q3⟩ := h0.2.2.2.2.1
  have etm : tn = m := by
    rw [h8] at q1
    exact ((ofNat_eq (by omega) (by omega)).mp q1).symm
  subst etm
  have hw := h0.2.2.2.1.cells
  have hB : isB x = true := isB_iff.mpr hx
  have e2 : Int32.ofNat tn ≤ 40 ↔ tn ≤ 40 := i32_le (b := 40) (by omega) (by omega)
  have e0 : ¬ Int32.ofNat tn = 0 := fun z => by have := (ofNat_z0 (by omega)).mp z; omega
  have hbc : f6_become σ 1990 9 0 (Int32.ofNat tn) = _ := c6_become (s := 0) (m := tn) rfl rfl (by omega) (by omega) (by show 0 + tn ≤ 200; omega) (by show tn ≤ 40; omega) (fun i hi => by
    rw [Nat.zero_add, (q3 i hi).1]
    have := isLt_in (q3 i hi).2
    grind)
  have hC2 : CT (uI (uI (rA σ (1990 + 1) (va_cpy (aI σ 9) (aI σ (1990 + 1)) 0 0 tn)) 1990 1 (Int32.ofNat tn)) 1989 1 x) 1 L B f n := hC.congr rfl rfl (aI_rA' (by omega)) (aI_rA' (by omega))
  have hcp : ∀ k, k < tn → va_cpy (aI σ 9) (aI σ (1990 + 1)) 0 0 tn k = aI σ 9 k := fun k hk => by
    rw [cpy_at hk, Nat.zero_add]
  have f0 : ∀ P : Nat → Prop, (∀ b, P b → b ≠ 1989 ∧ b ≠ 1990 ∧ b ≠ 1991) → Sm P σ (uI (uI (rA σ (1990 + 1) (va_cpy (aI σ 9) (aI σ (1990 + 1)) 0 0 tn)) 1990 1 (Int32.ofNat tn)) 1989 1 x) := fun P hP => Sm.trans (Sm.rA (fun b hb => (hP b hb).2.2)) (Sm.trans (Sm.uI (fun b hb => (hP b hb).2.1)) (Sm.uI (fun b hb => (hP b hb).1)))
  refine ⟨uI (uI (rA σ (1990 + 1) (va_cpy (aI σ 9) (aI σ (1990 + 1)) 0 0 tn)) 1990 1 (Int32.ofNat tn)) 1989 1 x, ?_, ⟨rA (uI (uI μ 2017 19 x) 2017 15 (Int32.ofNat tn)) 2025 (aI σ 9), L, B, H, ?_⟩, f0 _ (fun b hb => hb), rfl, rfl, hcp⟩
  · unfold f11_setPattern f11_setPattern_j22
    rw [h8, if_neg e0, if_pos (e2.mpr hm.2), hbc, bnd_some, hB, gd_true, stp, c7_countFinds (pn := tn) (w := x) (pt := aI σ 9) hC2 rfl rfl hcp hm.2 hm.1, bnd_some]
  · obtain ⟨g, s, m, w, t1, t2, t3, t4, t5, t6, t7, t8⟩ := h0
    exact ⟨g, s.congr rfl rfl (aI_rA' (by omega)) (aI_rA' (by omega)) (aI_rA' (by omega)) rfl rfl rfl, m.congr rfl rfl rfl rfl rfl rfl rfl, w, t1, t2, ⟨rfl, hx, tn, hm.2, rfl, rfl, hcp⟩, t4, t5.congr (f0 _ (by omega)) rfl rfl, t6.congr (f0 _ (by omega)) rfl rfl (fun a a1 a2 => aI_rA' (by omega)), t7, t8.congr (f0 _ (by omega)) rfl rfl rfl rfl (fun a a1 a2 => aI_rA' (by omega))⟩
theorem q_find (h : In σ (f, n, hd, c, cu, ma, lf, ml) T) {m : Nat} (h1 : fI σ 1990 1 = Int32.ofNat m) (hm : 1 ≤ m ∧ m ≤ 40) {a : Nat} (ha : a ≤ n) {y : Int32} : ∃ r, f11_find σ (Int32.ofNat a) y = some (.inl (r, σ)) ∧ (y = 0 → isBf (fdB f n (aI σ 1991) m (fI σ 1989 1)) a r) ∧ (y ≠ 0 → isNx (fdB f n (aI σ 1991) m (fI σ 1989 1)) n a r) := by
  have g := h.gd
  have hn := g.1
  obtain ⟨L, B, H, s, w⟩ := h.sc
  have hC := s.1
  unfold f11_find f11_find_j56
  rw [c11_requirePlace hC, if_pos (in_p ha (by omega)), bndX_inl, c7_isSet h1 hm.2, bnd_some, ite_tz, if_pos (decide_eq_true hm.1)]
  by_cases hy : y = 0
  · rw [if_pos hy]
    obtain ⟨r, r1, r2⟩ := c7_before (w := fI σ 1989 1) (pt := aI σ 1991) hC h1 rfl (fun _ _ => rfl) hm.2 rfl ha
    rw [r1, bnd_some]
    exact ⟨r, rfl, fun _ => r2, fun z => absurd hy z⟩
  · rw [if_neg hy]
    obtain ⟨r, r1, r2⟩ := c7_next (w := fI σ 1989 1) (pt := aI σ 1991) hC h1 rfl (fun _ _ => rfl) hm.2 hm.1 rfl ha
    rw [r1, bnd_some]
    exact ⟨r, rfl, fun z => absurd z hy, fun _ => r2⟩
/-- a block is copied -/
theorem q_copyBlock (h : In σ (f, n, hd, c, cu, ma, lf, ml) T) {a m fi w : Nat} (hm : 1 ≤ m ∧ a + m ≤ ends f n + 1) (hfi : fi ≤ 200) (hw : 1 ≤ w ∧ w ≤ 40) : ∃ v σ', v < 2147483648 ∧ f11_copyBlock σ (Int32.ofNat a) (Int32.ofNat m) (Int32.ofNat fi) (Int32.ofNat w) = some (.inl (Int32.ofNat v, σ')) ∧ In σ' (f, n, hd, c, cu, ma, lf, ml) T ∧ Sm (fun b => b ≠ 10 ∧ b ≠ 11 ∧ b ≠ 12) σ σ' := by
  obtain ⟨μ, L, B, H, h0⟩ := id h
  have hC : CT σ 1 L B f n := h0.2.1.1
  have hlt : ∀ k, k < n → isLt (f k) = true := h0.1.2.2.1
  have hE := hC.2.1
  have w0 := h0.2.2.2.1.cells
  have hL : L ≠ 12 ∧ B ≠ 12 ∧ H ≠ 12 := by omega
  obtain ⟨bf, ef, hbe⟩ := lines_fn f n
  obtain ⟨r, r1, r2⟩ := c2_takeBlock hC hlt ⟨hL.1, hL.2.1⟩ hbe (a := a) (m := m) (fi := fi) (w := w) rfl rfl rfl rfl hm.2 hfi hw.1 hw.2
  have hwm : w * m ≤ 12000 := by
    have := Nat.mul_le_mul hw.2 (show m ≤ 300 by omega)
    omega
  have e1 : Int32.ofNat m * Int32.ofNat w = Int32.ofNat (w * m) := by rw [← Int32.ofNat_mul, Nat.mul_comm]
  have hle := bkN_le (B := bf) (E := ef) (line := a) (first := fi) (w := w) (w * m)
  have hs : Sm (fun b => b ≠ 10 ∧ b ≠ 11 ∧ b ≠ 12) σ (uI (uI (uI (uI (rA σ 12 r) 11 1 (Int32.ofNat (w * m))) 10 1 1) 10 2 (Int32.ofNat m)) 10 3 (Int32.ofNat w)) := Sm.trans (Sm.rA (by omega)) (Sm.trans (Sm.uI (by omega)) (Sm.trans (Sm.uI (by omega)) (Sm.trans (Sm.uI (by omega)) (Sm.uI (by omega)))))
  refine ⟨bkN bf ef a fi w (w * m), _, by omega, ?_, ⟨rA (uI (uI (uI μ 2017 12 (Int32.ofNat (w * m))) 2017 13 (Int32.ofNat m)) 2017 14 (Int32.ofNat w)) 2024 r, L, B, H, ?_⟩, hs⟩
  · unfold f11_copyBlock f11_copyBlock_j57
    rw [c11_requireLine hC, if_pos (in_p (p := a) (by omega) (by omega)), bndX_inl, hC.2.2.2.1, i32_sub (by omega), if_pos ((i32_le (by omega) (by omega)).mpr (by omega)), if_neg (by grind), if_neg (by grind), if_neg (by grind), if_neg (by grind), if_pos (by grind), r1, bnd_some]
  · obtain ⟨g, s, mm, w0, t1, t2, t3, t4, t5, t6, t7, t8⟩ := h0
    refine ⟨g, s.congr rfl rfl (aI_rA' hL.1) (aI_rA' hL.2.1) (aI_rA' hL.2.2) rfl rfl rfl, mm.congr rfl rfl rfl rfl rfl rfl rfl, w0, t1, ⟨w * m, hwm, rfl, rfl, fun k hk => ?_, Or.inr ⟨rfl, m, w, hm.1, by omega, hw.1, hw.2, Nat.mul_comm _ _, rfl, rfl, rfl, rfl⟩⟩, t3, t4, t5.congr (hs.weak (by omega)) rfl rfl, t6.congr (hs.weak (by omega)) rfl rfl (fun a a1 a2 => aI_rA' (σ := μ) (by omega)), t7, t8.congr (hs.weak (by omega)) rfl rfl rfl rfl (fun a a1 a2 => aI_rA' (σ := μ) (by omega))⟩
    show r k = r k ∧ isLt (r k) = true
    refine ⟨rfl, ?_⟩
    rw [r2 k hk]
    unfold bkL
    by_cases hb : bkR bf ef a fi w k = true
    · rw [if_pos hb]
      have hb2 := of_decide_eq_true hb
      have hkm : k / w < m := (Nat.div_lt_iff_lt_mul (by omega)).mpr (by rw [Nat.mul_comm]; exact hk)
      have he := (hbe (a + k / w) (by omega)).2.1.1
      exact hlt _ (by omega)
    · rw [if_neg hb]
      rfl
end T
