/-! what the law sees of a room, and whether it is like what it saw -/
def SR (r : Nat → Int32) : Doc → Prop
  | (f, n, hd, c, cu, ma, _, _) => r 0 = Int32.ofNat n ∧ r 1 = Int32.ofNat c ∧ (∀ k, k < c → r (2 + k) = Int32.ofNat (cu k)) ∧ (∀ k, k < 16 → r (10 + k) = ma k) ∧ r 26 = Int32.ofNat (ends f n + 1) ∧ (∀ j, j ≤ ends f n → r (30 + j) = hd j) ∧ ∀ k, k < n → r (400 + k) = f k
/-- what is seen is the same -/
def VI : Doc → Doc → Prop
  | (f, n, hd, c, cu, ma, _, _), (f', n', hd', c', cu', ma', _, _) => n' = n ∧ (∀ k, k < n → f' k = f k) ∧ (∀ j, j ≤ ends f n → hd' j = hd j) ∧ c' = c ∧ (∀ i, i < c → cu' i = cu i) ∧ ∀ k, k < 16 → ma' k = ma k
theorem VI.rf {D : Doc} : VI D D := by
  obtain ⟨f, n, hd, c, cu, ma, lf, ml⟩ := D
  exact ⟨rfl, fun _ _ => rfl, fun _ _ => rfl, rfl, fun _ _ => rfl, fun _ _ => rfl⟩
section S
variable {τ : LawS} {a1 : Nat} {f : Nat → Int32} {n c : Nat} {hd : Nat → Int32} {cu : Nat → Nat} {ma lf ml : Nat → Int32}
theorem i_35 {k : Nat} (ha : lq a1 = 3500) (h : k < 3500) : inb (Int32.ofNat k) (lq a1) = true := by
  rw [ha]
  exact inb_n h (by omega)
theorem sees_let (ha : lq a1 = 3500) (h : OB τ.2 (f, n, hd, c, cu, ma, lf, ml)) {x : LawS} (hx : x.2 = τ.2) : ∃ x', fL_sees_j113 a1 x (Int32.ofNat n) 0 = some x' ∧ x'.2 = τ.2 ∧ FR (fun b => b ≠ a1) x x' ∧ (∀ j, j < 400 → x'.1 a1 j = x.1 a1 j) ∧ ∀ k, k < n → x'.1 a1 (400 + k) = f k := by
  have hn : n ≤ 3000 := h.1.1
  have key : Ok (loopF (fun s_113 => fL_sees_b113 a1 s_113.1 (Int32.ofNat n) s_113.2) FU (x, 0)) (fun x' => x'.2 = τ.2 ∧ FR (fun b => b ≠ a1) x x' ∧ (∀ j, j < 400 → x'.1 a1 j = x.1 a1 j) ∧ ∀ k, k < n → x'.1 a1 (400 + k) = f k) := by
    refine Ok_count n (fun k z => ∃ x', z = (x', Int32.ofNat k) ∧ x'.2 = τ.2 ∧ FR (fun b => b ≠ a1) x x' ∧ (∀ j, j < 400 → x'.1 a1 j = x.1 a1 j) ∧ ∀ j, j < k → x'.1 a1 (400 + j) = f j) ?_ 0 ⟨x, rfl, hx, FR.rf, fun _ _ => rfl, fun j hj => by omega⟩ (Nat.zero_le _) (by (show _ < FU); unfold FU; omega)
    rintro k z hk ⟨x', rfl, e1, e2, e3, e4⟩
    show Ok (fL_sees_b113 a1 x' (Int32.ofNat n) (Int32.ofNat k)) _
    unfold fL_sees_b113
    by_cases q : n ≤ k
    · rw [if_pos ((i32_le (by omega) (by omega)).mpr q), Ok_some, lp_inr]
      exact ⟨e1, e2, e3, fun j hj => e4 j (by omega)⟩
    · rw [if_neg (fun z => q ((i32_le (by omega) (by omega)).mp z)), e1, ob_letter h (by omega), nox_inl, bnd_some]
      have e5 : (400 : Int32) + Int32.ofNat k = Int32.ofNat (400 + k) := i32_add (p := 400)
      rw [e5, i_35 ha (by omega), gd_true, ofNat_clamp (by omega), stp, stp, i32_succ, Ok_some, lp_inl]
      refine ⟨by omega, _, rfl, rfl, e2.trans (FR.uT (fun b hb => hb)), fun j hj => ?_, fun j hj => ?_⟩
      · show up2 x'.1 a1 (400 + k) (f k) a1 j = _
        rw [up2_at, if_neg (by omega)]
        exact e3 j hj
      · show up2 x'.1 a1 (400 + k) (f k) a1 (400 + j) = _
        rw [up2_at]
        by_cases q2 : j = k
        · rw [if_pos (by omega), q2]
        · rw [if_neg (by omega)]
          exact e4 j (by omega)
  obtain ⟨x', k1, k2⟩ := key
  refine ⟨x', ?_, k2⟩
  unfold fL_sees_j113
  rw [k1, bnd_some]
theorem one_hd {x : Int32} (h : x = 0 ∨ x = 1) : fL_one x = some x := by
  rcases h with rfl | rfl <;> rfl
theorem sees_hid (ha : lq a1 = 3500) (h : OB τ.2 (f, n, hd, c, cu, ma, lf, ml)) {x : LawS} (hx : x.2 = τ.2) {E : Nat} (hE : E = ends f n + 1) : ∃ x', fL_sees_j82 a1 x (Int32.ofNat n) (Int32.ofNat E) 0 = some x' ∧ x'.2 = τ.2 ∧ FR (fun b => b ≠ a1) x x' ∧ (∀ j, j < 30 → x'.1 a1 j = x.1 a1 j) ∧ (∀ j, j ≤ ends f n → x'.1 a1 (30 + j) = hd j) ∧ ∀ k, k < n → x'.1 a1 (400 + k) = f k := by
  have hn : n ≤ 3000 := h.1.1
  have h3 : ends f n < 300 := h.1.2.1
  subst hE
  have key : Ok (loopF (fun s_82 => fL_sees_b82 a1 s_82.1 (Int32.ofNat n) (Int32.ofNat (ends f n + 1)) s_82.2) FU (x, 0)) (fun x' => x'.2 = τ.2 ∧ FR (fun b => b ≠ a1) x x' ∧ (∀ j, j < 30 → x'.1 a1 j = x.1 a1 j) ∧ ∀ j, j ≤ ends f n → x'.1 a1 (30 + j) = hd j) := by
    refine Ok_count (ends f n + 1) (fun k z => ∃ x', z = (x', Int32.ofNat k) ∧ x'.2 = τ.2 ∧ FR (fun b => b ≠ a1) x x' ∧ (∀ j, j < 30 → x'.1 a1 j = x.1 a1 j) ∧ ∀ j, j < k → x'.1 a1 (30 + j) = hd j) ?_ 0 ⟨x, rfl, hx, FR.rf, fun _ _ => rfl, fun j hj => by omega⟩ (Nat.zero_le _) (by (show _ < FU); unfold FU; omega)
    rintro k z hk ⟨x', rfl, e1, e2, e3, e4⟩
    show Ok (fL_sees_b82 a1 x' (Int32.ofNat n) (Int32.ofNat (ends f n + 1)) (Int32.ofNat k)) _
    unfold fL_sees_b82
    by_cases q : ends f n + 1 ≤ k
    · rw [if_pos ((i32_le (by omega) (by omega)).mpr q), Ok_some, lp_inr]
      exact ⟨e1, e2, e3, fun j hj => e4 j (by omega)⟩
    · rw [if_neg (fun z => q ((i32_le (by omega) (by omega)).mp z)), e1, ob_hidden h (by omega), nox_inl, bnd_some, one_hd (h.1.2.2.2.2.1 k (by omega)), bnd_some]
      have e5 : (30 : Int32) + Int32.ofNat k = Int32.ofNat (30 + k) := i32_add (p := 30)
      rw [e5, i_35 ha (by omega), gd_true, ofNat_clamp (by omega), stp, stp, i32_succ, Ok_some, lp_inl]
      refine ⟨by omega, _, rfl, rfl, e2.trans (FR.uT (fun b hb => hb)), fun j hj => ?_, fun j hj => ?_⟩
      · show up2 x'.1 a1 (30 + k) (hd k) a1 j = _
        rw [up2_at, if_neg (by omega)]
        exact e3 j hj
      · show up2 x'.1 a1 (30 + k) (hd k) a1 (30 + j) = _
        rw [up2_at]
        by_cases q2 : j = k
        · rw [if_pos (by omega), q2]
        · rw [if_neg (by omega)]
          exact e4 j (by omega)
  obtain ⟨x', k1, k2, k3, k4, k5⟩ := key
  obtain ⟨x2, m1, m2, m3, m4, m5⟩ := sees_let ha h k2
  refine ⟨x2, ?_, m2, k3.trans m3, fun j hj => by rw [m4 j (by omega), k4 j hj], fun j hj => by rw [m4 _ (by omega), k5 j hj], m5⟩
  unfold fL_sees_j82
  rw [k1, bnd_some, stp, m1]
theorem sees_mark (ha : lq a1 = 3500) (h : OB τ.2 (f, n, hd, c, cu, ma, lf, ml)) {x : LawS} (hx : x.2 = τ.2) : ∃ x', fL_sees_j45 a1 x (Int32.ofNat n) 0 = some x' ∧ x'.2 = τ.2 ∧ FR (fun b => b ≠ a1) x x' ∧ (∀ j, j < 10 → x'.1 a1 j = x.1 a1 j) ∧ (∀ k, k < 16 → x'.1 a1 (10 + k) = ma k) ∧ x'.1 a1 26 = Int32.ofNat (ends f n + 1) ∧ (∀ j, j ≤ ends f n → x'.1 a1 (30 + j) = hd j) ∧ ∀ k, k < n → x'.1 a1 (400 + k) = f k := by
  have hn : n ≤ 3000 := h.1.1
  have key : Ok (loopF (fun s_45 => fL_sees_b45 a1 s_45.1 (Int32.ofNat n) s_45.2) FU (x, 0)) (fun x' => x'.2 = τ.2 ∧ FR (fun b => b ≠ a1) x x' ∧ (∀ j, j < 10 → x'.1 a1 j = x.1 a1 j) ∧ ∀ k, k < 16 → x'.1 a1 (10 + k) = ma k) := by
    refine Ok_count 16 (fun k z => ∃ x', z = (x', Int32.ofNat k) ∧ x'.2 = τ.2 ∧ FR (fun b => b ≠ a1) x x' ∧ (∀ j, j < 10 → x'.1 a1 j = x.1 a1 j) ∧ ∀ j, j < k → x'.1 a1 (10 + j) = ma j) ?_ 0 ⟨x, rfl, hx, FR.rf, fun _ _ => rfl, fun j hj => by omega⟩ (Nat.zero_le _) (by (show _ < FU); unfold FU; omega)
    rintro k z hk ⟨x', rfl, e1, e2, e3, e4⟩
    show Ok (fL_sees_b45 a1 x' (Int32.ofNat n) (Int32.ofNat k)) _
    unfold fL_sees_b45
    have e16 : (16 : Int32) ≤ Int32.ofNat k ↔ 16 ≤ k := i32_le (a := 16) (by omega) (by omega)
    simp only [e16]
    by_cases q : 16 ≤ k
    · rw [if_pos q, Ok_some, lp_inr]
      exact ⟨e1, e2, e3, fun j hj => e4 j (by omega)⟩
    · rw [if_neg q, e1, ob_mark h (by omega), nox_inl, bnd_some]
      have e5 : (10 : Int32) + Int32.ofNat k = Int32.ofNat (10 + k) := i32_add (p := 10)
      rw [e5, i_35 ha (by omega), gd_true, ofNat_clamp (by omega), stp, stp, i32_succ, Ok_some, lp_inl]
      refine ⟨by omega, _, rfl, rfl, e2.trans (FR.uT (fun b hb => hb)), fun j hj => ?_, fun j hj => ?_⟩
      · show up2 x'.1 a1 (10 + k) (ma k) a1 j = _
        rw [up2_at, if_neg (by omega)]
        exact e3 j hj
      · show up2 x'.1 a1 (10 + k) (ma k) a1 (10 + j) = _
        rw [up2_at]
        by_cases q2 : j = k
        · rw [if_pos (by omega), q2]
        · rw [if_neg (by omega)]
          exact e4 j (by omega)
  obtain ⟨x', k1, k2, k3, k4, k5⟩ := key
  have e26 : inb (26 : Int32) (lq a1) = true := i_35 (k := 26) ha (by omega)
  have c26 : (26 : Int32).toNatClampNeg = 26 := by decide
  obtain ⟨x2, m1, m2, m3, m4, m5, m6⟩ := sees_hid ha h (x := uT x' a1 26 (Int32.ofNat (ends f n + 1))) k2 rfl
  refine ⟨x2, ?_, m2, k3.trans (FR.trans (FR.uT (fun b hb => hb)) m3), fun j hj => ?_, fun j hj => ?_, ?_, m5, m6⟩
  · unfold fL_sees_j45
    rw [k1, bnd_some, k2, ob_c1 h, nox_inl, bnd_some, stp, e26, gd_true, c26, stp, stp, ← k2]
    exact m1
  · rw [m4 j (by omega)]
    show up2 x'.1 a1 26 _ a1 j = _
    rw [up2_at, if_neg (by omega)]
    exact k4 j hj
  · rw [m4 _ (by omega)]
    show up2 x'.1 a1 26 _ a1 (10 + j) = _
    rw [up2_at, if_neg (by omega)]
    exact k5 j hj
  · rw [m4 26 (by omega)]
    show up2 x'.1 a1 26 _ a1 26 = _
    rw [up2_at, if_pos rfl]
theorem sees_ok (ha : lq a1 = 3500) (h : OB τ.2 (f, n, hd, c, cu, ma, lf, ml)) : ∃ x', fL_sees τ a1 = some x' ∧ x'.2 = τ.2 ∧ FR (fun b => b ≠ a1) τ x' ∧ SR (x'.1 a1) (f, n, hd, c, cu, ma, lf, ml) := by
  have hc := h.1.2.2.2.2.2.1
  have e0 : inb (0 : Int32) (lq a1) = true := i_35 (k := 0) ha (by omega)
  have e1' : inb (1 : Int32) (lq a1) = true := i_35 (k := 1) ha (by omega)
  have c0 : (0 : Int32).toNatClampNeg = 0 := by decide
  have c1 : (1 : Int32).toNatClampNeg = 1 := by decide
  generalize hx : uT (uT τ a1 0 (Int32.ofNat n)) a1 1 (Int32.ofNat c) = x
  have x2 : x.2 = τ.2 := by rw [← hx]; rfl
  have x3 : FR (fun b => b ≠ a1) τ x := by
    rw [← hx]
    exact FR.trans (FR.uT (fun b hb => hb)) (FR.uT (fun b hb => hb))
  have x4 : x.1 a1 0 = Int32.ofNat n ∧ x.1 a1 1 = Int32.ofNat c := by
    rw [← hx]
    constructor
    · show up2 (up2 τ.1 a1 0 _) a1 1 _ a1 0 = _
      rw [up2_at, if_neg (by omega), up2_at, if_pos rfl]
    · show up2 (up2 τ.1 a1 0 _) a1 1 _ a1 1 = _
      rw [up2_at, if_pos rfl]
  have key : Ok (loopF (fun s_20 => fL_sees_b20 a1 s_20.1 (Int32.ofNat n) s_20.2) FU (x, 0)) (fun x' => x'.2 = τ.2 ∧ FR (fun b => b ≠ a1) x x' ∧ (∀ j, j < 2 → x'.1 a1 j = x.1 a1 j) ∧ ∀ k, k < c → x'.1 a1 (2 + k) = Int32.ofNat (cu k)) := by
    refine Ok_count c (fun k z => ∃ x', z = (x', Int32.ofNat k) ∧ x'.2 = τ.2 ∧ FR (fun b => b ≠ a1) x x' ∧ (∀ j, j < 2 → x'.1 a1 j = x.1 a1 j) ∧ ∀ j, j < k → x'.1 a1 (2 + j) = Int32.ofNat (cu j)) ?_ 0 ⟨x, rfl, x2, FR.rf, fun _ _ => rfl, fun j hj => by omega⟩ (Nat.zero_le _) (by (show _ < FU); unfold FU; omega)
    rintro k z hk ⟨x', rfl, e1, e2, e3, e4⟩
    show Ok (fL_sees_b20 a1 x' (Int32.ofNat n) (Int32.ofNat k)) _
    unfold fL_sees_b20
    rw [e1', gd_true, c1, e3 1 (by omega), x4.2]
    by_cases q : c ≤ k
    · rw [if_pos ((i32_le (by omega) (by omega)).mpr q), Ok_some, lp_inr]
      exact ⟨e1, e2, e3, fun j hj => e4 j (by omega)⟩
    · rw [if_neg (fun z => q ((i32_le (by omega) (by omega)).mp z)), e1, ob_cursor h (by omega), nox_inl, bnd_some]
      have e5 : (2 : Int32) + Int32.ofNat k = Int32.ofNat (2 + k) := i32_add (p := 2)
      rw [e5, i_35 ha (by omega), gd_true, ofNat_clamp (by omega), stp, stp, i32_succ, Ok_some, lp_inl]
      refine ⟨by omega, _, rfl, rfl, e2.trans (FR.uT (fun b hb => hb)), fun j hj => ?_, fun j hj => ?_⟩
      · show up2 x'.1 a1 (2 + k) _ a1 j = _
        rw [up2_at, if_neg (by omega)]
        exact e3 j hj
      · show up2 x'.1 a1 (2 + k) _ a1 (2 + j) = _
        rw [up2_at]
        by_cases q2 : j = k
        · rw [if_pos (by omega), q2]
        · rw [if_neg (by omega)]
          exact e4 j (by omega)
  obtain ⟨x', k1, k2, k3, k4, k5⟩ := key
  obtain ⟨y, m1, m2, m3, m4, m5, m6, m7, m8⟩ := sees_mark ha h k2
  refine ⟨y, ?_, m2, x3.trans (k3.trans m3), ?_, ?_, fun k hk => ?_, m5, m6, m7, m8⟩
  · unfold fL_sees fL_sees_j20
    have hxx : uT ((uT (τ.1, τ.2) a1 0 (Int32.ofNat n)).1, (uT (τ.1, τ.2) a1 0 (Int32.ofNat n)).2) a1 1 (Int32.ofNat c) = x := hx
    rw [ob_c0 h, nox_inl, bnd_some, stp, e0, gd_true, c0, stp]
    have h2 : OB (uT (τ.1, τ.2) a1 0 (Int32.ofNat n)).2 (f, n, hd, c, cu, ma, lf, ml) := h
    rw [ob_c2 h2, nox_inl, bnd_some, e1', gd_true, c1, stp, stp, hxx, k1, bnd_some, stp, m1]
  · rw [m4 0 (by omega), k4 0 (by omega)]
    exact x4.1
  · rw [m4 1 (by omega), k4 1 (by omega)]
    exact x4.2
  · rw [m4 _ (by omega)]
    exact k5 k hk
end S
