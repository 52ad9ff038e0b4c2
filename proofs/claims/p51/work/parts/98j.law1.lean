/-! the law's draws -/
/-- rows that are as they were -/
def FR (S : Nat → Prop) (τ τ' : LawS) : Prop := ∀ b, S b → τ'.1 b = τ.1 b
theorem FR.rf {S : Nat → Prop} {τ : LawS} : FR S τ τ := fun _ _ => rfl
theorem FR.trans {S : Nat → Prop} {τ1 τ2 τ3 : LawS} (h : FR S τ1 τ2) (h2 : FR S τ2 τ3) : FR S τ1 τ3 := fun b hb => (h2 b hb).trans (h b hb)
theorem FR.weak {S S' : Nat → Prop} {τ1 τ2 : LawS} (h : FR S τ1 τ2) (hs : ∀ b, S' b → S b) : FR S' τ1 τ2 := fun b hb => h b (hs b hb)
theorem FR.st {S : Nat → Prop} {τ τ' : LawS} {σ : Sto} (h : FR S τ τ') : FR S τ (τ'.1, σ) := h
theorem up2_ne {r : Nat → Nat → Int32} {a k b : Nat} {v : Int32} (h : b ≠ a) : up2 r a k v b = r b := by
  funext j
  unfold up2
  rw [if_neg h]
theorem up2_at {r : Nat → Nat → Int32} {a k j : Nat} {v : Int32} : up2 r a k v a j = if j = k then v else r a j := by
  unfold up2
  rw [if_pos rfl]
theorem FR.uT {S : Nat → Prop} {τ : LawS} {a k : Nat} {v : Int32} (h : ∀ b, S b → b ≠ a) : FR S τ (uT τ a k v) := fun b hb => up2_ne (h b hb)
theorem inb_00 : inb (0 : Int32) 1 = true := by decide
theorem u32_nat (y : UInt32) : y.toInt32 = Int32.ofNat y.toNat := by
  apply Int32.toBitVec_inj.mp
  show y.toBitVec = BitVec.ofNat 32 y.toBitVec.toNat
  rw [BitVec.ofNat_toNat, BitVec.setWidth_eq]
theorem shr9 (x : Int32) : ∃ v : Nat, v < 8388608 ∧ UInt32.toInt32 (Int32.toUInt32 x >>> (Int32.toUInt32 (9 : Int32) &&& Int32.toUInt32 31)) = Int32.ofNat v := by
  refine ⟨_, ?_, u32_nat _⟩
  rw [UInt32.toNat_shiftRight]
  have e : (Int32.toUInt32 (9 : Int32) &&& Int32.toUInt32 31).toNat % 32 = 9 := by decide
  rw [e, Nat.shiftRight_eq_div_pow]
  have := UInt32.toNat_lt (Int32.toUInt32 x)
  omega
theorem next_ok (τ : LawS) : ∃ (v : Nat) (τ' : LawS), v < 8388608 ∧ fL_next τ = some (Int32.ofNat v, τ') ∧ τ'.2 = τ.2 ∧ FR (fun b => b ≠ 0) τ τ' := by
  obtain ⟨τ2, e, f1, f2⟩ : ∃ τ2 : LawS, fL_next τ = some (UInt32.toInt32 (Int32.toUInt32 (τ2.1 0 (Int32.toNatClampNeg (0 : Int32))) >>> (Int32.toUInt32 (9 : Int32) &&& Int32.toUInt32 31)), τ2) ∧ τ2.2 = τ.2 ∧ FR (fun b => b ≠ 0) τ τ2 := by
    unfold fL_next
    simp only [inb_00, gd_true, stp]
    exact ⟨_, rfl, rfl, FR.trans (FR.uT (fun b hb => hb)) (FR.uT (fun b hb => hb))⟩
  obtain ⟨v, h1, h2⟩ := shr9 (τ2.1 0 (Int32.toNatClampNeg (0 : Int32)))
  exact ⟨v, τ2, h1, by rw [e, h2], f1, f2⟩
/-- a number below d -/
theorem nextm (τ : LawS) (d : Nat) (hd : 0 < d) (hd2 : d < 2147483648) : ∃ (v : Nat) (x : Int32) (τ' : LawS), v < d ∧ fL_next τ = some (x, τ') ∧ x - x / Int32.ofNat d * Int32.ofNat d = Int32.ofNat v ∧ τ'.2 = τ.2 ∧ FR (fun b => b ≠ 0) τ τ' := by
  obtain ⟨v, τ', h1, h2, h3, h4⟩ := next_ok τ
  exact ⟨v % d, _, τ', Nat.mod_lt _ hd, h2, i32_mod' (by omega) hd2, h3, h4⟩
theorem from_ok (τ : LawS) {lo hi : Int32} (d : Nat) (hd : 0 < d) (hd2 : d < 2147483648) (e : (hi - lo) + (1 : Int32) = Int32.ofNat d) : ∃ (v : Nat) (τ' : LawS), v < d ∧ fL_from τ lo hi = some (lo + Int32.ofNat v, τ') ∧ τ'.2 = τ.2 ∧ FR (fun b => b ≠ 0) τ τ' := by
  obtain ⟨v, x, τ', h1, h2, h3, h4, h5⟩ := nextm τ d hd hd2
  refine ⟨v, τ', h1, ?_, h4, h5⟩
  unfold fL_from
  have hz : nz (Int32.ofNat d) = true := nz_iff.mpr (fun z => by
    have := (ofNat_z0 hd2).mp z
    omega)
  rw [h2, bnd_some, e, hz, gd_true, h3]
theorem isLt_97 {m : Nat} (h : m < 3) : isLt ((97 : Int32) + Int32.ofNat m) = true := by
  have : ∀ m : Nat, m < 3 → isLt ((97 : Int32) + Int32.ofNat m) = true := by decide
  exact this m h
theorem draw_put {τ : LawS} {l : Int32} {k : Nat} {x : Int32} (hk : k < 40) : fL_draws_j115 l τ (Int32.ofNat k) (Int32.ofNat k) x = some (.inl (uT τ 43 k x, Int32.ofNat (k + 1))) := by
  unfold fL_draws_j115
  rw [inb_n hk (by omega), gd_true, stp, stp, ofNat_clamp (by omega), i32_succ]
theorem draw_step (τ : LawS) {m k : Nat} (hm : m ≤ 12) (hk : k < m) : ∃ (x : Int32) (τ1 : LawS), isLt x = true ∧ τ1.2 = τ.2 ∧ FR (fun b => b ≠ 0) τ τ1 ∧ fL_draws_b28 τ (Int32.ofNat m) (Int32.ofNat k) = some (.inl (uT τ1 43 k x, Int32.ofNat (k + 1))) := by
  obtain ⟨v, x, τ1, h1, h2, h3, h4, h5⟩ := nextm τ 11 (by decide) (by decide)
  have h3 : x - x / (11 : Int32) * (11 : Int32) = Int32.ofNat v := h3
  unfold fL_draws_b28
  rw [if_neg (fun z => by have := (i32_le (by omega) (by omega)).mp z; omega), h2, bnd_some, h3, stp]
  have c : ∀ a : Nat, a < 100 → ((Int32.ofNat a ≤ Int32.ofNat v ↔ a ≤ v) ∧ (Int32.ofNat v = Int32.ofNat a ↔ v = a)) := fun a ha => ⟨i32_le (by omega) (by omega), ofNat_eq (by omega) (by omega)⟩
  have c4 : (4 : Int32) ≤ Int32.ofNat v ↔ 4 ≤ v := (c 4 (by omega)).1
  have c6 : (6 : Int32) ≤ Int32.ofNat v ↔ 6 ≤ v := (c 6 (by omega)).1
  have d6 : Int32.ofNat v = (6 : Int32) ↔ v = 6 := (c 6 (by omega)).2
  have d7 : Int32.ofNat v = (7 : Int32) ↔ v = 7 := (c 7 (by omega)).2
  have d8 : Int32.ofNat v = (8 : Int32) ↔ v = 8 := (c 8 (by omega)).2
  simp only [c4, c6, d6, d7, d8]
  have r2 : Int32.ofNat v - Int32.ofNat v / (2 : Int32) * (2 : Int32) = Int32.ofNat (v % 2) := i32_mod' (d := 2) (by omega) (by omega)
  have r3 : Int32.ofNat v - Int32.ofNat v / (3 : Int32) * (3 : Int32) = Int32.ofNat (v % 3) := i32_mod' (d := 3) (by omega) (by omega)
  rw [r2, r3]
  split
  · split
    · split
      · exact ⟨_, τ1, by decide, h4, h5, draw_put (by omega)⟩
      · split
        · exact ⟨_, τ1, by decide, h4, h5, draw_put (by omega)⟩
        · split
          · exact ⟨_, τ1, by decide, h4, h5, draw_put (by omega)⟩
          · exact ⟨_, τ1, isLt_97 (by omega), h4, h5, draw_put (by omega)⟩
    · exact ⟨_, τ1, by decide, h4, h5, draw_put (by omega)⟩
  · exact ⟨_, τ1, isLt_97 (by omega), h4, h5, draw_put (by omega)⟩
theorem draw_loop (τ : LawS) {m : Nat} (hm : m ≤ 12) : ∃ τ', fL_draws_j25 τ (Int32.ofNat m) = some (Int32.ofNat m, τ') ∧ τ'.2 = τ.2 ∧ FR (fun b => b ≠ 0 ∧ b ≠ 43) τ τ' ∧ ∀ k, k < m → isLt (τ'.1 43 k) = true := by
  have key : Ok (loopF (fun s_28 => fL_draws_b28 s_28.1 (Int32.ofNat m) s_28.2) FU (τ, 0)) (fun r => r.2 = τ.2 ∧ FR (fun b => b ≠ 0 ∧ b ≠ 43) τ r ∧ ∀ k, k < m → isLt (r.1 43 k) = true) := by
    refine Ok_count m (fun k z => ∃ τ', z = (τ', Int32.ofNat k) ∧ τ'.2 = τ.2 ∧ FR (fun b => b ≠ 0 ∧ b ≠ 43) τ τ' ∧ ∀ j, j < k → isLt (τ'.1 43 j) = true) ?_ 0 ⟨τ, rfl, rfl, FR.rf, fun j hj => by omega⟩ (Nat.zero_le _) (by (show _ < FU); unfold FU; omega)
    rintro k z hk ⟨τ', rfl, e1, e2, e3⟩
    show Ok (fL_draws_b28 τ' (Int32.ofNat m) (Int32.ofNat k)) _
    by_cases q : k < m
    · obtain ⟨x, τ1, x1, x2, x3, x4⟩ := draw_step τ' hm q
      rw [x4, Ok_some, lp_inl]
      refine ⟨q, _, rfl, x2.trans e1, e2.trans (FR.trans (x3.weak (fun b hb => hb.1)) (FR.uT (fun b hb => hb.2))), fun j hj => ?_⟩
      show isLt (up2 τ1.1 43 k x 43 j) = true
      rw [up2_at]
      by_cases q2 : j = k
      · rw [if_pos q2]
        exact x1
      · rw [if_neg q2, x3 43 (by decide)]
        exact e3 j (by omega)
    · unfold fL_draws_b28
      rw [if_pos ((i32_le (by omega) (by omega)).mpr (by omega)), Ok_some, lp_inr]
      exact ⟨e1, e2, fun j hj => e3 j (by omega)⟩
  obtain ⟨r, k1, k2, k3, k4⟩ := key
  refine ⟨r, ?_, k2, k3, k4⟩
  unfold fL_draws_j25 fL_draws_j28
  rw [stp, stp, k1, bnd_some]
theorem draws_ok (τ : LawS) : ∃ (m : Nat) (τ' : LawS), m ≤ 12 ∧ fL_draws τ = some (Int32.ofNat m, τ') ∧ τ'.2 = τ.2 ∧ FR (fun b => b ≠ 0 ∧ b ≠ 43) τ τ' ∧ ∀ k, k < m → isLt (τ'.1 43 k) = true := by
  obtain ⟨v, x, τ1, h1, h2, h3, h4, h5⟩ := nextm τ 4 (by decide) (by decide)
  have h3 : x - x / (4 : Int32) * (4 : Int32) = Int32.ofNat v := h3
  unfold fL_draws
  rw [h2, bnd_some, h3]
  by_cases hv : Int32.ofNat v = 0
  · obtain ⟨v2, x2, τ2, i1, i2, i3, i4, i5⟩ := nextm τ1 3 (by decide) (by decide)
    have i3 : x2 - x2 / (3 : Int32) * (3 : Int32) = Int32.ofNat v2 := i3
    rw [if_pos hv, i2, bnd_some, i3]
    obtain ⟨τ', k1, k2, k3, k4⟩ := draw_loop τ2 (m := v2) (by omega)
    exact ⟨v2, τ', by omega, k1, k2.trans (i4.trans h4), FR.trans ((h5.trans i5).weak (fun b hb => hb.1)) k3, k4⟩
  · obtain ⟨v2, τ2, i1, i2, i4, i5⟩ := from_ok τ1 (lo := 1) (hi := 12) 12 (by decide) (by decide) (by decide)
    rw [if_neg hv, i2, bnd_some]
    have e : (1 : Int32) + Int32.ofNat v2 = Int32.ofNat (1 + v2) := i32_add (p := 1)
    rw [e]
    obtain ⟨τ', k1, k2, k3, k4⟩ := draw_loop τ2 (m := 1 + v2) (by omega)
    exact ⟨1 + v2, τ', by omega, k1, k2.trans (i4.trans h4), FR.trans ((h5.trans i5).weak (fun b hb => hb.1)) k3, k4⟩
