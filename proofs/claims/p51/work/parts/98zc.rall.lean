/-! the law's finds -/
theorem fL_word {x : Int32} : fL_isWord x = some (tz (isWd x)) := by
  apply Ok_eq
  unfold fL_isWord fL_isWord_j12 fL_isWord_j24 fL_isWord_j36 fL_isWord_j42 fL_isWord_j47 isWd
  simp only [Ok_stp, Ok_bnd, Ok_some, Ok_none, Ok_ite, Ok_gd, inb_iff, isB_iff, lp_inl, lp_inr, Prod.mk.injEq]
  simp only [tz_0, tz]
  ((repeat' (first | apply And.intro | intro _)); all_goals grind)
theorem fdB_ext {f g : Nat → Int32} {n pn p : Nat} {pt pt' : Nat → Int32} {w : Int32} (h1 : ∀ i, i < n → f i = g i) (h2 : ∀ i, i < pn → pt i = pt' i) : fdB f n pt pn w p = fdB g n pt' pn w p := by
  by_cases hin : p + pn ≤ n
  · unfold fdB
    have e1 : decide (∀ k, k < pn → f (p + k) = pt k) = decide (∀ k, k < pn → g (p + k) = pt' k) := by
      apply decide_eq_decide.mpr
      constructor
      · intro h k hk
        rw [← h1 _ (by omega), ← h2 k hk]
        exact h k hk
      · intro h k hk
        rw [h1 _ (by omega), h2 k hk]
        exact h k hk
    have e2 : (p == 0 || !isWd (f (p - 1))) = (p == 0 || !isWd (g (p - 1))) := by
      by_cases z : p = 0
      · rw [z]; rfl
      · by_cases y : p - 1 < n
        · rw [h1 _ y]
        · omega
    have e3 : (decide (n ≤ p + pn) || !isWd (f (p + pn))) = (decide (n ≤ p + pn) || !isWd (g (p + pn))) := by
      by_cases z : n ≤ p + pn
      · rw [decide_eq_true z]; rfl
      · rw [h1 _ (by omega)]
    rw [e1, e2, e3]
  · rw [fdB_out hin, fdB_out hin]
section FI
variable {τ : LawS} {a0 : Nat}
theorem fL_find (ha : lq a0 = 3500) {N pn p : Nat} {v : Int32} (h0 : τ.1 a0 0 = Int32.ofNat N) (hN : N ≤ 3000) (hpn : pn ≤ 8) (hp : p ≤ 3000) : fL_isFind τ a0 (Int32.ofNat p) (Int32.ofNat pn) v = some (tz (fdB (fun i => τ.1 a0 (400 + i)) N (τ.1 44) pn v p)) := by
  have i0 : inb (0 : Int32) (lq a0) = true := i_35 (k := 0) ha (by omega)
  have c0 : (0 : Int32).toNatClampNeg = 0 := by decide
  have e4 : (400 : Int32) + Int32.ofNat p = Int32.ofNat (400 + p) := i32_add (p := 400)
  unfold fL_isFind
  rw [i0, gd_true, c0, h0, i32_add]
  by_cases hin : p + pn ≤ N
  · rw [if_pos ((i32_le (by omega) (by omega)).mpr hin), stp]
    have key : Ok (loopF (fun s_14 => fL_isFind_b14 a0 (Int32.ofNat p) (Int32.ofNat pn) v τ s_14) FU 0) (fun r => (r = .inl () ∧ ∀ k, k < pn → τ.1 a0 (400 + (p + k)) = τ.1 44 k) ∨ (r = .inr () ∧ ¬ ∀ k, k < pn → τ.1 a0 (400 + (p + k)) = τ.1 44 k)) := by
      refine Ok_count pn (fun k z => z = Int32.ofNat k ∧ ∀ i, i < k → τ.1 a0 (400 + (p + i)) = τ.1 44 i) ?_ 0 ⟨rfl, fun i hi => by omega⟩ (by omega) (by (show _ < FU; unfold FU; omega))
      rintro k z hk ⟨rfl, g1⟩
      show Ok (fL_isFind_b14 a0 (Int32.ofNat p) (Int32.ofNat pn) v τ (Int32.ofNat k)) _
      unfold fL_isFind_b14
      by_cases q : pn ≤ k
      · rw [if_pos ((i32_le (by omega) (by omega)).mpr q), Ok_some, lp_inr]
        exact Or.inl ⟨rfl, fun i hi => g1 i (by omega)⟩
      · rw [if_neg (fun z => q ((i32_le (by omega) (by omega)).mp z)), e4, i32_add, i_35 ha (by omega), gd_true, inb_n (show k < 8 by omega) (by omega), gd_true, ofNat_clamp (by omega), ofNat_clamp (by omega)]
        by_cases q2 : τ.1 a0 (400 + p + k) = τ.1 44 k
        · rw [if_pos q2, stp, Ok_some, lp_inl, i32_succ]
          refine ⟨by omega, rfl, fun i hi => ?_⟩
          by_cases e : i = k
          · rw [e, show 400 + (p + k) = 400 + p + k by omega]; exact q2
          · exact g1 i (by omega)
        · rw [if_neg q2, Ok_some, lp_inr]
          refine Or.inr ⟨rfl, fun z => q2 ?_⟩
          have := z k (by omega)
          rw [show 400 + (p + k) = 400 + p + k by omega] at this
          exact this
    obtain ⟨r, k1, k2⟩ := key
    unfold fL_isFind_j14
    rw [k1, bnd_some]
    rcases k2 with ⟨rfl, g1⟩ | ⟨rfl, g1⟩
    · show (if v = 0 then fL_isFind_j93 a0 (Int32.ofNat p) (Int32.ofNat pn) v τ else _) = _
      unfold fdB
      have d1 : decide (p + pn ≤ N) = true := decide_eq_true hin
      have d2 : decide (∀ k, k < pn → (fun i => τ.1 a0 (400 + i)) (p + k) = τ.1 44 k) = true := decide_eq_true g1
      rw [d1, d2, Bool.true_and, Bool.true_and]
      by_cases hv : v = 0
      · rw [if_pos hv, hv]
        rfl
      · have hv1 : (v == 0) = false := by simpa using hv
        rw [if_neg hv, hv1, Bool.false_or]
        have tail : fL_isFind_j69 a0 (Int32.ofNat p) (Int32.ofNat pn) v τ = some (tz (decide (N ≤ p + pn) || !isWd ((fun i => τ.1 a0 (400 + i)) (p + pn)))) := by
          unfold fL_isFind_j69
          rw [i0, gd_true, c0, h0, i32_add]
          by_cases q : p + pn = N
          · rw [if_pos (by rw [q]), decide_eq_true (show N ≤ p + pn by omega)]
            rfl
          · rw [if_neg (fun z => q ((ofNat_eq (by omega) (by omega)).mp z)), decide_eq_false (show ¬ N ≤ p + pn by omega), Bool.false_or, e4, i32_add, i_35 ha (by omega), gd_true, ofNat_clamp (by omega), fL_word, bnd_some, ite_tz, show 400 + p + pn = 400 + (p + pn) by omega]
            show (if isWd (τ.1 a0 (400 + (p + pn))) = true then _ else _) = some (tz (!isWd (τ.1 a0 (400 + (p + pn)))))
            cases isWd (τ.1 a0 (400 + (p + pn)))
            · rfl
            · rfl
        by_cases hp0 : p = 0
        · have e0 : (p == 0) = true := by simpa using hp0
          rw [if_pos ((ofNat_z0 (by omega)).mpr hp0), e0, Bool.true_or, Bool.true_and]
          exact tail
        · have e0 : (p == 0) = false := by simpa using hp0
          have e5 : Int32.ofNat (400 + p) - (1 : Int32) = Int32.ofNat (400 + (p - 1)) := by
            rw [show (1 : Int32) = Int32.ofNat 1 from rfl, i32_sub (by omega)]
            congr 1
            omega
          rw [if_neg (fun z => hp0 ((ofNat_z0 (by omega)).mp z)), e0, Bool.false_or, e4, e5, i_35 ha (by omega), gd_true, ofNat_clamp (by omega), fL_word, bnd_some, ite_tz]
          show (if isWd (τ.1 a0 (400 + (p - 1))) = true then _ else _) = some (tz (!isWd (τ.1 a0 (400 + (p - 1))) && _))
          cases isWd (τ.1 a0 (400 + (p - 1)))
          · rw [if_neg (by decide), Bool.not_false, Bool.true_and]
            exact tail
          · rfl
    · show some (0 : Int32) = _
      unfold fdB
      have d2 : decide (∀ k, k < pn → (fun i => τ.1 a0 (400 + i)) (p + k) = τ.1 44 k) = false := decide_eq_false g1
      rw [d2, Bool.and_false, Bool.false_and]
      rfl
  · rw [if_neg (fun z => hin ((i32_le (by omega) (by omega)).mp z)), fdB_out hin]
    rfl
/-- what the law looks for -/
def lkP (τ : LawS) (a0 N pn : Nat) (v : Int32) (p : Nat) : Bool := fdB (fun i => τ.1 a0 (400 + i)) N (τ.1 44) pn v p
end FI
section RA
variable {τ x : LawS} {n pn : Nat} {v : Int32} {P : Nat → Bool}
theorem ra_count (h0 : x.1 41 0 = Int32.ofNat n) (hn : n ≤ 3000) (hpn : pn ≤ 8) (hP : ∀ p, p ≤ n → lkP x 41 n pn v p = P p) : loopF (fun s_92 => fL_replacesAll_b92 x (Int32.ofNat pn) v s_92.1 s_92.2) FU (0, 0) = some (Int32.ofNat (cB P n)) := by
  apply Ok_eq
  refine Ok_count n (fun k z => z = (Int32.ofNat (cB P k), Int32.ofNat k)) ?_ 0 rfl (Nat.zero_le _) (by (show _ < FU; unfold FU; omega))
  rintro k z hk rfl
  show Ok (fL_replacesAll_b92 x (Int32.ofNat pn) v (Int32.ofNat (cB P k)) (Int32.ofNat k)) _
  unfold fL_replacesAll_b92
  have i0 : inb (0 : Int32) 3500 = true := by decide
  have c0 : (0 : Int32).toNatClampNeg = 0 := by decide
  rw [i0, gd_true, c0, h0]
  by_cases q : n ≤ k
  · rw [if_pos ((i32_le (by omega) (by omega)).mpr q), Ok_some, lp_inr, show n = k by omega]
  · have hf := fL_find (a0 := 41) (v := v) (by decide) h0 hn hpn (show k ≤ 3000 by omega)
    have hf : fL_isFind x 41 (Int32.ofNat k) (Int32.ofNat pn) v = some (tz (P k)) := by
      rw [hf]
      exact congrArg (fun b => some (tz b)) (hP k (by omega))
    rw [if_neg (fun z => q ((i32_le (by omega) (by omega)).mp z)), hf, bnd_some, one_hd (by cases P k <;> first | exact Or.inl rfl | exact Or.inr rfl), bnd_some, stp, stp, Ok_some, lp_inl, i32_succ]
    refine ⟨by omega, ?_⟩
    rw [cB]
    cases P k
    · show (Int32.ofNat (cB P k) + 0, _) = _
      rw [Int32.add_zero, if_neg (by decide)]
      rfl
    · show (Int32.ofNat (cB P k) + 1, _) = _
      rw [i32_succ, if_pos rfl]
theorem ra_up (h0 : x.1 41 0 = Int32.ofNat n) (hn : n ≤ 3000) (hpn : pn ≤ 8) (hP : ∀ p, p ≤ n → lkP x 41 n pn v p = P p) {a : Nat} (ha : a ≤ n) {l9 : Int32} {l10 : Int32} : ∃ u, loopF (fun s_162 => fL_replacesAll_b162 x (Int32.ofNat pn) v l10 s_162) FU (Int32.ofNat a) = some (Int32.ofNat u) ∧ u ≤ n ∧ isNx P n a (if n ≤ u then -1 else Int32.ofNat u) := by
  have key : Ok (loopF (fun s_162 => fL_replacesAll_b162 x (Int32.ofNat pn) v l10 s_162) FU (Int32.ofNat a)) (fun r => ∃ u, r = Int32.ofNat u ∧ u ≤ n ∧ isNx P n a (if n ≤ u then -1 else Int32.ofNat u)) := by
    refine Ok_count (n - a) (fun k z => z = Int32.ofNat (a + k) ∧ ∀ q, a ≤ q → q < a + k → P q = false) ?_ 0 ⟨rfl, fun q c d => by omega⟩ (by omega) (by (show _ < FU; unfold FU; omega))
    rintro k z hk ⟨rfl, g1⟩
    show Ok (fL_replacesAll_b162 x (Int32.ofNat pn) v l10 (Int32.ofNat (a + k))) _
    unfold fL_replacesAll_b162
    have i0 : inb (0 : Int32) 3500 = true := by decide
    have c0 : (0 : Int32).toNatClampNeg = 0 := by decide
    rw [i0, gd_true, c0, h0]
    by_cases q : n ≤ a + k
    · rw [if_pos ((i32_le (by omega) (by omega)).mpr q), Ok_some, lp_inr]
      exact ⟨a + k, rfl, by omega, by rw [if_pos q]; exact Or.inr ⟨fun i i1 i2 => g1 i i1 (by omega), rfl⟩⟩
    · have hf := fL_find (a0 := 41) (v := v) (by decide) h0 hn hpn (show a + k ≤ 3000 by omega)
      have hf : fL_isFind x 41 (Int32.ofNat (a + k)) (Int32.ofNat pn) v = some (tz (P (a + k))) := by
        rw [hf]
        exact congrArg (fun b => some (tz b)) (hP (a + k) (by omega))
      rw [if_neg (fun z => q ((i32_le (by omega) (by omega)).mp z)), hf, bnd_some, ite_tz]
      by_cases hf2 : P (a + k) = true
      · rw [if_pos hf2, Ok_some, lp_inr]
        exact ⟨a + k, rfl, by omega, by rw [if_neg q]; exact Or.inl ⟨a + k, by omega, by omega, hf2, g1, rfl⟩⟩
      · rw [if_neg hf2, stp, Ok_some, lp_inl, i32_succ]
        refine ⟨by omega, rfl, fun i i1 i2 => ?_⟩
        by_cases e : i = a + k
        · rw [e]; exact Bool.not_eq_true _ ▸ hf2
        · exact g1 i i1 (by omega)
  obtain ⟨r, k1, u, rfl, k2⟩ := key
  exact ⟨u, k1, k2⟩
theorem ra_down (h0 : x.1 41 0 = Int32.ofNat n) (hn : n ≤ 3000) (hpn : pn ≤ 8) (hP : ∀ p, p ≤ n → lkP x 41 n pn v p = P p) {a : Nat} (ha : a ≤ n) {l10 l11 : Int32} : ∃ r, loopF (fun s_197 => fL_replacesAll_b197 x (Int32.ofNat pn) v l10 l11 s_197) FU (Int32.ofNat a - 1) = some r ∧ isBf P a r := by
  have key : Ok (loopF (fun s_197 => fL_replacesAll_b197 x (Int32.ofNat pn) v l10 l11 s_197) FU (Int32.ofNat a - 1)) (isBf P a) := by
    refine Ok_count a (fun k z => z = Int32.ofInt ((a : Int) - 1 - k) ∧ ∀ q, a ≤ q + k → q < a → P q = false) ?_ 0 ⟨?_, fun q c d => by omega⟩ (by omega) (by (show _ < FU; unfold FU; omega))
    · rintro k z hk ⟨rfl, g1⟩
      show Ok (fL_replacesAll_b197 x (Int32.ofNat pn) v l10 l11 (Int32.ofInt ((a : Int) - 1 - k))) _
      unfold fL_replacesAll_b197
      by_cases hq : k = a
      · have e3 : Int32.ofInt ((a : Int) - 1 - k) = -1 := by
          rw [hq, show ((a : Int) - 1 - (a : Int)) = -1 by omega]
          rfl
        rw [e3, if_pos (by decide), Ok_some, lp_inr]
        exact Or.inr ⟨fun q c => g1 q (by omega) c, rfl⟩
      · have e3 : Int32.ofInt ((a : Int) - 1 - k) = Int32.ofNat (a - 1 - k) := by
          rw [show ((a : Int) - 1 - k) = ((a - 1 - k : Nat) : Int) by omega]
          rfl
        have e5 : Int32.ofNat (a - 1 - k) + -1 = Int32.ofInt ((a : Int) - 1 - ((k + 1 : Nat) : Int)) := by
          rw [← e3, show ((-1 : Int32)) = Int32.ofInt (-1) from rfl, ← Int32.ofInt_add]
          congr 1
          omega
        have hf := fL_find (a0 := 41) (v := v) (by decide) h0 hn hpn (show a - 1 - k ≤ 3000 by omega)
        have hf : fL_isFind x 41 (Int32.ofNat (a - 1 - k)) (Int32.ofNat pn) v = some (tz (P (a - 1 - k))) := by
          rw [hf]
          exact congrArg (fun b => some (tz b)) (hP (a - 1 - k) (by omega))
        rw [e3, if_neg (i32_lt0 (by omega)), hf, bnd_some, ite_tz]
        by_cases hf2 : P (a - 1 - k) = true
        · rw [if_pos hf2, Ok_some, lp_inr]
          exact Or.inl ⟨a - 1 - k, by omega, hf2, fun q c d => g1 q (by omega) d, rfl⟩
        · rw [if_neg hf2, stp, Ok_some, lp_inl]
          refine ⟨by omega, e5, fun q c d => ?_⟩
          by_cases e : q = a - 1 - k
          · rw [e]; exact Bool.not_eq_true _ ▸ hf2
          · exact g1 q (by omega) d
    · rw [show ((a : Int) - 1 - ((0 : Nat) : Int)) = (a : Int) + (-1) by omega, Int32.ofInt_add]
      show Int32.ofNat a - 1 = Int32.ofNat a + Int32.ofInt (-1)
      rw [show Int32.ofInt (-1) = (-1 : Int32) from rfl]
      grind
  obtain ⟨r, k1, k2⟩ := key
  exact ⟨r, k1, k2⟩
theorem ra_pat (h : 1 ≤ pn ∧ pn ≤ 3) : ∃ x, loopF (fun s_16 => fL_replacesAll_b16 s_16.1 (Int32.ofNat pn) s_16.2) FU (τ, 0) = some x ∧ x.2 = τ.2 ∧ FR (fun b => b ≠ 0 ∧ b ≠ 44) τ x ∧ ∀ k, k < pn → isLt (x.1 44 k) = true := by
  have key : Ok (loopF (fun s_16 => fL_replacesAll_b16 s_16.1 (Int32.ofNat pn) s_16.2) FU (τ, 0)) (fun x => x.2 = τ.2 ∧ FR (fun b => b ≠ 0 ∧ b ≠ 44) τ x ∧ ∀ k, k < pn → isLt (x.1 44 k) = true) := by
    refine Ok_count pn (fun k z => ∃ x, z = (x, Int32.ofNat k) ∧ x.2 = τ.2 ∧ FR (fun b => b ≠ 0 ∧ b ≠ 44) τ x ∧ ∀ j, j < k → isLt (x.1 44 j) = true) ?_ 0 ⟨τ, rfl, rfl, FR.rf, fun j hj => by omega⟩ (Nat.zero_le _) (by (show _ < FU; unfold FU; omega))
    rintro k z hk ⟨x, rfl, e1, e2, e3⟩
    show Ok (fL_replacesAll_b16 x (Int32.ofNat pn) (Int32.ofNat k)) _
    unfold fL_replacesAll_b16
    by_cases q : pn ≤ k
    · rw [if_pos ((i32_le (by omega) (by omega)).mpr q), Ok_some, lp_inr]
      exact ⟨e1, e2, fun j hj => e3 j (by omega)⟩
    · have put : ∀ (y : LawS) (u : Int32), isLt u = true → y.2 = x.2 → FR (fun b => b ≠ 0) x y → Ok (fL_replacesAll_j50 (Int32.ofNat pn) y (Int32.ofNat k) (Int32.ofNat k) u) (lp (fun s' => k + 1 ≤ pn ∧ ∃ x, s' = (x, Int32.ofNat (k + 1)) ∧ x.2 = τ.2 ∧ FR (fun b => b ≠ 0 ∧ b ≠ 44) τ x ∧ ∀ j, j < k + 1 → isLt (x.1 44 j) = true) (fun x => x.2 = τ.2 ∧ FR (fun b => b ≠ 0 ∧ b ≠ 44) τ x ∧ ∀ k, k < pn → isLt (x.1 44 k) = true)) := by
        intro y u hu y2 y3
        unfold fL_replacesAll_j50
        rw [inb_n (show k < 8 by omega) (by omega), gd_true, ofNat_clamp (by omega), stp, stp, i32_succ, Ok_some, lp_inl]
        refine ⟨by omega, _, rfl, y2.trans e1, (e2.trans (y3.weak (fun b hb => hb.1))).trans (FR.uT (fun b hb => hb.2)), fun j hj => ?_⟩
        show isLt (up2 y.1 44 k u 44 j) = true
        rw [up2_at]
        by_cases e : j = k
        · rw [if_pos e]; exact hu
        · rw [if_neg e, y3 44 (by decide)]
          exact e3 j (by omega)
      obtain ⟨w, y, i1, i2, i3, i4⟩ := next_ok x
      rw [if_neg (fun z => q ((i32_le (by omega) (by omega)).mp z)), i2, bnd_some]
      split
      · exact put y 32 (by decide) i3 i4
      · obtain ⟨w2, z2, y2, b1, b2, b3, b4, b5⟩ := nextm y 2 (by decide) (by decide)
        have b3 : z2 - z2 / (2 : Int32) * (2 : Int32) = Int32.ofNat w2 := b3
        rw [b2, bnd_some, b3]
        exact put y2 _ (isLt_97 (by omega)) (b4.trans i3) (i4.trans b5)
  obtain ⟨x, k1, k2⟩ := key
  exact ⟨x, k1, k2⟩
theorem ra_clear {l7 l8 l13 l14 l15 l16 l17 l18 : Int32} : ∃ y, loopF (fun s_332 => fL_replacesAll_b332 s_332.1 l7 l8 l13 l14 l15 l16 l17 l18 s_332.2) FU (x, 0) = some y ∧ y.2 = x.2 ∧ FR (fun b => b ≠ 46) x y ∧ ∀ i, i < 3500 → y.1 46 i = 0 := by
  have key : Ok (loopF (fun s_332 => fL_replacesAll_b332 s_332.1 l7 l8 l13 l14 l15 l16 l17 l18 s_332.2) FU (x, 0)) (fun y => y.2 = x.2 ∧ FR (fun b => b ≠ 46) x y ∧ ∀ i, i < 3500 → y.1 46 i = 0) := by
    refine Ok_count 3500 (fun k z => ∃ y, z = (y, Int32.ofNat k) ∧ y.2 = x.2 ∧ FR (fun b => b ≠ 46) x y ∧ ∀ i, i < k → y.1 46 i = 0) ?_ 0 ⟨x, rfl, rfl, FR.rf, fun j hj => by omega⟩ (Nat.zero_le _) (by (show _ < FU; unfold FU; omega))
    rintro k z hk ⟨y, rfl, e1, e2, e3⟩
    show Ok (fL_replacesAll_b332 y l7 l8 l13 l14 l15 l16 l17 l18 (Int32.ofNat k)) _
    unfold fL_replacesAll_b332
    have e35 : (3500 : Int32) ≤ Int32.ofNat k ↔ 3500 ≤ k := i32_le (a := 3500) (by omega) (by omega)
    simp only [e35]
    by_cases q : 3500 ≤ k
    · rw [if_pos q, Ok_some, lp_inr]
      exact ⟨e1, e2, fun i hi => e3 i (by omega)⟩
    · rw [if_neg q, i35 (by omega), gd_true, ofNat_clamp (by omega), stp, stp, i32_succ, Ok_some, lp_inl]
      refine ⟨by omega, _, rfl, e1, e2.trans (FR.uT (fun b hb => hb)), fun i hi => ?_⟩
      show up2 y.1 46 k (vp_nar .boolean 0) 46 i = 0
      rw [up2_at, nar_b (Or.inl rfl)]
      by_cases e : i = k
      · rw [if_pos e]
      · rw [if_neg e]
        exact e3 i (by omega)
  obtain ⟨y, k1, k2⟩ := key
  exact ⟨y, k1, k2⟩
end RA
