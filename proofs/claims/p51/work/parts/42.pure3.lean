/-! sums and counts -/
def sm (f : Nat → Int32) (a : Nat) : Nat → Int32
  | 0 => 0
  | i + 1 => 31 * sm f a i + f (a + i)
def wc (f : Nat → Int32) : Nat → Nat
  | 0 => 0
  | k + 1 => wc f k + (if isWd (f k) = true ∧ (k = 0 ∨ isWd (f (k - 1)) = false) then 1 else 0)
def cn (h : Nat → Int32) : Nat → Nat
  | 0 => 0
  | k + 1 => cn h k + (if h k = 0 then 0 else 1)
def cm (h : Nat → Int32) : Nat → Nat
  | 0 => 0
  | k + 1 => cm h k + (if h k = -1 then 0 else 1)
def mf (m : Nat → Int32) (p : Int32) : Nat → Int32
  | 0 => -1
  | k + 1 => if m k < p then mf m p k else if mf m p k = -1 then Int32.ofNat k else if m (mf m p k).toNatClampNeg ≤ m k then mf m p k else Int32.ofNat k
def mb (m : Nat → Int32) (p : Int32) : Nat → Int32
  | 0 => -1
  | k + 1 => if m k = -1 then mb m p k else if p < m k then mb m p k else if mb m p k = -1 then Int32.ofNat k else if m k ≤ m (mb m p k).toNatClampNeg then mb m p k else Int32.ofNat k
theorem wc_le {f : Nat → Int32} : ∀ k, wc f k ≤ k := by
  intro k
  induction k with
  | zero => exact Nat.le_refl _
  | succ k ih => rw [wc]; split <;> omega
theorem cn_le {f : Nat → Int32} : ∀ k, cn f k ≤ k := by
  intro k
  induction k with
  | zero => exact Nat.le_refl _
  | succ k ih => rw [cn]; split <;> omega
theorem cm_le {f : Nat → Int32} : ∀ k, cm f k ≤ k := by
  intro k
  induction k with
  | zero => exact Nat.le_refl _
  | succ k ih => rw [cm]; split <;> omega
theorem mf_in {m : Nat → Int32} {p : Int32} : ∀ k, k ≤ 16 → mf m p k = -1 ∨ (0 ≤ mf m p k ∧ mf m p k < Int32.ofNat k) := by
  intro k
  induction k with
  | zero => intro _; exact Or.inl rfl
  | succ k ih =>
    intro hk
    have := ih (by omega)
    rw [mf]
    generalize mf m p k = z at *
    grind
theorem mb_in {m : Nat → Int32} {p : Int32} : ∀ k, k ≤ 16 → mb m p k = -1 ∨ (0 ≤ mb m p k ∧ mb m p k < Int32.ofNat k) := by
  intro k
  induction k with
  | zero => intro _; exact Or.inl rfl
  | succ k ih =>
    intro hk
    have := ih (by omega)
    rw [mb]
    generalize mb m p k = z at *
    grind
theorem cn_ext {g h : Nat → Int32} {m : Nat} (h1 : ∀ j, j < m → g j = h j) : cn g m = cn h m := by
  induction m with
  | zero => rfl
  | succ m ih => rw [cn, cn, ih (fun j hj => h1 j (by omega)), h1 m (by omega)]
theorem cn_zero {g : Nat → Int32} {m : Nat} : ∀ d, (∀ j, m ≤ j → j < m + d → g j = 0) → cn g (m + d) = cn g m := by
  intro d
  induction d with
  | zero => intro _; rfl
  | succ d ih =>
    intro h
    rw [← Nat.add_assoc, cn, if_pos (h _ (by omega) (by omega)), ih (fun j a b => h j a (by omega)), Nat.add_zero]
section C
variable {σ : Sto} {s L B : Nat} {f : Nat → Int32} {n : Nat}
theorem c8_sumOf (h : CT σ s L B f n) {a b : Nat} {x y : Int32} (hx : x = Int32.ofNat a) (hy : y = Int32.ofNat b) (hab : a ≤ b) (hb : b ≤ n) : f8_sumOf σ s x y = some (sm f a (b - a)) := by
  apply Ok_eq
  subst hx hy
  obtain ⟨hn, h2, -, -, ⟨h5, h6, h7⟩, -, hL, -⟩ := h
  unfold f8_sumOf f8_sumOf_j5
  simp only [Ok_stp, Ok_bnd, Ok_some, Ok_none, Ok_ite, Ok_gd, inb_iff, isB_iff, lp_inl, lp_inr, Prod.mk.injEq]
  refine Ok_count (b - a) (fun k z => z = (sm f a k, Int32.ofNat (a + k))) ?_ 0 rfl (by omega) (by (show _ < FU; unfold FU; omega))
  rintro k z hk rfl
  unfold f8_sumOf_b5
  rw [h5]
  simp only [Ok_stp, Ok_bnd, Ok_some, Ok_none, Ok_ite, Ok_gd, inb_iff, isB_iff, lp_inl, lp_inr, Prod.mk.injEq]
  simp (disch := omega) only [ofNat_clamp, okr_s, Nat.add_sub_cancel, h6, h7]
  have hs : sm f a (k + 1) = 31 * sm f a k + f (a + k) := rfl
  have hk2 : a + k < n → aI σ L (a + k) = f (a + k) := hL _
  generalize aI σ L = g at *
  ((repeat' (first | apply And.intro | intro _)); all_goals grind)
theorem c8_countWords (h : CT σ s L B f n) : f8_countWords σ s = some (Int32.ofNat (wc f n)) := by
  apply Ok_eq
  obtain ⟨hn, h2, h3, -, ⟨h5, h6, h7⟩, -, hL, -⟩ := h
  unfold f8_countWords f8_countWords_j6
  simp only [Ok_stp, Ok_bnd, Ok_some, Ok_none, Ok_ite, Ok_gd, inb_iff, isB_iff, lp_inl, lp_inr, Prod.mk.injEq]
  refine Ok_count n (fun k z => z = (Int32.ofNat (wc f k), tz (decide (1 ≤ k) && isWd (f (k - 1))), Int32.ofNat k)) ?_ 0 rfl (by omega) (by (show _ < FU; unfold FU; omega))
  rintro k z hk rfl
  unfold f8_countWords_b6 f8_countWords_j39 f8_countWords_j40
  rw [h3, h5]
  simp only [c11_isOfWord]
  simp only [Ok_stp, Ok_bnd, Ok_some, Ok_none, Ok_ite, Ok_gd, inb_iff, isB_iff, lp_inl, lp_inr, Prod.mk.injEq]
  simp (disch := omega) only [ofNat_clamp, okr_s, Nat.add_sub_cancel, h6, h7]
  have hs : wc f (k + 1) = wc f k + (if isWd (f k) = true ∧ (k = 0 ∨ isWd (f (k - 1)) = false) then 1 else 0) := rfl
  have hw := wc_le (f := f) k
  have hk2 : k < n → aI σ L k = f k := hL _
  have hk3 : k + 1 - 1 = k := rfl
  have hk4 : decide (1 ≤ k + 1) = true := by simp
  simp only [tz_0, hk3, hk4, Bool.true_and]
  generalize aI σ L = g at *
  ((repeat' (first | apply And.intro | intro _)); all_goals grind)
theorem c8_countMarks {m : Nat → Int32} (hm : ∀ k, k < 16 → aI σ (s + 5) k = m k) : f8_countMarks σ s = some (Int32.ofNat (cm m 16)) := by
  apply Ok_eq
  unfold f8_countMarks f8_countMarks_j4
  simp only [Ok_stp, Ok_bnd, Ok_some, Ok_none, Ok_ite, Ok_gd, inb_iff, isB_iff, lp_inl, lp_inr, Prod.mk.injEq]
  refine Ok_count 16 (fun k z => z = (Int32.ofNat (cm m k), Int32.ofNat k)) ?_ 0 rfl (by omega) (by (show _ < FU; unfold FU; omega))
  rintro k z hk rfl
  unfold f8_countMarks_b4 f8_countMarks_j26
  simp only [Ok_stp, Ok_bnd, Ok_some, Ok_none, Ok_ite, Ok_gd, inb_iff, isB_iff, lp_inl, lp_inr, Prod.mk.injEq]
  simp (disch := omega) only [ofNat_clamp]
  have hs : cm m (k + 1) = cm m k + (if m k = -1 then 0 else 1) := rfl
  have hw := cm_le (f := m) k
  have hk2 := hm k
  generalize aI σ (s + 5) = g at *
  ((repeat' (first | apply And.intro | intro _)); all_goals grind)
theorem c8_countHidden (h : CT σ s L B f n) {H : Nat} {hd : Nat → Int32} (h9 : fR σ s 3 = H + 1) (h10 : kc H = 14) (h11 : ln H = 300) (hh : ∀ j, j ≤ ends f n → aI σ H j = hd j) : f8_countHidden σ s = some (Int32.ofNat (cn hd (ends f n + 1))) := by
  apply Ok_eq
  obtain ⟨hn, h2, h3, h4, -, -, hL, -⟩ := h
  unfold f8_countHidden f8_countHidden_j4
  simp only [Ok_stp, Ok_bnd, Ok_some, Ok_none, Ok_ite, Ok_gd, inb_iff, isB_iff, lp_inl, lp_inr, Prod.mk.injEq]
  refine Ok_count (ends f n + 1) (fun k z => z = (Int32.ofNat (cn hd k), Int32.ofNat k)) ?_ 0 rfl (by omega) (by (show _ < FU; unfold FU; omega))
  rintro k z hk rfl
  unfold f8_countHidden_b4 f8_countHidden_j27
  rw [h4, h9]
  simp only [Ok_stp, Ok_bnd, Ok_some, Ok_none, Ok_ite, Ok_gd, inb_iff, isB_iff, lp_inl, lp_inr, Prod.mk.injEq]
  simp (disch := omega) only [ofNat_clamp, okr_s, Nat.add_sub_cancel, h10, h11]
  have hs : cn hd (k + 1) = cn hd k + (if hd k = 0 then 0 else 1) := rfl
  have hw := cn_le (f := hd) k
  have hk2 := hh k
  generalize aI σ H = g at *
  ((repeat' (first | apply And.intro | intro _)); all_goals grind)
theorem c8_markFrom {m : Nat → Int32} (hm : ∀ k, k < 16 → aI σ (s + 5) k = m k) {p : Int32} : f8_markFrom σ s p = some (mf m p 16) := by
  apply Ok_eq
  unfold f8_markFrom f8_markFrom_j4
  simp only [Ok_stp, Ok_bnd, Ok_some, Ok_none, Ok_ite, Ok_gd, inb_iff, isB_iff, lp_inl, lp_inr, Prod.mk.injEq]
  refine Ok_count 16 (fun k z => z = (mf m p k, Int32.ofNat k)) ?_ 0 rfl (by omega) (by (show _ < FU; unfold FU; omega))
  rintro k z hk rfl
  unfold f8_markFrom_b4 f8_markFrom_j40 f8_markFrom_j42
  simp only [Ok_stp, Ok_bnd, Ok_some, Ok_none, Ok_ite, Ok_gd, inb_iff, isB_iff, lp_inl, lp_inr, Prod.mk.injEq]
  simp (disch := omega) only [ofNat_clamp]
  have hs : mf m p (k + 1) = if m k < p then mf m p k else if mf m p k = -1 then Int32.ofNat k else if m (mf m p k).toNatClampNeg ≤ m k then mf m p k else Int32.ofNat k := rfl
  have hw := mf_in (m := m) (p := p) k hk
  have hk2 := hm k
  have hk3 := hm (mf m p k).toNatClampNeg
  have hend : k = 16 → mf m p k = mf m p 16 := fun e => by rw [e]
  generalize mf m p k = z at *
  ((repeat' (first | apply And.intro | intro _)); all_goals grind)
theorem c8_markUpTo {m : Nat → Int32} (hm : ∀ k, k < 16 → aI σ (s + 5) k = m k) {p : Int32} : f8_markUpTo σ s p = some (mb m p 16) := by
  apply Ok_eq
  unfold f8_markUpTo f8_markUpTo_j4
  simp only [Ok_stp, Ok_bnd, Ok_some, Ok_none, Ok_ite, Ok_gd, inb_iff, isB_iff, lp_inl, lp_inr, Prod.mk.injEq]
  refine Ok_count 16 (fun k z => z = (mb m p k, Int32.ofNat k)) ?_ 0 rfl (by omega) (by (show _ < FU; unfold FU; omega))
  rintro k z hk rfl
  unfold f8_markUpTo_b4 f8_markUpTo_j50 f8_markUpTo_j52
  simp only [Ok_stp, Ok_bnd, Ok_some, Ok_none, Ok_ite, Ok_gd, inb_iff, isB_iff, lp_inl, lp_inr, Prod.mk.injEq]
  simp (disch := omega) only [ofNat_clamp]
  have hs : mb m p (k + 1) = if m k = -1 then mb m p k else if p < m k then mb m p k else if mb m p k = -1 then Int32.ofNat k else if m k ≤ m (mb m p k).toNatClampNeg then mb m p k else Int32.ofNat k := rfl
  have hw := mb_in (m := m) (p := p) k hk
  have hk2 := hm k
  have hk3 := hm (mb m p k).toNatClampNeg
  have hend : k = 16 → mb m p k = mb m p 16 := fun e => by rw [e]
  generalize mb m p k = z at *
  ((repeat' (first | apply And.intro | intro _)); all_goals grind)
end C
theorem c12_told {μ : Sto} {v : Int32} : f12_told μ v = some (v, uI μ 2017 18 0) := rfl
theorem c12_refuse {μ : Sto} {v : Int32} : f12_refuse μ v = some (0, uI μ 2017 18 v) := rfl
theorem c12_denies {μ : Sto} {v : Int32} : f12_denies μ v = some (0, uI μ 2017 18 v) := rfl
theorem c12_says {μ : Sto} {b : Bool} : f12_says μ (tz b) = some (tz b, uI μ 2017 18 0) := by
  unfold f12_says
  simp only [stp, tz_B, gd, if_true]
section M
variable {μ : Sto} {f : Nat → Int32} {n : Nat}
theorem c12_hash (h : MT μ f n) : f12_hash μ = some (sm f 0 n, uI μ 2017 18 0) := by
  apply Ok_eq
  obtain ⟨h1, h2, h3⟩ := h
  unfold f12_hash f12_hash_j4
  simp only [c12_told]
  simp only [Ok_stp, Ok_bnd, Ok_some, Ok_none, Ok_ite, Ok_gd, inb_iff, isB_iff, lp_inl, lp_inr, Prod.mk.injEq]
  refine Ok_count n (fun k z => z = (sm f 0 k, Int32.ofNat k)) ?_ 0 rfl (by omega) (by (show _ < FU; unfold FU; omega))
  rintro k z hk rfl
  unfold f12_hash_b4
  rw [h2]
  simp only [Ok_stp, Ok_bnd, Ok_some, Ok_none, Ok_ite, Ok_gd, inb_iff, isB_iff, lp_inl, lp_inr, Prod.mk.injEq]
  simp (disch := omega) only [ofNat_clamp]
  have hs : sm f 0 (k + 1) = 31 * sm f 0 k + f (0 + k) := rfl
  rw [Nat.zero_add] at hs
  generalize aI μ 2018 = g at *
  ((repeat' (first | apply And.intro | intro _)); all_goals grind)
theorem c12_words (h : MT μ f n) : f12_words μ = some (Int32.ofNat (wc f n)) := by
  apply Ok_eq
  obtain ⟨h1, h2, h3⟩ := h
  unfold f12_words f12_words_j4
  simp only [Ok_stp, Ok_bnd, Ok_some, Ok_none, Ok_ite, Ok_gd, inb_iff, isB_iff, lp_inl, lp_inr, Prod.mk.injEq]
  refine Ok_count n (fun k z => z = (Int32.ofNat (wc f k), Int32.ofNat k)) ?_ 0 rfl (by omega) (by (show _ < FU; unfold FU; omega))
  rintro k z hk rfl
  unfold f12_words_b4 f12_words_j43 f12_words_j47 f12_words_j48
  rw [h2]
  simp only [c12_isOfWord]
  simp only [Ok_stp, Ok_bnd, Ok_some, Ok_none, Ok_ite, Ok_gd, inb_iff, isB_iff, lp_inl, lp_inr, Prod.mk.injEq]
  have hs : wc f (k + 1) = wc f k + (if isWd (f k) = true ∧ (k = 0 ∨ isWd (f (k - 1)) = false) then 1 else 0) := rfl
  have hw := wc_le (f := f) k
  have hk2 := h3 k
  have hk3 := h3 (k - 1)
  have e1 : 1 ≤ k → Int32.ofNat k - 1 = Int32.ofNat (k - 1) := by grind
  simp (disch := omega) only [ofNat_clamp, tz_0]
  generalize aI μ 2018 = g at *
  by_cases hk0 : k = 0
  · subst hk0
    ((repeat' (first | apply And.intro | intro _)); all_goals grind)
  · rw [e1 (by omega), ofNat_clamp (by omega)]
    ((repeat' (first | apply And.intro | intro _)); all_goals grind)
theorem c12_marks {m : Nat → Int32} (hm : ∀ k, k < 16 → aI μ 2020 k = m k) : f12_marks μ = some (Int32.ofNat (cm m 16)) := by
  apply Ok_eq
  unfold f12_marks f12_marks_j4
  simp only [Ok_stp, Ok_bnd, Ok_some, Ok_none, Ok_ite, Ok_gd, inb_iff, isB_iff, lp_inl, lp_inr, Prod.mk.injEq]
  refine Ok_count 16 (fun k z => z = (Int32.ofNat (cm m k), Int32.ofNat k)) ?_ 0 rfl (by omega) (by (show _ < FU; unfold FU; omega))
  rintro k z hk rfl
  unfold f12_marks_b4 f12_marks_j26
  simp only [Ok_stp, Ok_bnd, Ok_some, Ok_none, Ok_ite, Ok_gd, inb_iff, isB_iff, lp_inl, lp_inr, Prod.mk.injEq]
  simp (disch := omega) only [ofNat_clamp]
  have hs : cm m (k + 1) = cm m k + (if m k = -1 then 0 else 1) := rfl
  have hw := cm_le (f := m) k
  have hk2 := hm k
  generalize aI μ 2020 = g at *
  ((repeat' (first | apply And.intro | intro _)); all_goals grind)
theorem c12_hiddenMany {h : Nat → Int32} {e : Nat} (he : e < 300) (hh : ∀ j, j < 300 → aI μ 2022 j = if j ≤ e then h j else 0) : f12_hiddenMany μ = some (Int32.ofNat (cn h (e + 1))) := by
  have h2 : cn (aI μ 2022) 300 = cn h (e + 1) := by
    have := cn_zero (g := aI μ 2022) (m := e + 1) (299 - e) (fun j a b => by rw [hh j (by omega), if_neg (by omega)])
    rw [show e + 1 + (299 - e) = 300 by omega] at this
    rw [this]
    exact cn_ext (fun j hj => by rw [hh j (by omega), if_pos (by omega)])
  rw [← h2]
  apply Ok_eq
  unfold f12_hiddenMany f12_hiddenMany_j4
  simp only [Ok_stp, Ok_bnd, Ok_some, Ok_none, Ok_ite, Ok_gd, inb_iff, isB_iff, lp_inl, lp_inr, Prod.mk.injEq]
  refine Ok_count 300 (fun k z => z = (Int32.ofNat (cn (aI μ 2022) k), Int32.ofNat k)) ?_ 0 rfl (by omega) (by (show _ < FU; unfold FU; omega))
  rintro k z hk rfl
  unfold f12_hiddenMany_b4 f12_hiddenMany_j26
  simp only [Ok_stp, Ok_bnd, Ok_some, Ok_none, Ok_ite, Ok_gd, inb_iff, isB_iff, lp_inl, lp_inr, Prod.mk.injEq]
  simp (disch := omega) only [ofNat_clamp]
  generalize aI μ 2022 = g at *
  have hs : cn g (k + 1) = cn g k + (if g k = 0 then 0 else 1) := rfl
  have hw := cn_le (f := g) k
  ((repeat' (first | apply And.intro | intro _)); all_goals grind)
theorem c12_markBeside {m : Nat → Int32} (h : MT μ f n) (hm : ∀ k, k < 16 → aI μ 2020 k = m k) {p x : Int32} : f12_markBeside μ p x = if 0 ≤ p ∧ p ≤ Int32.ofNat n then some (if x = 0 then mb m p 16 else mf m p 16, uI μ 2017 18 0) else some (0, uI μ 2017 18 1) := by
  unfold f12_markBeside
  rw [c12_isPlace h]
  simp only [bnd, Option.bind, tz_0, c12_refuse, stp]
  by_cases hp : 0 ≤ p ∧ p ≤ Int32.ofNat n
  · rw [if_pos hp, if_neg (by simp [hp])]
    apply Ok_eq
    unfold f12_markBeside_j19
    simp only [c12_told]
    simp only [Ok_stp, Ok_bnd, Ok_some, Ok_none, Ok_ite, Ok_gd, inb_iff, isB_iff, lp_inl, lp_inr, Prod.mk.injEq]
    refine Ok_count 16 (fun k z => z = (if x = 0 then mb m p k else mf m p k, Int32.ofNat k)) ?_ 0 (by split <;> rfl) (by omega) (by (show _ < FU; unfold FU; omega))
    rintro k z hk rfl
    unfold f12_markBeside_b19 f12_markBeside_j70 f12_markBeside_j66 f12_markBeside_j71 f12_markBeside_j122 f12_markBeside_j125
    simp only [Ok_stp, Ok_bnd, Ok_some, Ok_none, Ok_ite, Ok_gd, inb_iff, isB_iff, lp_inl, lp_inr, Prod.mk.injEq]
    simp (disch := omega) only [ofNat_clamp]
    have hp1 := hp.1
    by_cases hx : x = 0
    · simp only [hx, if_true]
      have hs : mb m p (k + 1) = if m k = -1 then mb m p k else if p < m k then mb m p k else if mb m p k = -1 then Int32.ofNat k else if m k ≤ m (mb m p k).toNatClampNeg then mb m p k else Int32.ofNat k := rfl
      have hw := mb_in (m := m) (p := p) k hk
      have hk2 := hm k
      have hk3 := hm (mb m p k).toNatClampNeg
      have hend : k = 16 → mb m p k = mb m p 16 := fun e => by rw [e]
      generalize mb m p k = z at *
      ((repeat' (first | apply And.intro | intro _)); all_goals grind)
    · simp only [hx, if_false]
      have hs : mf m p (k + 1) = if m k < p then mf m p k else if mf m p k = -1 then Int32.ofNat k else if m (mf m p k).toNatClampNeg ≤ m k then mf m p k else Int32.ofNat k := rfl
      have hw := mf_in (m := m) (p := p) k hk
      have hk2 := hm k
      have hk3 := hm (mf m p k).toNatClampNeg
      have hend : k = 16 → mf m p k = mf m p 16 := fun e => by rw [e]
      generalize mf m p k = z at *
      ((repeat' (first | apply And.intro | intro _)); all_goals grind)
  · rw [if_neg hp, if_pos (by simp only [hp, decide_false])]
end M
