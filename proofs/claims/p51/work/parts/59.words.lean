/-! a cursor's ways -/
/-- the first place from one on, ahead of n, of which P holds; else n -/
def skF (P : Nat → Bool) : Nat → Nat → Nat
  | 0, p => p
  | d + 1, p => if P p = true then p else skF P d (p + 1)
/-- back over the places of which P does not hold -/
def skB (P : Nat → Bool) : Nat → Nat
  | 0 => 0
  | k + 1 => if P k = true then k + 1 else skB P k
theorem skF_le {P : Nat → Bool} : ∀ d p, p ≤ skF P d p ∧ skF P d p ≤ p + d := by
  intro d
  induction d with
  | zero => intro p; exact ⟨Nat.le_refl _, Nat.le_refl _⟩
  | succ d ih =>
    intro p
    rw [skF]
    split
    · omega
    · have := ih (p + 1)
      omega
theorem skB_le {P : Nat → Bool} : ∀ k, skB P k ≤ k := by
  intro k
  induction k with
  | zero => exact Nat.le_refl _
  | succ k ih => rw [skB]; split <;> omega
def wdF (f : Nat → Int32) (n p : Nat) : Nat := skF (fun q => !isWd (f q)) (n - skF (fun q => isWd (f q)) (n - p) p) (skF (fun q => isWd (f q)) (n - p) p)
def wdB (f : Nat → Int32) (p : Nat) : Nat := skB (fun q => !isWd (f q)) (skB (fun q => isWd (f q)) p)
theorem wdF_le {f : Nat → Int32} {n p : Nat} (h : p ≤ n) : wdF f n p ≤ n := by
  unfold wdF
  have h1 := skF_le (P := fun q => isWd (f q)) (n - p) p
  have h2 := skF_le (P := fun q => !isWd (f q)) (n - skF (fun q => isWd (f q)) (n - p) p) (skF (fun q => isWd (f q)) (n - p) p)
  omega
theorem wdB_le {f : Nat → Int32} {p : Nat} : wdB f p ≤ p := by
  unfold wdB
  have h1 := skB_le (P := fun q => isWd (f q)) p
  have h2 := skB_le (P := fun q => !isWd (f q)) (skB (fun q => isWd (f q)) p)
  omega
theorem loop_F {P : Nat → Bool} {n : Nat} {body : Int32 → Option (Int32 ⊕ Int32)} (hn : n ≤ 3000) (go : ∀ p, p < n → P p = false → body (Int32.ofNat p) = some (.inl (Int32.ofNat (p + 1)))) (st : ∀ p, p ≤ n → (p < n → P p = true) → body (Int32.ofNat p) = some (.inr (Int32.ofNat p))) {p : Nat} (hp : p ≤ n) : loopF body FU (Int32.ofNat p) = some (Int32.ofNat (skF P (n - p) p)) := by
  apply Ok_eq
  refine Ok_count (n - p) (fun k z => z = Int32.ofNat (p + k) ∧ skF P (n - p) p = skF P (n - (p + k)) (p + k)) ?_ 0 ⟨rfl, rfl⟩ (by omega) (by (show _ < FU; unfold FU; omega))
  rintro k z hk ⟨rfl, h1⟩
  by_cases hq : p + k < n
  · have hs : skF P (n - (p + k)) (p + k) = if P (p + k) = true then p + k else skF P (n - (p + (k + 1))) (p + (k + 1)) := by
      rw [show n - (p + k) = (n - (p + (k + 1))) + 1 by omega, skF]
      rfl
    rw [hs] at h1
    by_cases hP : P (p + k) = true
    · rw [if_pos hP] at h1
      rw [st _ (by omega) (fun _ => hP), Ok_some, lp_inr, h1]
    · rw [if_neg hP] at h1
      rw [go _ hq (by simpa using hP), Ok_some, lp_inl]
      exact ⟨by omega, rfl, h1⟩
  · rw [st _ (by omega) (fun z => absurd z hq), Ok_some, lp_inr, h1, show n - (p + k) = 0 by omega]
    rfl
theorem loop_B {P : Nat → Bool} {body : Int32 → Option (Int32 ⊕ Int32)} {m : Nat} (hm : m ≤ 3000) (go : ∀ p, p < m → P p = false → body (Int32.ofNat (p + 1)) = some (.inl (Int32.ofNat p))) (st : ∀ p, p ≤ m → (∀ q, p = q + 1 → P q = true) → body (Int32.ofNat p) = some (.inr (Int32.ofNat p))) {p : Nat} (hp : p ≤ m) : loopF body FU (Int32.ofNat p) = some (Int32.ofNat (skB P p)) := by
  apply Ok_eq
  refine Ok_count p (fun k z => z = Int32.ofNat (p - k) ∧ skB P p = skB P (p - k)) ?_ 0 ⟨rfl, rfl⟩ (by omega) (by (show _ < FU; unfold FU; omega))
  rintro k z hk ⟨rfl, h1⟩
  by_cases hq : k < p
  · have hs : skB P (p - k) = if P (p - (k + 1)) = true then p - k else skB P (p - (k + 1)) := by
      rw [show p - k = (p - (k + 1)) + 1 by omega, skB]
    rw [hs] at h1
    by_cases hP : P (p - (k + 1)) = true
    · rw [if_pos hP] at h1
      rw [st _ (by omega) (fun q e => by rw [show q = p - (k + 1) by omega]; exact hP), Ok_some, lp_inr, h1]
    · rw [if_neg hP] at h1
      have := go (p - (k + 1)) (by omega) (by simpa using hP)
      rw [show p - k = p - (k + 1) + 1 by omega, this, Ok_some, lp_inl]
      exact ⟨by omega, rfl, h1⟩
  · rw [st _ (by omega) (fun q e => by omega), Ok_some, lp_inr, h1, show p - k = 0 by omega]
    rfl
theorem loop_done {α β : Type} {body : α → Option (α ⊕ β)} {s : α} {r : β} (h : body s = some (.inr r)) : loopF body FU s = some r := by
  apply Ok_eq
  refine Ok_count 0 (fun k z => z = s) ?_ 0 rfl (by omega) (by (show _ < FU; unfold FU; omega))
  rintro k z hk rfl
  rw [h, Ok_some, lp_inr]
section R
variable {σ μ : Sto} {o : Int64} {L B : Nat} {f : Nat → Int32} {n : Nat}
theorem c10_wordForward (h : CT σ 1 L B f n) {p : Nat} {x : Int32} (hx : x = Int32.ofNat p) (hp : p ≤ n) : f10_wordForward σ 1 x = some (Int32.ofNat (wdF f n p)) := by
  subst hx
  obtain ⟨hn, -, h3, -, ⟨h5, h6, h7⟩, -, hL, -⟩ := h
  have a1 := skF_le (P := fun q => isWd (f q)) (n - p) p
  unfold f10_wordForward f10_wordForward_j2 f10_wordForward_j28 f10_wordForward_j54
  simp only [stp]
  rw [loop_F (P := fun q => isWd (f q)) hn (fun p hp hP => ?_) (fun p hp hP => ?_) hp, bnd_some, loop_F (P := fun q => !isWd (f q)) hn (fun p hp hP => ?_) (fun p hp hP => ?_) (by omega), bnd_some]
  · rfl
  · have hP : isWd (f p) = true := by simpa using hP
    unfold f10_wordForward_b28
    simp only [h3, h5, i32_le (show n < 2147483648 by omega) (show p < 2147483648 by omega), if_neg (show ¬ n ≤ p by omega), okr_s.mpr h6, Nat.add_sub_cancel, h7, inb_n (show p < 3000 by omega) (by omega), gd_true, ofNat_clamp (show p < 2147483648 by omega), hL p hp, c11_isOfWord, bnd_some, ite_tz, hP, if_true, i32_succ, stp]
  · unfold f10_wordForward_b28
    simp only [h3, h5, i32_le (show n < 2147483648 by omega) (show p < 2147483648 by omega)]
    by_cases hq : n ≤ p
    · rw [if_pos hq]
    · have hP : isWd (f p) = false := by simpa using hP (by omega)
      simp only [if_neg hq, okr_s.mpr h6, Nat.add_sub_cancel, h7, inb_n (show p < 3000 by omega) (by omega), gd_true, ofNat_clamp (show p < 2147483648 by omega), hL p (by omega), c11_isOfWord, bnd_some, ite_tz, hP, Bool.false_eq_true, if_false]
  · have hP : isWd (f p) = false := hP
    unfold f10_wordForward_b2
    simp only [h3, h5, i32_le (show n < 2147483648 by omega) (show p < 2147483648 by omega), if_neg (show ¬ n ≤ p by omega), okr_s.mpr h6, Nat.add_sub_cancel, h7, inb_n (show p < 3000 by omega) (by omega), gd_true, ofNat_clamp (show p < 2147483648 by omega), hL p hp, c11_isOfWord, bnd_some, ite_tz, hP, Bool.false_eq_true, if_false, i32_succ, stp]
  · unfold f10_wordForward_b2
    simp only [h3, h5, i32_le (show n < 2147483648 by omega) (show p < 2147483648 by omega)]
    by_cases hq : n ≤ p
    · rw [if_pos hq]
    · have hP : isWd (f p) = true := hP (by omega)
      simp only [if_neg hq, okr_s.mpr h6, Nat.add_sub_cancel, h7, inb_n (show p < 3000 by omega) (by omega), gd_true, ofNat_clamp (show p < 2147483648 by omega), hL p (by omega), c11_isOfWord, bnd_some, ite_tz, hP, if_true]

theorem i32_pred {a : Nat} : Int32.ofNat (a + 1) - 1 = Int32.ofNat a ∧ Int32.ofNat (a + 1) + -1 = Int32.ofNat a := by
  rw [← i32_succ]
  constructor <;> grind

theorem i32_le0 {a : Nat} (h : a < 2147483648) : Int32.ofNat a ≤ 0 ↔ a = 0 := by
  have := i32_le (a := a) (b := 0) h (by omega)
  rw [show (0 : Int32) = Int32.ofNat 0 from rfl, this]
  omega

theorem c10_wordBack (h : CT σ 1 L B f n) {p : Nat} {x : Int32} (hx : x = Int32.ofNat p) (hp : p ≤ n) : f10_wordBack σ 1 x = some (Int32.ofNat (wdB f p)) := by
  subst hx
  obtain ⟨hn, -, h3, -, ⟨h5, h6, h7⟩, -, hL, -⟩ := h
  have a1 := skB_le (P := fun q => isWd (f q)) p
  unfold f10_wordBack f10_wordBack_j2 f10_wordBack_j26 f10_wordBack_j50
  simp only [stp]
  rw [loop_B (P := fun q => isWd (f q)) hn (fun p hp hP => ?_) (fun p hp hP => ?_) hp, bnd_some, loop_B (P := fun q => !isWd (f q)) hn (fun p hp hP => ?_) (fun p hp hP => ?_) (by omega), bnd_some]
  · rfl
  · have hP : isWd (f p) = true := by simpa using hP
    unfold f10_wordBack_b26
    simp only [h5, i32_le0 (show p + 1 < 2147483648 by omega), if_neg (show ¬ p + 1 = 0 by omega), okr_s.mpr h6, Nat.add_sub_cancel, h7, i32_pred.1, i32_pred.2, inb_n (show p < 3000 by omega) (by omega), gd_true, ofNat_clamp (show p < 2147483648 by omega), hL p hp, c11_isOfWord, bnd_some, ite_tz, hP, if_true, stp]
  · unfold f10_wordBack_b26
    cases p with
    | zero => rw [if_pos (by decide)]
    | succ p =>
      have hP : isWd (f p) = false := by simpa using hP p rfl
      simp only [h5, i32_le0 (show p + 1 < 2147483648 by omega), if_neg (show ¬ p + 1 = 0 by omega), okr_s.mpr h6, Nat.add_sub_cancel, h7, i32_pred.1, inb_n (show p < 3000 by omega) (by omega), gd_true, ofNat_clamp (show p < 2147483648 by omega), hL p (by omega), c11_isOfWord, bnd_some, ite_tz, hP, Bool.false_eq_true, if_false]
  · have hP : isWd (f p) = false := hP
    unfold f10_wordBack_b2
    simp only [h5, i32_le0 (show p + 1 < 2147483648 by omega), if_neg (show ¬ p + 1 = 0 by omega), okr_s.mpr h6, Nat.add_sub_cancel, h7, i32_pred.1, i32_pred.2, inb_n (show p < 3000 by omega) (by omega), gd_true, ofNat_clamp (show p < 2147483648 by omega), hL p hp, c11_isOfWord, bnd_some, ite_tz, hP, Bool.false_eq_true, if_false, stp]
  · unfold f10_wordBack_b2
    cases p with
    | zero => rw [if_pos (by decide)]
    | succ p =>
      have hP : isWd (f p) = true := hP p rfl
      simp only [h5, i32_le0 (show p + 1 < 2147483648 by omega), if_neg (show ¬ p + 1 = 0 by omega), okr_s.mpr h6, Nat.add_sub_cancel, h7, i32_pred.1, inb_n (show p < 3000 by omega) (by omega), gd_true, ofNat_clamp (show p < 2147483648 by omega), hL p (by omega), c11_isOfWord, bnd_some, ite_tz, hP, if_true]

theorem in_at {p n : Nat} (hn : n ≤ 3000) (hp : p ≤ 3000) : decide (0 ≤ Int32.ofNat p ∧ Int32.ofNat p ≤ Int32.ofNat n - 1) = decide (p < n) := by
  have e1 : (0 : Int32) ≤ Int32.ofNat p := (i32_le (a := 0) (b := p) (by omega) (by omega)).mpr (Nat.zero_le _)
  by_cases h : p < n
  · obtain ⟨k, rfl⟩ : ∃ k, n = k + 1 := ⟨n - 1, by omega⟩
    rw [i32_pred.1, decide_eq_true h, decide_eq_true ⟨e1, (i32_le (by omega) (by omega)).mpr (by omega)⟩]
  · rw [decide_eq_false h, decide_eq_false]
    rintro ⟨-, h2⟩
    cases n with
    | zero =>
      have h3 : Int32.ofNat p ≤ -1 := h2
      exact absurd (Int32.le_trans e1 h3) (by decide)
    | succ k =>
      rw [i32_pred.1, i32_le (by omega) (by omega)] at h2
      omega

theorem c12_wordF (h : MT μ f n) {p : Nat} {x y : Int32} (hx : x = Int32.ofNat p) (hp : p ≤ n) (hy : ¬ y = 0) : f12_wordFrom μ x y = some (Int32.ofNat (wdF f n p)) := by
  subst hx
  obtain ⟨hn, h3, hL⟩ := h
  have a1 := skF_le (P := fun q => isWd (f q)) (n - p) p
  rw [f12_wordFrom, stp, if_neg hy, f12_wordFrom_j11, stp, if_neg hy, f12_wordFrom_j22, stp, f12_wordFrom_j24]
  rw [loop_F (P := fun q => isWd (f q)) hn (fun p hp hP => ?_) (fun p hp hP => ?_) hp, bnd_some, f12_wordFrom_j64, loop_F (P := fun q => !isWd (f q)) hn (fun p hp hP => ?_) (fun p hp hP => ?_) (by omega), bnd_some]
  · rfl
  · have hP : isWd (f p) = true := by simpa using hP
    unfold f12_wordFrom_b64
    simp only [h3, Int32.add_zero, c12_in, in_at hn (show p ≤ 3000 by omega), bnd_some, ite_tz, decide_eq_true_eq, if_pos hp, inb_n (show p < 3000 by omega) (by omega), gd_true, ofNat_clamp (show p < 2147483648 by omega), hL p hp, c12_isOfWord, hP, if_true, i32_succ, stp]
  · unfold f12_wordFrom_b64
    simp only [h3, Int32.add_zero, c12_in, in_at hn (show p ≤ 3000 by omega), bnd_some, ite_tz, decide_eq_true_eq]
    by_cases hq : p < n
    · have hP : isWd (f p) = false := by simpa using hP hq
      simp only [if_pos hq, inb_n (show p < 3000 by omega) (by omega), gd_true, ofNat_clamp (show p < 2147483648 by omega), hL p hq, c12_isOfWord, bnd_some, ite_tz, hP, Bool.false_eq_true, if_false]
    · rw [if_neg hq]
  · have hP : isWd (f p) = false := hP
    unfold f12_wordFrom_b24
    simp only [h3, Int32.add_zero, c12_in, in_at hn (show p ≤ 3000 by omega), bnd_some, ite_tz, decide_eq_true_eq, if_pos hp, inb_n (show p < 3000 by omega) (by omega), gd_true, ofNat_clamp (show p < 2147483648 by omega), hL p hp, c12_isOfWord, hP, Bool.false_eq_true, if_false, i32_succ, stp]
  · unfold f12_wordFrom_b24
    simp only [h3, Int32.add_zero, c12_in, in_at hn (show p ≤ 3000 by omega), bnd_some, ite_tz, decide_eq_true_eq]
    by_cases hq : p < n
    · have hP : isWd (f p) = true := hP hq
      simp only [if_pos hq, inb_n (show p < 3000 by omega) (by omega), gd_true, ofNat_clamp (show p < 2147483648 by omega), hL p hq, c12_isOfWord, bnd_some, ite_tz, hP, if_true]
    · rw [if_neg hq]

theorem c12_wordB (h : MT μ f n) {p : Nat} {x : Int32} (hx : x = Int32.ofNat p) (hp : p ≤ n) : f12_wordFrom μ x 0 = some (Int32.ofNat (wdB f p)) := by
  subst hx
  obtain ⟨hn, h3, hL⟩ := h
  have a1 := skB_le (P := fun q => isWd (f q)) p
  have e0 : ¬ (0 ≤ Int32.ofNat 0 + -1 ∧ Int32.ofNat 0 + -1 ≤ Int32.ofNat n - 1) := fun z => absurd z.1 (by decide)
  rw [f12_wordFrom, stp, if_pos rfl, f12_wordFrom_j11, stp, if_pos rfl, f12_wordFrom_j22, stp, f12_wordFrom_j24]
  rw [loop_B (P := fun q => isWd (f q)) hn (fun p hp hP => ?_) (fun p hp hP => ?_) hp, bnd_some, f12_wordFrom_j64, loop_B (P := fun q => !isWd (f q)) hn (fun p hp hP => ?_) (fun p hp hP => ?_) (by omega), bnd_some]
  · rfl
  · have hP : isWd (f p) = true := by simpa using hP
    unfold f12_wordFrom_b64
    simp only [h3, i32_pred.2, c12_in, in_at hn (show p ≤ 3000 by omega), bnd_some, ite_tz, decide_eq_true_eq, if_pos hp, inb_n (show p < 3000 by omega) (by omega), gd_true, ofNat_clamp (show p < 2147483648 by omega), hL p hp, c12_isOfWord, hP, if_true, stp]
  · unfold f12_wordFrom_b64
    cases p with
    | zero => simp only [h3, c12_in, bnd_some, ite_tz, decide_eq_true_eq, if_neg e0]
    | succ p =>
      have hP : isWd (f p) = false := by simpa using hP p rfl
      simp only [h3, i32_pred.2, c12_in, in_at hn (show p ≤ 3000 by omega), bnd_some, ite_tz, decide_eq_true_eq, if_pos (show p < n by omega), inb_n (show p < 3000 by omega) (by omega), gd_true, ofNat_clamp (show p < 2147483648 by omega), hL p (by omega), c12_isOfWord, hP, Bool.false_eq_true, if_false]
  · have hP : isWd (f p) = false := hP
    unfold f12_wordFrom_b24
    simp only [h3, i32_pred.2, c12_in, in_at hn (show p ≤ 3000 by omega), bnd_some, ite_tz, decide_eq_true_eq, if_pos hp, inb_n (show p < 3000 by omega) (by omega), gd_true, ofNat_clamp (show p < 2147483648 by omega), hL p hp, c12_isOfWord, hP, Bool.false_eq_true, if_false, stp]
  · unfold f12_wordFrom_b24
    cases p with
    | zero => simp only [h3, c12_in, bnd_some, ite_tz, decide_eq_true_eq, if_neg e0]
    | succ p =>
      have hP : isWd (f p) = true := hP p rfl
      simp only [h3, i32_pred.2, c12_in, in_at hn (show p ≤ 3000 by omega), bnd_some, ite_tz, decide_eq_true_eq, if_pos (show p < n by omega), inb_n (show p < 3000 by omega) (by omega), gd_true, ofNat_clamp (show p < 2147483648 by omega), hL p (by omega), c12_isOfWord, hP, if_true]

/-- many times over -/

def itN (g : Nat → Nat) : Nat → Nat → Nat
  | 0, p => p
  | k + 1, p => g (itN g k p)

theorem c10_overWordsF (h : CT σ 1 L B f n) {p m : Nat} {x y : Int32} (hx : x = Int32.ofNat p) (hp : p ≤ n) (hy : y = Int32.ofNat m) (hm : m ≤ 50) : f10_overWords σ 1 x y = some (Int32.ofNat (itN (wdF f n) m p)) := by
  subst hx hy
  have hle : ∀ k, itN (wdF f n) k p ≤ n := by
    intro k
    induction k with
    | zero => exact hp
    | succ k ih => exact wdF_le ih
  have k1 : loopF (fun s_5 => f10_overWords_b5 1 (Int32.ofNat p) (Int32.ofNat m) σ s_5.1 s_5.2) FU (Int32.ofNat p, 0) = some (Int32.ofNat (itN (wdF f n) m p)) := by
    apply Ok_eq
    refine Ok_count m (fun k z => z = (Int32.ofNat (itN (wdF f n) k p), Int32.ofNat k)) ?_ 0 rfl (by omega) (by (show _ < FU; unfold FU; omega))
    rintro k z hk rfl
    unfold f10_overWords_b5
    simp only [i32_le (show m < 2147483648 by omega) (show k < 2147483648 by omega), i32_succ]
    by_cases hq : m ≤ k
    · rw [if_pos hq, Ok_some, lp_inr, show k = m by omega]
    · rw [if_neg hq, c10_wordForward h rfl (hle k), bnd_some]
      simp only [stp, Ok_some, lp_inl]
      exact ⟨by omega, rfl⟩
  have k2 : loopF (fun s_26 => f10_overWords_b26 1 (Int32.ofNat p) (Int32.ofNat m) σ s_26.1 s_26.2) FU (Int32.ofNat (itN (wdF f n) m p), 0) = some (Int32.ofNat (itN (wdF f n) m p)) := by
    apply loop_done
    unfold f10_overWords_b26
    rw [if_pos (show (0 : Int32) ≤ Int32.ofNat m by have := i32_le (a := 0) (b := m) (by omega) (by omega); exact this.mpr (by omega))]
  unfold f10_overWords f10_overWords_j5 f10_overWords_j26
  simp only [stp]
  rw [k1, bnd_some, k2, bnd_some]

theorem c10_overWordsB (h : CT σ 1 L B f n) {p m : Nat} {x y : Int32} (hx : x = Int32.ofNat p) (hp : p ≤ n) (hy : y = Int32.ofInt (-(m : Int))) (hm : m ≤ 50) : f10_overWords σ 1 x y = some (Int32.ofNat (itN (wdB f) m p)) := by
  subst hx hy
  have hle : ∀ k, itN (wdB f) k p ≤ n := by
    intro k
    induction k with
    | zero => exact hp
    | succ k ih => exact Nat.le_trans wdB_le ih
  have e0 : ∀ k : Nat, k ≤ 50 → (Int32.ofInt (-(k : Int)) ≤ Int32.ofInt (-(m : Int)) ↔ m ≤ k) := by
    intro k hk
    rw [Int32.le_iff_toInt_le, Int32.toInt_ofInt_of_le (by omega) (by omega), Int32.toInt_ofInt_of_le (by omega) (by omega)]
    omega
  have k1 : loopF (fun s_5 => f10_overWords_b5 1 (Int32.ofNat p) (Int32.ofInt (-(m : Int))) σ s_5.1 s_5.2) FU (Int32.ofNat p, 0) = some (Int32.ofNat p) := by
    apply loop_done
    unfold f10_overWords_b5
    rw [if_pos (show Int32.ofInt (-(m : Int)) ≤ 0 by
      rw [Int32.le_iff_toInt_le, Int32.toInt_ofInt_of_le (by omega) (by omega)]
      show -(m : Int) ≤ 0
      omega)]
  have k2 : loopF (fun s_26 => f10_overWords_b26 1 (Int32.ofNat p) (Int32.ofInt (-(m : Int))) σ s_26.1 s_26.2) FU (Int32.ofNat p, 0) = some (Int32.ofNat (itN (wdB f) m p)) := by
    apply Ok_eq
    refine Ok_count m (fun k z => z = (Int32.ofNat (itN (wdB f) k p), Int32.ofInt (-(k : Int)))) ?_ 0 rfl (by omega) (by (show _ < FU; unfold FU; omega))
    rintro k z hk rfl
    have e1 : Int32.ofInt (-(k : Int)) + -1 = Int32.ofInt (-((k + 1 : Nat) : Int)) := by
      rw [show ((-1 : Int32)) = Int32.ofInt (-1) from rfl, ← Int32.ofInt_add]
      congr 1
      omega
    unfold f10_overWords_b26
    simp only [e0 k (by omega), e1]
    by_cases hq : m ≤ k
    · rw [if_pos hq, Ok_some, lp_inr, show k = m by omega]
    · rw [if_neg hq, c10_wordBack h rfl (hle k), bnd_some]
      simp only [stp, Ok_some, lp_inl]
      exact ⟨by omega, rfl⟩
  unfold f10_overWords f10_overWords_j5 f10_overWords_j26
  simp only [stp]
  rw [k1, bnd_some, k2, bnd_some]

end R
