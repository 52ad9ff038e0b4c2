/-! cursors over lines -/
theorem cw_lt {t : Nat} {f : Nat → Int32} {b : Nat} (ht : 1 ≤ t) (i : Nat) : cw t f b i < cw t f b (i + 1) := by
  rw [cw]
  split
  · have h1 := Nat.div_add_mod (cw t f b i) t
    have h2 := Nat.mod_lt (cw t f b i) (show t > 0 by omega)
    rw [Nat.add_mul, Nat.one_mul, Nat.mul_comm]
    omega
  · omega
theorem cw_mono {t : Nat} {f : Nat → Int32} {b : Nat} (ht : 1 ≤ t) {i j : Nat} (h : i < j) : cw t f b i < cw t f b j := by
  induction h with
  | refl => exact cw_lt ht i
  | step _ ih => exact Nat.lt_trans ih (cw_lt ht _)
theorem isPl.self {t : Nat} {f : Nat → Int32} {b e p : Nat} (ht : 1 ≤ t) (h1 : b ≤ p) (h2 : p ≤ e) : isPl t f b e (cw t f b (p - b)) p := ⟨h1, h2, Or.inr (Nat.le_refl _), fun i hi => cw_mono ht (by omega)⟩
/-- lines that are not hidden, so many on -/
def vF (h : Nat → Int32) : Nat → Nat → Nat → Nat → Nat
  | 0, _, l, _ => l
  | d + 1, c, l, k => if c = 0 then l else if h k = 0 then vF h d (c - 1) k (k + 1) else vF h d c l (k + 1)
def vB (h : Nat → Int32) : Nat → Nat → Nat → Nat
  | 0, _, l => l
  | k + 1, c, l => if c = 0 then l else if h k = 0 then vB h k (c - 1) k else vB h k c l
theorem vF_le {h : Nat → Int32} : ∀ d c l k, vF h d c l k = l ∨ vF h d c l k < k + d := by
  intro d
  induction d with
  | zero => intro c l k; exact Or.inl rfl
  | succ d ih =>
    intro c l k
    rw [vF]
    split
    · exact Or.inl rfl
    · split
      · have := ih (c - 1) k (k + 1)
        omega
      · have := ih c l (k + 1)
        omega
theorem vB_le {h : Nat → Int32} : ∀ k c l, vB h k c l = l ∨ vB h k c l < k := by
  intro k
  induction k with
  | zero => intro c l; exact Or.inl rfl
  | succ k ih =>
    intro c l
    rw [vB]
    split
    · exact Or.inl rfl
    · split
      · have := ih (c - 1) k
        omega
      · have := ih c l
        omega
theorem i32_lt0 {a : Nat} (h : a < 2147483648) : ¬ Int32.ofNat a < 0 := by
  have := i32n_lt (a := a) (b := 0) h (by omega)
  rw [show (0 : Int32) = Int32.ofNat 0 from rfl, this]
  omega
theorem i32_p0 {a : Nat} (h : a < 2147483648) : Int32.ofNat a - 1 < 0 ↔ a = 0 := by
  cases a with
  | zero => exact ⟨fun _ => rfl, fun _ => by decide⟩
  | succ a =>
    rw [i32_pred.1]
    have := i32_lt0 (show a < 2147483648 by omega)
    exact ⟨fun z => absurd z this, fun z => by omega⟩
theorem i32_dec {a : Nat} : Int32.ofNat a + (-1) = Int32.ofNat a - 1 := by grind
theorem at_in {p n : Nat} (hn : 1 ≤ n) (hn2 : n ≤ 3000) (hp : p ≤ 3000) : decide (0 ≤ Int32.ofNat p - 1 ∧ Int32.ofNat p - 1 ≤ Int32.ofNat n - 1) = decide (1 ≤ p ∧ p ≤ n) := by
  cases p with
  | zero =>
    rw [decide_eq_false, decide_eq_false (by omega)]
    rintro ⟨h, -⟩
    exact absurd h (by decide)
  | succ p =>
    rw [i32_pred.1, in_at hn2 (by omega)]
    have : p < n ↔ 1 ≤ p + 1 ∧ p + 1 ≤ n := by omega
    simp only [this]
section R
variable {σ μ : Sto} {o : Int64} {L B H : Nat} {f : Nat → Int32} {n c : Nat} {hd : Nat → Int32} {cu : Nat → Nat} {ma lf ml : Nat → Int32}
theorem c10_walkF (h : CT σ 1 L B f n) (hH : fR σ 1 3 = H + 1 ∧ kc H = 14 ∧ ln H = 300) (hh : ∀ j, j ≤ ends f n → aI σ H j = hd j) {x y z : Int32} {c l k : Nat} (hc : c ≤ 50) (hk : k ≤ ends f n + 1) : loopF (fun s_35 => f10_overLines_b35 1 x y z σ 1 s_35.1 s_35.2.1 s_35.2.2) FU (Int32.ofNat c, Int32.ofNat l, Int32.ofNat k) = some (Int32.ofNat (vF hd (ends f n + 1 - k) c l k)) := by
  obtain ⟨hn, h2, h3, h4, -⟩ := h
  apply Ok_eq
  refine Ok_count (ends f n + 1 - k) (fun i s => ∃ c' l', s = (Int32.ofNat c', Int32.ofNat l', Int32.ofNat (k + i)) ∧ c' ≤ 50 ∧ vF hd (ends f n + 1 - k) c l k = vF hd (ends f n + 1 - (k + i)) c' l' (k + i)) ?_ 0 ⟨c, l, rfl, hc, rfl⟩ (by omega) (by (show _ < FU; unfold FU; omega))
  rintro i s hi ⟨c', l', rfl, hc', e⟩
  unfold f10_overLines_b35 f10_overLines_j71
  simp only [i32_le0 (show c' < 2147483648 by omega), if_neg (i32_lt0 (show k + i < 2147483648 by omega)), h4, i32_le (show ends f n + 1 < 2147483648 by omega) (show k + i < 2147483648 by omega)]
  by_cases hq : ends f n + 1 ≤ k + i
  · rw [show ends f n + 1 - (k + i) = 0 by omega, vF] at e
    simp only [if_pos hq, ite_self]
    rw [Ok_some, lp_inr, e]
  · rw [show ends f n + 1 - (k + i) = (ends f n + 1 - (k + (i + 1))) + 1 by omega, vF] at e
    simp only [if_neg hq]
    by_cases hc0 : c' = 0
    · rw [if_pos hc0] at e
      rw [if_pos hc0, Ok_some, lp_inr, e]
    · rw [if_neg hc0] at e
      simp only [if_neg hc0, hH.1, okr_s.mpr hH.2.1, Nat.add_sub_cancel, hH.2.2, inb_n (show k + i < 300 by omega) (by omega), gd_true, ofNat_clamp (show k + i < 2147483648 by omega), hh (k + i) (by omega), stp, i32_succ]
      by_cases h0 : hd (k + i) = 0
      · rw [if_pos h0] at e
        obtain ⟨c'', rfl⟩ : ∃ c'', c' = c'' + 1 := ⟨c' - 1, by omega⟩
        rw [if_pos h0, Ok_some, lp_inl, i32_pred.2]
        exact ⟨by omega, c'', k + i, rfl, by omega, e⟩
      · rw [if_neg h0] at e
        rw [if_neg h0, Ok_some, lp_inl]
        exact ⟨by omega, c', l', rfl, hc', e⟩
theorem c10_walkB (h : CT σ 1 L B f n) (hH : fR σ 1 3 = H + 1 ∧ kc H = 14 ∧ ln H = 300) (hh : ∀ j, j ≤ ends f n → aI σ H j = hd j) {x y z : Int32} {c l k : Nat} (hc : c ≤ 50) (hk : k ≤ ends f n + 1) : loopF (fun s_35 => f10_overLines_b35 1 x y z σ (-1) s_35.1 s_35.2.1 s_35.2.2) FU (Int32.ofNat c, Int32.ofNat l, Int32.ofNat k - 1) = some (Int32.ofNat (vB hd k c l)) := by
  obtain ⟨hn, h2, h3, h4, -⟩ := h
  apply Ok_eq
  refine Ok_count k (fun i s => ∃ c' l', s = (Int32.ofNat c', Int32.ofNat l', Int32.ofNat (k - i) - 1) ∧ c' ≤ 50 ∧ vB hd k c l = vB hd (k - i) c' l') ?_ 0 ⟨c, l, rfl, hc, rfl⟩ (by omega) (by (show _ < FU; unfold FU; omega))
  rintro i s hi ⟨c', l', rfl, hc', e⟩
  unfold f10_overLines_b35 f10_overLines_j71
  simp only [i32_le0 (show c' < 2147483648 by omega), i32_p0 (show k - i < 2147483648 by omega), h4]
  by_cases hq : k - i = 0
  · rw [hq, vB] at e
    simp only [if_pos hq, ite_self]
    rw [Ok_some, lp_inr, e]
  · obtain ⟨j, hj⟩ : ∃ j, k - i = j + 1 := ⟨k - i - 1, by omega⟩
    rw [hj, vB] at e
    simp only [hj, if_neg (show ¬ j + 1 = 0 by omega), i32_pred.1, i32_le (show ends f n + 1 < 2147483648 by omega) (show j < 2147483648 by omega), if_neg (show ¬ ends f n + 1 ≤ j by omega)]
    by_cases hc0 : c' = 0
    · rw [if_pos hc0] at e
      rw [if_pos hc0, Ok_some, lp_inr, e]
    · rw [if_neg hc0] at e
      simp only [if_neg hc0, hH.1, okr_s.mpr hH.2.1, Nat.add_sub_cancel, hH.2.2, inb_n (show j < 300 by omega) (by omega), gd_true, ofNat_clamp (show j < 2147483648 by omega), hh j (by omega), stp]
      by_cases h0 : hd j = 0
      · rw [if_pos h0] at e
        obtain ⟨c'', rfl⟩ : ∃ c'', c' = c'' + 1 := ⟨c' - 1, by omega⟩
        rw [if_pos h0, Ok_some, lp_inl, i32_pred.2, i32_dec]
        refine ⟨by omega, c'', j, ?_, by omega, ?_⟩
        · rw [show k - (i + 1) = j by omega]
        · rw [show k - (i + 1) = j by omega]; exact e
      · rw [if_neg h0] at e
        rw [if_neg h0, Ok_some, lp_inl, i32_dec]
        refine ⟨by omega, c', l', ?_, hc', ?_⟩
        · rw [show k - (i + 1) = j by omega]
        · rw [show k - (i + 1) = j by omega]; exact e
theorem c12_walkF (hE : ends f n < 300) (hh : ∀ j, j < 301 → aI μ 2022 j = if j ≤ ends f n then hd j else 0) {x y : Int32} {c l k : Nat} (hc : c ≤ 50) (hk : k ≤ ends f n + 1) : loopF (fun s_37 => f12_visibleFrom_b37 x y μ s_37.1 s_37.2.1 1 (Int32.ofNat (ends f n + 1)) s_37.2.2) FU (Int32.ofNat l, Int32.ofNat c, Int32.ofNat k) = some (Int32.ofNat (vF hd (ends f n + 1 - k) c l k)) := by
  apply Ok_eq
  refine Ok_count (ends f n + 1 - k) (fun i s => ∃ c' l', s = (Int32.ofNat l', Int32.ofNat c', Int32.ofNat (k + i)) ∧ c' ≤ 50 ∧ vF hd (ends f n + 1 - k) c l k = vF hd (ends f n + 1 - (k + i)) c' l' (k + i)) ?_ 0 ⟨c, l, rfl, hc, rfl⟩ (by omega) (by (show _ < FU; unfold FU; omega))
  rintro i s hi ⟨c', l', rfl, hc', e⟩
  unfold f12_visibleFrom_b37 f12_visibleFrom_j71
  simp only [i32_le0 (show c' < 2147483648 by omega), c12_in, in_at (show ends f n + 1 ≤ 3000 by omega) (show k + i ≤ 3000 by omega), bnd_some, ite_tz, decide_eq_true_eq]
  by_cases hq : ends f n + 1 ≤ k + i
  · rw [show ends f n + 1 - (k + i) = 0 by omega, vF] at e
    simp only [if_neg (show ¬ k + i < ends f n + 1 by omega), ite_self]
    rw [Ok_some, lp_inr, e]
  · rw [show ends f n + 1 - (k + i) = (ends f n + 1 - (k + (i + 1))) + 1 by omega, vF] at e
    simp only [if_pos (show k + i < ends f n + 1 by omega)]
    by_cases hc0 : c' = 0
    · rw [if_pos hc0] at e
      rw [if_pos hc0, Ok_some, lp_inr, e]
    · rw [if_neg hc0] at e
      simp only [if_neg hc0, inb_n (show k + i < 301 by omega) (by omega), gd_true, ofNat_clamp (show k + i < 2147483648 by omega), hh (k + i) (by omega), if_pos (show k + i ≤ ends f n by omega), stp, i32_succ]
      by_cases h0 : hd (k + i) = 0
      · rw [if_pos h0] at e
        obtain ⟨c'', rfl⟩ : ∃ c'', c' = c'' + 1 := ⟨c' - 1, by omega⟩
        rw [if_pos h0, Ok_some, lp_inl, i32_pred.2]
        exact ⟨by omega, c'', k + i, rfl, by omega, e⟩
      · rw [if_neg h0] at e
        rw [if_neg h0, Ok_some, lp_inl]
        exact ⟨by omega, c', l', rfl, hc', e⟩
theorem c12_walkB (hE : ends f n < 300) (hh : ∀ j, j < 301 → aI μ 2022 j = if j ≤ ends f n then hd j else 0) {x y : Int32} {c l k : Nat} (hc : c ≤ 50) (hk : k ≤ ends f n + 1) : loopF (fun s_37 => f12_visibleFrom_b37 x y μ s_37.1 s_37.2.1 (-1) (Int32.ofNat (ends f n + 1)) s_37.2.2) FU (Int32.ofNat l, Int32.ofNat c, Int32.ofNat k - 1) = some (Int32.ofNat (vB hd k c l)) := by
  apply Ok_eq
  refine Ok_count k (fun i s => ∃ c' l', s = (Int32.ofNat l', Int32.ofNat c', Int32.ofNat (k - i) - 1) ∧ c' ≤ 50 ∧ vB hd k c l = vB hd (k - i) c' l') ?_ 0 ⟨c, l, rfl, hc, rfl⟩ (by omega) (by (show _ < FU; unfold FU; omega))
  rintro i s hi ⟨c', l', rfl, hc', e⟩
  unfold f12_visibleFrom_b37 f12_visibleFrom_j71
  simp only [i32_le0 (show c' < 2147483648 by omega), c12_in, at_in (show 1 ≤ ends f n + 1 by omega) (show ends f n + 1 ≤ 3000 by omega) (show k - i ≤ 3000 by omega), bnd_some, ite_tz, decide_eq_true_eq]
  by_cases hq : k - i = 0
  · rw [hq, vB] at e
    simp only [if_neg (show ¬ (1 ≤ k - i ∧ k - i ≤ ends f n + 1) by omega), ite_self]
    rw [Ok_some, lp_inr, e]
  · obtain ⟨j, hj⟩ : ∃ j, k - i = j + 1 := ⟨k - i - 1, by omega⟩
    rw [hj, vB] at e
    simp only [hj, if_pos (show (1 ≤ j + 1 ∧ j + 1 ≤ ends f n + 1) by omega), i32_pred.1]
    by_cases hc0 : c' = 0
    · rw [if_pos hc0] at e
      rw [if_pos hc0, Ok_some, lp_inr, e]
    · rw [if_neg hc0] at e
      simp only [if_neg hc0, inb_n (show j < 301 by omega) (by omega), gd_true, ofNat_clamp (show j < 2147483648 by omega), hh j (by omega), if_pos (show j ≤ ends f n by omega), stp]
      by_cases h0 : hd j = 0
      · rw [if_pos h0] at e
        obtain ⟨c'', rfl⟩ : ∃ c'', c' = c'' + 1 := ⟨c' - 1, by omega⟩
        rw [if_pos h0, Ok_some, lp_inl, i32_pred.2, i32_dec]
        refine ⟨by omega, c'', j, ?_, by omega, ?_⟩
        · rw [show k - (i + 1) = j by omega]
        · rw [show k - (i + 1) = j by omega]; exact e
      · rw [if_neg h0] at e
        rw [if_neg h0, Ok_some, lp_inl, i32_dec]
        refine ⟨by omega, c', l', ?_, hc', ?_⟩
        · rw [show k - (i + 1) = j by omega]
        · rw [show k - (i + 1) = j by omega]; exact e
/-- a number of steps: so many on, or so many back -/
def mvN (x : Int32) (m : Nat) : Prop := m ≤ 50 ∧ ((0 ≤ x ∧ x = Int32.ofNat m) ∨ (¬ 0 ≤ x ∧ 1 ≤ m ∧ x = Int32.ofInt (-(m : Int)) ∧ -x = Int32.ofNat m ∧ 0 - x = Int32.ofNat m))
theorem mvN.ex {x : Int32} (h1 : -50 ≤ x) (h2 : x ≤ 50) : ∃ m, mvN x m := by
  by_cases h : 0 ≤ x
  · exact ⟨x.toNatClampNeg, by grind, Or.inl ⟨h, by grind⟩⟩
  · have e : x = Int32.ofInt x.toInt := (Int32.ofInt_toInt x).symm
    have h3 : x.toInt < 0 := by
      rw [Int32.le_iff_toInt_le] at h
      exact Int.not_le.mp h
    have h4 : -50 ≤ x.toInt := by
      rw [Int32.le_iff_toInt_le] at h1
      exact h1
    refine ⟨(-x.toInt).toNat, by omega, Or.inr ⟨h, by omega, ?_, by grind, by grind⟩⟩
    rw [show -(((-x.toInt).toNat : Nat) : Int) = x.toInt by omega]
    exact e
/-- the line so many lines on that are not hidden -/
def vL (h : Nat → Int32) (E : Nat) (x : Int32) (m l : Nat) : Nat := if 0 ≤ x then vF h (E - (l + 1)) m l (l + 1) else vB h l m l
theorem vL_le {h : Nat → Int32} {E : Nat} {x : Int32} {m l : Nat} (hl : l < E) : vL h E x m l < E := by
  unfold vL
  split
  · have := vF_le (h := h) (E - (l + 1)) m l (l + 1)
    omega
  · have := vB_le (h := h) l m l
    omega
theorem c10_overLines (h : CT σ 1 L B f n) (hH : fR σ 1 3 = H + 1 ∧ kc H = 14 ∧ ln H = 300) (hh : ∀ j, j ≤ ends f n → aI σ H j = hd j) {t : Nat} (h1 : 1 ≤ t) (h8 : t ≤ 8) {x y z : Int32} {p m : Nat} (hx : x = Int32.ofNat p) (hp : p ≤ n) (hy : mvN y m) (hz : z = Int32.ofNat t) {b b' e q : Nat} (hb : isBg f (ends f p) b) (hb' : isBg f (vL hd (ends f n + 1) y m (ends f p)) b') (he : isEn f n (vL hd (ends f n + 1) y m (ends f p)) e) (hq : isPl t f b' e (cw t f b (p - b)) q) : f10_overLines σ 1 x y z = some (Int32.ofNat q) := by
  have hE := ends_mono (f := f) hp
  have hv := vL_le (h := hd) (E := ends f n + 1) (x := y) (m := m) (l := ends f p) (by omega)
  have hcw := cw_le (f := f) (b := b) h1 h8 (p - b)
  have hn := h.1
  subst hx hz
  have k1 : f10_overLines_j81 1 (Int32.ofNat p) y (Int32.ofNat t) σ (Int32.ofNat (vL hd (ends f n + 1) y m (ends f p))) = some (Int32.ofNat q) := by
    unfold f10_overLines_j81
    rw [c8_columnWith h h1 h8 rfl rfl hp hb, bnd_some, c8_placeWith h h1 h8 rfl (by omega) rfl (by omega) rfl hb' he hq, bnd_some]
  obtain ⟨hm, hy⟩ := hy
  unfold f10_overLines
  rcases hy with ⟨hy, ye⟩ | ⟨hy, hm1, ye, yn, y0⟩
  · rw [if_pos hy, f10_overLines_j9, stp, stp, c8_lineWith h rfl hp, bnd_some, stp, stp, stp, f10_overLines_j35, iabs, if_pos hy, i32_succ]
    rw [ye, c10_walkF h hH hh hm (by omega), bnd_some, ← ye]
    unfold vL at k1
    rw [if_pos hy] at k1
    exact k1
  · rw [if_neg hy, f10_overLines_j9, stp, stp, c8_lineWith h rfl hp, bnd_some, stp, stp, stp, f10_overLines_j35, iabs, if_neg hy, i32_dec, y0]
    rw [c10_walkB h hH hh hm (by omega), bnd_some]
    unfold vL at k1
    rw [if_neg hy] at k1
    exact k1
theorem c12_visibleFrom (h : MT μ f n) (hE : ends f n < 300) (hh : ∀ j, j < 301 → aI μ 2022 j = if j ≤ ends f n then hd j else 0) {x y : Int32} {l m : Nat} (hx : x = Int32.ofNat l) (hl : l ≤ ends f n) (hy : mvN y m) : f12_visibleFrom μ x y = some (Int32.ofNat (vL hd (ends f n + 1) y m l)) := by
  subst hx
  obtain ⟨hm, hy⟩ := hy
  unfold f12_visibleFrom
  rcases hy with ⟨hy, ye⟩ | ⟨hy, hm1, ye, yn, y0⟩
  · rw [stp, if_pos hy, f12_visibleFrom_j12, stp, if_pos hy, f12_visibleFrom_j23, stp, c12_lines h, bnd_some, stp, stp, f12_visibleFrom_j37, i32_succ]
    unfold vL
    rw [if_pos hy, ye, c12_walkF hE hh hm (by omega), bnd_some, f12_visibleFrom_j81]
  · rw [stp, if_neg hy, f12_visibleFrom_j12, stp, if_neg hy, f12_visibleFrom_j23, stp, c12_lines h, bnd_some, stp, stp, f12_visibleFrom_j37, i32_dec]
    unfold vL
    rw [if_neg hy, yn, c12_walkB hE hh hm (by omega), bnd_some, f12_visibleFrom_j81]
end R
