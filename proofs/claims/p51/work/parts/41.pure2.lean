/-! the reference's questions about its text -/
theorem c12_in {x a b : Int32} : f12_in x a b = some (tz (decide (a ≤ x ∧ x ≤ b))) := by
  apply Ok_eq
  unfold f12_in f12_in_j14 f12_in_j15 tz
  simp only [Ok_stp, Ok_bnd, Ok_some, Ok_none, Ok_ite, Ok_gd, inb_iff, isB_iff, lp_inl, lp_inr, Prod.mk.injEq]
  ((repeat' (first | apply And.intro | intro _)); all_goals grind)
theorem c12_less {x y : Int32} : f12_less x y = some (if x < y then x else y) := by
  apply Ok_eq
  unfold f12_less f12_less_j10
  simp only [Ok_stp, Ok_bnd, Ok_some, Ok_none, Ok_ite, Ok_gd, inb_iff, isB_iff, lp_inl, lp_inr, Prod.mk.injEq]
  ((repeat' (first | apply And.intro | intro _)); all_goals grind)
theorem c12_more {x y : Int32} : f12_more x y = some (if x < y then y else x) := by
  apply Ok_eq
  unfold f12_more f12_more_j10
  simp only [Ok_stp, Ok_bnd, Ok_some, Ok_none, Ok_ite, Ok_gd, inb_iff, isB_iff, lp_inl, lp_inr, Prod.mk.injEq]
  ((repeat' (first | apply And.intro | intro _)); all_goals grind)
def isLt (x : Int32) : Bool := x == 10 || x == 9 || (decide (32 ≤ x) && decide (x ≤ 126))
def isSp (x : Int32) : Bool := x == 32 || x == 9
def isWd (x : Int32) : Bool := (decide (97 ≤ x) && decide (x ≤ 122)) || (decide (65 ≤ x) && decide (x ≤ 90)) || (decide (48 ≤ x) && decide (x ≤ 57)) || x == 95
theorem c12_isLetter {x : Int32} : f12_isLetter x = some (tz (isLt x)) := by
  apply Ok_eq
  unfold f12_isLetter f12_isLetter_j23 f12_isLetter_j28 isLt
  simp only [c12_in]
  simp only [Ok_stp, Ok_bnd, Ok_some, Ok_none, Ok_ite, Ok_gd, inb_iff, isB_iff, lp_inl, lp_inr, Prod.mk.injEq]
  simp only [tz_0, tz]
  ((repeat' (first | apply And.intro | intro _)); all_goals grind)
theorem c12_isSpace {x : Int32} : f12_isSpace x = some (tz (isSp x)) := by
  apply Ok_eq
  unfold f12_isSpace f12_isSpace_j12 f12_isSpace_j17 isSp
  simp only [Ok_stp, Ok_bnd, Ok_some, Ok_none, Ok_ite, Ok_gd, inb_iff, isB_iff, lp_inl, lp_inr, Prod.mk.injEq]
  simp only [tz_0, tz]
  ((repeat' (first | apply And.intro | intro _)); all_goals grind)
theorem c12_isOfWord {x : Int32} : f12_isOfWord x = some (tz (isWd x)) := by
  apply Ok_eq
  unfold f12_isOfWord f12_isOfWord_j39 f12_isOfWord_j44 isWd
  simp only [c12_in]
  simp only [Ok_stp, Ok_bnd, Ok_some, Ok_none, Ok_ite, Ok_gd, inb_iff, isB_iff, lp_inl, lp_inr, Prod.mk.injEq]
  simp only [tz_0, tz]
  ((repeat' (first | apply And.intro | intro _)); all_goals grind)
/-- the reference's text: f's first n letters -/
def MT (μ : Sto) (f : Nat → Int32) (n : Nat) : Prop := n ≤ 3000 ∧ fI μ 2017 5 = Int32.ofNat n ∧ ∀ k, k < n → aI μ 2018 k = f k
section M
variable {μ : Sto} {f : Nat → Int32} {n : Nat}
theorem c12_isPlace (h : MT μ f n) {x : Int32} : f12_isPlace μ x = some (tz (decide (0 ≤ x ∧ x ≤ Int32.ofNat n))) := by
  unfold f12_isPlace
  rw [c12_in, h.2.1]
  simp only [bnd, Option.bind, tz_B, gd, if_true]
theorem c12_lines (h : MT μ f n) : f12_lines μ = some (Int32.ofNat (ends f n + 1)) := by
  apply Ok_eq
  obtain ⟨h1, h2, h3⟩ := h
  unfold f12_lines f12_lines_j4
  simp only [Ok_stp, Ok_bnd, Ok_some, Ok_none, Ok_ite, Ok_gd, inb_iff, isB_iff, lp_inl, lp_inr, Prod.mk.injEq]
  refine Ok_count n (fun k s => s = (Int32.ofNat (ends f k + 1), Int32.ofNat k)) ?_ 0 rfl (by omega) (by (show _ < FU; unfold FU; omega))
  rintro k s hk rfl
  unfold f12_lines_b4 f12_lines_j29
  rw [h2]
  simp only [Ok_stp, Ok_bnd, Ok_some, Ok_none, Ok_ite, Ok_gd, inb_iff, isB_iff, lp_inl, lp_inr, Prod.mk.injEq]
  simp (disch := omega) only [ofNat_clamp]
  generalize aI μ 2018 = g at *
  ((repeat' (first | apply And.intro | intro _)); all_goals grind)
theorem c12_isLine (h : MT μ f n) {x : Int32} : f12_isLine μ x = some (tz (decide (0 ≤ x ∧ x ≤ Int32.ofNat (ends f n)))) := by
  unfold f12_isLine
  rw [c12_lines h]
  have e : Int32.ofNat (ends f n + 1) - 1 = Int32.ofNat (ends f n) := by have := h.1; grind
  simp only [bnd, Option.bind, c12_in, e, tz_B, gd, if_true]
theorem c12_lineAt (h : MT μ f n) {p : Nat} {x : Int32} (hx : x = Int32.ofNat p) (hp : p ≤ n) : f12_lineAt μ x = some (Int32.ofNat (ends f p)) := by
  apply Ok_eq
  subst hx
  obtain ⟨h1, h2, h3⟩ := h
  unfold f12_lineAt f12_lineAt_j4
  simp only [Ok_stp, Ok_bnd, Ok_some, Ok_none, Ok_ite, Ok_gd, inb_iff, isB_iff, lp_inl, lp_inr, Prod.mk.injEq]
  refine Ok_count p (fun k s => s = (Int32.ofNat (ends f k), Int32.ofNat k)) ?_ 0 rfl (by omega) (by (show _ < FU; unfold FU; omega))
  rintro k s hk rfl
  unfold f12_lineAt_b4 f12_lineAt_j26
  simp only [Ok_stp, Ok_bnd, Ok_some, Ok_none, Ok_ite, Ok_gd, inb_iff, isB_iff, lp_inl, lp_inr, Prod.mk.injEq]
  simp (disch := omega) only [ofNat_clamp]
  generalize aI μ 2018 = g at *
  ((repeat' (first | apply And.intro | intro _)); all_goals grind)
theorem c12_beginOf (h : MT μ f n) {j : Nat} {x : Int32} (hx : x = Int32.ofNat j) (hj : j ≤ ends f n) : ∃ p, p ≤ n ∧ isBg f j p ∧ f12_beginOf μ x = some (Int32.ofNat p) := by
  obtain ⟨p, hp, hb⟩ := isBg.ex hj
  refine ⟨p, hp, hb, ?_⟩
  apply Ok_eq
  subst hx
  obtain ⟨h1, h2, h3⟩ := h
  unfold f12_beginOf f12_beginOf_j4
  simp only [Ok_stp, Ok_bnd, Ok_some, Ok_none, Ok_ite, Ok_gd, inb_iff, isB_iff, lp_inl, lp_inr, Prod.mk.injEq]
  refine Ok_count p (fun k s => s = (Int32.ofNat (j - ends f k), Int32.ofNat k)) ?_ 0 rfl (by omega) (by (show _ < FU; unfold FU; omega))
  rintro k s hk rfl
  unfold f12_beginOf_b4 f12_beginOf_j25
  simp only [Ok_stp, Ok_bnd, Ok_some, Ok_none, Ok_ite, Ok_gd, inb_iff, isB_iff, lp_inl, lp_inr, Prod.mk.injEq]
  simp (disch := omega) only [ofNat_clamp]
  generalize aI μ 2018 = g at *
  have hle := hb.le_iff (q := k)
  have h9 := ends_le f n
  ((repeat' (first | apply And.intro | intro _)); all_goals grind)
theorem c12_endOf (h : MT μ f n) {j : Nat} {x : Int32} (hx : x = Int32.ofNat j) (hj : j ≤ ends f n) : ∃ e, isEn f n j e ∧ f12_endOf μ x = some (Int32.ofNat e) := by
  obtain ⟨p, hp, hb, hf⟩ := c12_beginOf h hx hj
  obtain ⟨e, he, hE⟩ := isEn.ex hp hb.1
  refine ⟨e, hE, ?_⟩
  apply Ok_eq
  obtain ⟨h1, h2, h3⟩ := h
  unfold f12_endOf f12_endOf_j6 f12_endOf_j31
  rw [hf]
  simp only [Ok_stp, Ok_bnd, Ok_some, Ok_none, Ok_ite, Ok_gd, inb_iff, isB_iff, lp_inl, lp_inr, Prod.mk.injEq]
  have h8 := hE.1
  refine Ok_count (e - p) (fun k s => s = Int32.ofNat (p + k) ∧ ends f (p + k) = j) ?_ 0 ⟨rfl, hb.1⟩ (by omega) (by (show _ < FU; unfold FU; omega))
  rintro k s hk ⟨rfl, hk2⟩
  unfold f12_endOf_b6
  rw [h2]
  simp only [Ok_stp, Ok_bnd, Ok_some, Ok_none, Ok_ite, Ok_gd, inb_iff, isB_iff, lp_inl, lp_inr, Prod.mk.injEq]
  simp (disch := omega) only [ofNat_clamp]
  generalize aI μ 2018 = g at *
  have hu : p + k < n → f (p + k) = 10 → p + k = e := fun a b => isEn.uniq (f := f) (n := n) (j := j) ⟨by omega, hk2, Or.inr b⟩ hE
  obtain ⟨hE1, hE2, hE3⟩ := hE
  have hs := ends_succ f (p + k)
  ((repeat' (first | apply And.intro | intro _)); all_goals grind)
end M
section M
variable {μ : Sto} {f : Nat → Int32} {n : Nat}
theorem c12_column (h : MT μ f n) {t : Nat} (ht : fI μ 2017 17 = Int32.ofNat t) (h1 : 1 ≤ t) (h8 : t ≤ 8) {p : Nat} {x : Int32} (hx : x = Int32.ofNat p) (hp : p ≤ n) {b : Nat} (hb : isBg f (ends f p) b) : f12_column μ x = some (Int32.ofNat (cw t f b (p - b))) := by
  apply Ok_eq
  obtain ⟨b', hb1, hb2, hb3⟩ := c12_beginOf h rfl (ends_mono hp)
  cases hb.uniq hb2
  unfold f12_column f12_column_j12
  rw [c12_lineAt h hx hp]
  simp only [Ok_stp, Ok_bnd, Ok_some, Ok_none, Ok_ite, Ok_gd, inb_iff, isB_iff, lp_inl, lp_inr, Prod.mk.injEq]
  rw [hb3]
  simp only [Ok_stp, Ok_bnd, Ok_some, Ok_none, Ok_ite, Ok_gd, inb_iff, isB_iff, lp_inl, lp_inr, Prod.mk.injEq]
  subst hx
  obtain ⟨hn, h2, h3⟩ := h
  have hbp : b ≤ p := hb.le_iff.mpr (Nat.le_refl _)
  refine Ok_count (p - b) (fun k s => s = (Int32.ofNat (cw t f b k), Int32.ofNat (b + k))) ?_ 0 rfl (by omega) (by (show _ < FU; unfold FU; omega))
  rintro k s hk rfl
  have hc := cw_le (f := f) (b := b) h1 h8 k
  unfold f12_column_b12 f12_column_j47
  rw [ht]
  simp only [Ok_stp, Ok_bnd, Ok_some, Ok_none, Ok_ite, Ok_gd, inb_iff, isB_iff, lp_inl, lp_inr, Prod.mk.injEq]
  simp (disch := omega) only [ofNat_clamp, nz_iff, i32_div]
  generalize aI μ 2018 = g at *
  have e1 : (Int32.ofNat (cw t f b k / t) + 1) * Int32.ofNat t = Int32.ofNat ((cw t f b k / t + 1) * t) := by rw [Int32.ofNat_mul, Int32.ofNat_add]; rfl
  rw [e1]
  have hs : cw t f b (k + 1) = if f (b + k) = 9 then (cw t f b k / t + 1) * t else cw t f b k + 1 := rfl
  generalize (cw t f b k / t + 1) * t = z at *
  ((repeat' (first | apply And.intro | intro _)); all_goals grind)
theorem c12_placeIn (h : MT μ f n) {t : Nat} (ht : fI μ 2017 17 = Int32.ofNat t) (h1 : 1 ≤ t) (h8 : t ≤ 8) {j c : Nat} {x y : Int32} (hx : x = Int32.ofNat j) (hj : j ≤ ends f n) (hy : y = Int32.ofNat c) (hc : c < 2147483648) {b e q : Nat} (hb : isBg f j b) (he : isEn f n j e) (hq : isPl t f b e c q) : f12_placeIn μ x y = some (Int32.ofNat q) := by
  apply Ok_eq
  obtain ⟨b', hb1, hb2, hb3⟩ := c12_beginOf h hx hj
  cases hb.uniq hb2
  unfold f12_placeIn f12_placeIn_j9 f12_placeIn_j73
  rw [hb3]
  simp only [Ok_stp, Ok_bnd, Ok_some, Ok_none, Ok_ite, Ok_gd, inb_iff, isB_iff, lp_inl, lp_inr, Prod.mk.injEq]
  subst hx hy
  obtain ⟨hn, h2, h3⟩ := h
  refine Ok_count (q - b) (fun k s => s = (Int32.ofNat (cw t f b k), Int32.ofNat (b + k))) ?_ 0 rfl (by omega) (by have := hq.2.1; have := he.1; (show _ < FU; unfold FU; omega))
  rintro k s hk rfl
  have hc := cw_le (f := f) (b := b) h1 h8 k
  have hq0 := hq.2.2.2 k
  have hbq := hq.1
  have hqe := hq.2.1
  have hen := he.1
  have hu : b + k < n → f (b + k) = 10 → b + k ≤ e → b + k = e := fun a b' c => isEn.uniq (f := f) (n := n) (j := j) ⟨by omega, by
    have u1 := ends_mono (f := f) (show b ≤ b + k by omega)
    have u2 := ends_mono (f := f) c
    rw [hb.1] at u1
    rw [he.2.1] at u2
    omega, Or.inr b'⟩ he
  have hq1 := hq.2.2.1
  have he1 := he.2.2
  unfold f12_placeIn_b9 f12_placeIn_j66
  rw [ht, h2]
  simp only [Ok_stp, Ok_bnd, Ok_some, Ok_none, Ok_ite, Ok_gd, inb_iff, isB_iff, lp_inl, lp_inr, Prod.mk.injEq]
  simp (disch := omega) only [ofNat_clamp, nz_iff, i32_div]
  generalize aI μ 2018 = g at *
  have e1 : (Int32.ofNat (cw t f b k / t) + 1) * Int32.ofNat t = Int32.ofNat ((cw t f b k / t + 1) * t) := by rw [Int32.ofNat_mul, Int32.ofNat_add]; rfl
  rw [e1]
  have hs : cw t f b (k + 1) = if f (b + k) = 9 then (cw t f b k / t + 1) * t else cw t f b k + 1 := rfl
  have hbk : b + k - b = k := by omega
  have hqk : b + k = q → k = q - b := by omega
  generalize (cw t f b k / t + 1) * t = z at *
  ((repeat' (first | apply And.intro | intro _)); all_goals grind)
end M
/-! the class's questions about a sheet's text: s the sheet, L its letters, B its beginnings -/
def CT (σ : Sto) (s L B : Nat) (f : Nat → Int32) (n : Nat) : Prop :=
  n ≤ 3000 ∧ ends f n < 300 ∧ fI σ s 1 = Int32.ofNat n ∧ fI σ s 4 = Int32.ofNat (ends f n + 1) ∧ (fR σ s 0 = L + 1 ∧ kc L = 13 ∧ ln L = 3000) ∧ (fR σ s 2 = B + 1 ∧ kc B = 12 ∧ ln B = 300) ∧ (∀ k, k < n → aI σ L k = f k) ∧ ∀ j, j ≤ ends f n → ∃ p, p ≤ n ∧ isBg f j p ∧ aI σ B j = Int32.ofNat p
theorem okr_s {a c : Nat} : (okr (a + 1) c = true) ↔ kc a = c := by simp [okr]
section C
variable {σ : Sto} {s L B : Nat} {f : Nat → Int32} {n : Nat}
theorem CT.bg (h : CT σ s L B f n) {j p : Nat} (hj : j ≤ ends f n) (hb : isBg f j p) : aI σ B j = Int32.ofNat p ∧ p ≤ n := by
  obtain ⟨q, h1, h2, h3⟩ := h.2.2.2.2.2.2.2 j hj
  cases h2.uniq hb
  exact ⟨h3, h1⟩
theorem c8_lineWith (h : CT σ s L B f n) {p : Nat} {x : Int32} (hx : x = Int32.ofNat p) (hp : p ≤ n) : f8_lineWith σ s x = some (Int32.ofNat (ends f p)) := by
  apply Ok_eq
  subst hx
  have hm := ends_mono (f := f) hp
  have hbg : ∀ j, j ≤ ends f n → ∃ q, q ≤ n ∧ (q ≤ p ↔ j ≤ ends f p) ∧ aI σ B j = Int32.ofNat q := fun j hj => by
    obtain ⟨q, h1, h2, h3⟩ := h.2.2.2.2.2.2.2 j hj
    exact ⟨q, h1, h2.le_iff, h3⟩
  obtain ⟨h1, h2, h3, h4, -, ⟨h5, h6, h7⟩, -, -⟩ := h
  unfold f8_lineWith f8_lineWith_j6
  simp only [Ok_stp, Ok_bnd, Ok_some, Ok_none, Ok_ite, Ok_gd, inb_iff, isB_iff, lp_inl, lp_inr, Prod.mk.injEq]
  have key : ∀ l w w2 : Nat, l ≤ ends f p → ends f p < l + 2 * w → 1 ≤ w → w ≤ 256 → Int32.ofNat w >>> ((1 : Int32) &&& 31) = Int32.ofNat w2 → (2 * w2 = w ∨ w = 1 ∧ w2 = 0) → Ok (f8_lineWith_b6 s (Int32.ofNat p) σ (Int32.ofNat l) (Int32.ofNat w)) (lp (fun z => ∃ l', z = (Int32.ofNat l', Int32.ofNat w2) ∧ l' ≤ ends f p ∧ (ends f p < l' + w)) (fun r => False)) := by
    intro l w w2 a1 a2 a3 a4 a5 a6
    have hz : ¬ Int32.ofNat w ≤ 0 := by grind
    have hq := hbg (l + w)
    have e0 : Int32.ofNat l + Int32.ofNat w = Int32.ofNat (l + w) := (Int32.ofNat_add ..).symm
    unfold f8_lineWith_b6 f8_lineWith_j36
    rw [if_neg hz, h4, h5, e0, a5]
    simp only [Ok_stp, Ok_bnd, Ok_some, Ok_none, Ok_ite, Ok_gd, inb_iff, isB_iff, lp_inl, lp_inr, Prod.mk.injEq]
    simp (disch := omega) only [ofNat_clamp, okr_s, Nat.add_sub_cancel, h6, h7]
    by_cases hw : l + w ≤ ends f n
    · obtain ⟨q, q1, q2, q3⟩ := hq hw
      rw [q3]
      refine ⟨fun c => ⟨l, ⟨rfl, trivial⟩, a1, ?_⟩, fun c => ⟨trivial, ⟨?_, ?_⟩, fun c2 => ⟨l, ⟨rfl, trivial⟩, a1, ?_⟩, fun c2 => ⟨l + w, ⟨rfl, trivial⟩, ?_, ?_⟩⟩⟩ <;> grind
    · refine ⟨fun c => ⟨l, ⟨rfl, trivial⟩, a1, ?_⟩, fun c => ?_⟩ <;> grind
  have last : ∀ l : Nat, Ok (f8_lineWith_b6 s (Int32.ofNat p) σ (Int32.ofNat l) (Int32.ofNat 0)) (lp (fun z => False) (fun r => r = Int32.ofNat l)) := by
    intro l
    unfold f8_lineWith_b6
    rw [if_pos (by decide)]
    simp only [Ok_stp, Ok_bnd, Ok_some, Ok_none, Ok_ite, Ok_gd, inb_iff, isB_iff, lp_inl, lp_inr, Prod.mk.injEq]
  refine Ok_loop (fun z => ∃ l w : Nat, z = (Int32.ofNat l, Int32.ofNat w) ∧ l ≤ ends f p ∧ (w = 256 ∨ w = 128 ∨ w = 64 ∨ w = 32 ∨ w = 16 ∨ w = 8 ∨ w = 4 ∨ w = 2 ∨ w = 1 ∨ w = 0) ∧ ends f p < l + 2 * w + (if w = 0 then 1 else 0)) (fun z => z.2.toNatClampNeg) ?_ ⟨0, 256, rfl, by omega, by omega, by omega⟩ (by show (256 : Nat) < FU; unfold FU; omega)
  rintro z ⟨l, w, rfl, b1, b2, b3⟩
  have fin : ∀ w2 : Nat, (1 ≤ w) → Int32.ofNat w >>> ((1 : Int32) &&& 31) = Int32.ofNat w2 → (2 * w2 = w ∨ w = 1 ∧ w2 = 0) → (w2 = 256 ∨ w2 = 128 ∨ w2 = 64 ∨ w2 = 32 ∨ w2 = 16 ∨ w2 = 8 ∨ w2 = 4 ∨ w2 = 2 ∨ w2 = 1 ∨ w2 = 0) → Ok (f8_lineWith_b6 s (Int32.ofNat p) σ (Int32.ofNat l) (Int32.ofNat w)) (fun x => (∀ s', x = .inl s' → (∃ l w : Nat, s' = (Int32.ofNat l, Int32.ofNat w) ∧ l ≤ ends f p ∧ (w = 256 ∨ w = 128 ∨ w = 64 ∨ w = 32 ∨ w = 16 ∨ w = 8 ∨ w = 4 ∨ w = 2 ∨ w = 1 ∨ w = 0) ∧ ends f p < l + 2 * w + (if w = 0 then 1 else 0)) ∧ s'.2.toNatClampNeg < (Int32.ofNat w).toNatClampNeg) ∧ (∀ r, x = .inr r → r = Int32.ofNat (ends f p))) := by
    intro w2 c1 c2 c3 c4
    have hif : (if w = 0 then 1 else 0) = 0 := if_neg (by omega)
    refine (key l w w2 b1 (by omega) c1 (by omega) c2 c3).imp ?_
    rintro (z | r) hz
    · obtain ⟨l', rfl, z1, z2⟩ := hz
      refine ⟨fun s' e => ?_, fun r e => (by cases e)⟩
      cases e
      refine ⟨⟨l', w2, rfl, z1, c4, by split <;> omega⟩, ?_⟩
      show (Int32.ofNat w2).toNatClampNeg < _
      rw [ofNat_clamp (by omega), ofNat_clamp (by omega)]
      omega
    · exact hz.elim
  rcases b2 with rfl | rfl | rfl | rfl | rfl | rfl | rfl | rfl | rfl | rfl
  · exact fin 128 (by omega) (by decide) (by omega) (by omega)
  · exact fin 64 (by omega) (by decide) (by omega) (by omega)
  · exact fin 32 (by omega) (by decide) (by omega) (by omega)
  · exact fin 16 (by omega) (by decide) (by omega) (by omega)
  · exact fin 8 (by omega) (by decide) (by omega) (by omega)
  · exact fin 4 (by omega) (by decide) (by omega) (by omega)
  · exact fin 2 (by omega) (by decide) (by omega) (by omega)
  · exact fin 1 (by omega) (by decide) (by omega) (by omega)
  · exact fin 0 (by omega) (by decide) (by omega) (by omega)
  · refine (last l).imp ?_
    rintro (z | r) hz
    · exact hz.elim
    · refine ⟨fun s' e => (by cases e), fun r' e => ?_⟩
      cases e
      rw [hz]
      congr 1
      simp only [if_true] at b3
      omega
end C
section C
variable {σ : Sto} {s L B : Nat} {f : Nat → Int32} {n : Nat}
theorem c11_isOfWord {x : Int32} : f11_isOfWord x = some (tz (isWd x)) := by
  apply Ok_eq
  unfold f11_isOfWord f11_isOfWord_j12 f11_isOfWord_j24 f11_isOfWord_j36 f11_isOfWord_j42 f11_isOfWord_j47 isWd
  simp only [Ok_stp, Ok_bnd, Ok_some, Ok_none, Ok_ite, Ok_gd, inb_iff, isB_iff, lp_inl, lp_inr, Prod.mk.injEq]
  simp only [tz_0, tz]
  ((repeat' (first | apply And.intro | intro _)); all_goals grind)
theorem c11_isLetter {x : Int32} : f11_isLetter x = some (tz (isLt x)) := by
  apply Ok_eq
  unfold f11_isLetter f11_isLetter_j24 f11_isLetter_j28 f11_isLetter_j29 isLt
  simp only [Ok_stp, Ok_bnd, Ok_some, Ok_none, Ok_ite, Ok_gd, inb_iff, isB_iff, lp_inl, lp_inr, Prod.mk.injEq]
  simp only [tz_0, tz]
  ((repeat' (first | apply And.intro | intro _)); all_goals grind)
theorem c8_endOf (h : CT σ s L B f n) {j e : Nat} {x : Int32} (hx : x = Int32.ofNat j) (he : isEn f n j e) : f8_endOf σ s x = some (Int32.ofNat e) := by
  apply Ok_eq
  subst hx
  have hj : j ≤ ends f n := by rw [← he.2.1]; exact ends_mono he.1
  have hb : ∀ p, isBg f (j + 1) p → j + 1 ≤ ends f n → aI σ B (j + 1) = Int32.ofNat p ∧ p ≤ n := fun p a b => h.bg b a
  have hn : j + 1 ≤ ends f n → isBg f (j + 1) (e + 1) := by
    intro h1
    rcases he.2.2 with h2 | h2
    · subst h2
      have := he.2.1
      omega
    · exact ⟨by rw [ends_succ, if_pos h2, he.2.1], Or.inr h2⟩
  have hl : ¬ j + 1 ≤ ends f n → e = n := by
    intro h1
    rcases he.2.2 with h2 | h2
    · exact h2
    · have h3 := ends_succ f e
      rw [if_pos h2, he.2.1] at h3
      by_cases h4 : e + 1 ≤ n
      · have := ends_mono (f := f) h4
        omega
      · have := he.1
        omega
  obtain ⟨h1, h2, h3, h4, -, ⟨h5, h6, h7⟩, -, -⟩ := h
  unfold f8_endOf f8_endOf_j27
  have e1 : Int32.ofNat j + 1 = Int32.ofNat (j + 1) := by grind
  rw [h3, h4, h5, e1]
  simp only [Ok_stp, Ok_bnd, Ok_some, Ok_none, Ok_ite, Ok_gd, inb_iff, isB_iff, lp_inl, lp_inr, Prod.mk.injEq]
  simp (disch := omega) only [ofNat_clamp, okr_s, Nat.add_sub_cancel, h6, h7]
  by_cases hc : j + 1 ≤ ends f n
  · obtain ⟨b1, b2⟩ := hb _ (hn hc) hc
    rw [b1]
    have := he.1
    ((repeat' (first | apply And.intro | intro _)); all_goals grind)
  · have := hl hc
    ((repeat' (first | apply And.intro | intro _)); all_goals grind)
theorem c11_columnBehind {c t : Nat} {x y z : Int32} (hx : x = Int32.ofNat c) (hz : z = Int32.ofNat t) (ht : 1 ≤ t) (h8 : t ≤ 8) (hc : c < 1000000) : f11_columnBehind x y z = some (Int32.ofNat (if y = 9 then (c / t + 1) * t else c + 1)) := by
  apply Ok_eq
  subst hx hz
  unfold f11_columnBehind f11_columnBehind_j11
  simp only [Ok_stp, Ok_bnd, Ok_some, Ok_none, Ok_ite, Ok_gd, inb_iff, isB_iff, lp_inl, lp_inr, Prod.mk.injEq]
  simp (disch := omega) only [nz_iff, i32_div]
  have e1 : Int32.ofNat (c / t) * Int32.ofNat t = Int32.ofNat (c / t * t) := (Int32.ofNat_mul ..).symm
  have e2 : (c / t + 1) * t = c / t * t + t := by rw [Nat.add_mul, Nat.one_mul]
  have e3 := Nat.div_mul_le_self c t
  rw [e1, e2]
  generalize c / t * t = q at *
  ((repeat' (first | apply And.intro | intro _)); all_goals grind)
theorem c8_columnWith (h : CT σ s L B f n) {t : Nat} (h1 : 1 ≤ t) (h8 : t ≤ 8) {p : Nat} {x y : Int32} (hx : x = Int32.ofNat p) (hy : y = Int32.ofNat t) (hp : p ≤ n) {b : Nat} (hb : isBg f (ends f p) b) : f8_columnWith σ s x y = some (Int32.ofNat (cw t f b (p - b))) := by
  apply Ok_eq
  have hB := h.bg (ends_mono hp) hb
  have hm := ends_mono (f := f) hp
  have hbp : b ≤ p := hb.le_iff.mpr (Nat.le_refl _)
  unfold f8_columnWith f8_columnWith_j14
  rw [c8_lineWith h hx hp]
  obtain ⟨hn, h2, -, -, ⟨h5, h6, h7⟩, ⟨h9, h10, h11⟩, hL, -⟩ := h
  simp only [Ok_stp, Ok_bnd, Ok_some, Ok_none, Ok_ite, Ok_gd, inb_iff, isB_iff, lp_inl, lp_inr, Prod.mk.injEq]
  subst hx hy
  rw [h9]
  simp (disch := omega) only [ofNat_clamp, okr_s, Nat.add_sub_cancel, h10, h11, hB.1]
  refine ⟨trivial, by grind, ?_⟩
  refine Ok_count (p - b) (fun k z => z = (Int32.ofNat (cw t f b k), Int32.ofNat (b + k))) ?_ 0 rfl (by omega) (by (show _ < FU; unfold FU; omega))
  rintro k z hk rfl
  have hc := cw_le (f := f) (b := b) h1 h8 k
  unfold f8_columnWith_b14
  rw [h5]
  simp (disch := omega) only [ofNat_clamp, okr_s, Nat.add_sub_cancel, h6, h7]
  rw [c11_columnBehind rfl rfl h1 h8 (by omega)]
  simp only [Ok_stp, Ok_bnd, Ok_some, Ok_none, Ok_ite, Ok_gd, inb_iff, isB_iff, lp_inl, lp_inr, Prod.mk.injEq]
  have hs : cw t f b (k + 1) = if f (b + k) = 9 then (cw t f b k / t + 1) * t else cw t f b k + 1 := rfl
  have hk2 : b + k < p → aI σ L (b + k) = f (b + k) := fun a => hL _ (by omega)
  generalize (cw t f b k / t + 1) * t = z at *
  generalize aI σ L = g at *
  simp (disch := omega) only [okr_s, h6]
  ((repeat' (first | apply And.intro | intro _)); all_goals grind)
theorem c8_placeWith (h : CT σ s L B f n) {t : Nat} (h1 : 1 ≤ t) (h8 : t ≤ 8) {j c : Nat} {x y z : Int32} (hx : x = Int32.ofNat j) (hj : j ≤ ends f n) (hy : y = Int32.ofNat c) (hc : c < 2147483648) (hz : z = Int32.ofNat t) {b e q : Nat} (hb : isBg f j b) (he : isEn f n j e) (hq : isPl t f b e c q) : f8_placeWith σ s x y z = some (Int32.ofNat q) := by
  apply Ok_eq
  have hB := h.bg hj hb
  unfold f8_placeWith f8_placeWith_j18 f8_placeWith_j52
  rw [c8_endOf h hx he]
  obtain ⟨hn, h2, -, -, ⟨h5, h6, h7⟩, ⟨h9, h10, h11⟩, hL, -⟩ := h
  simp only [Ok_stp, Ok_bnd, Ok_some, Ok_none, Ok_ite, Ok_gd, inb_iff, isB_iff, lp_inl, lp_inr, Prod.mk.injEq]
  subst hx hy hz
  rw [h9]
  simp (disch := omega) only [ofNat_clamp, okr_s, Nat.add_sub_cancel, h10, h11, hB.1]
  have hen := he.1
  have hqe := hq.2.1
  refine ⟨trivial, by grind, ?_⟩
  refine Ok_count (q - b) (fun k z => z = (Int32.ofNat (cw t f b k), Int32.ofNat (b + k))) ?_ 0 rfl (by omega) (by (show _ < FU; unfold FU; omega))
  rintro k z hk rfl
  have hc := cw_le (f := f) (b := b) h1 h8 k
  have hq0 := hq.2.2.2 k
  have hbq := hq.1
  have hq1 := hq.2.2.1
  unfold f8_placeWith_b18
  rw [h5]
  simp (disch := omega) only [ofNat_clamp, okr_s, Nat.add_sub_cancel, h6, h7]
  rw [c11_columnBehind rfl rfl h1 h8 (by omega)]
  simp only [Ok_stp, Ok_bnd, Ok_some, Ok_none, Ok_ite, Ok_gd, inb_iff, isB_iff, lp_inl, lp_inr, Prod.mk.injEq]
  have hs : cw t f b (k + 1) = if f (b + k) = 9 then (cw t f b k / t + 1) * t else cw t f b k + 1 := rfl
  have hk2 : b + k < e → aI σ L (b + k) = f (b + k) := fun a => hL _ (by omega)
  have hbk : b + k - b = k := by omega
  have hqk : b + k = q → k = q - b := by omega
  generalize (cw t f b k / t + 1) * t = z at *
  generalize aI σ L = g at *
  simp (disch := omega) only [okr_s, h6]
  ((repeat' (first | apply And.intro | intro _)); all_goals grind)
end C
