/-! paragraphs -/
theorem skF_spec {P : Nat → Bool} : ∀ d p, (skF P d p = p + d ∨ (skF P d p < p + d ∧ P (skF P d p) = true)) ∧ ∀ i, p ≤ i → i < skF P d p → P i = false := by
  intro d
  induction d with
  | zero => intro p; exact ⟨Or.inl rfl, fun i h1 h2 => by rw [skF] at h2; omega⟩
  | succ d ih =>
    intro p
    rw [skF]
    by_cases hP : P p = true
    · rw [if_pos hP]
      exact ⟨Or.inr ⟨by omega, hP⟩, fun i h1 h2 => by omega⟩
    · rw [if_neg hP]
      obtain ⟨h1, h2⟩ := ih (p + 1)
      refine ⟨?_, fun i i1 i2 => ?_⟩
      · rcases h1 with h1 | h1
        · exact Or.inl (by omega)
        · exact Or.inr ⟨by omega, h1.2⟩
      · by_cases e : i = p
        · rw [e]; simpa using hP
        · exact h2 i (by omega) i2
theorem skF_uniq {P : Nat → Bool} {d p q : Nat} (h1 : p ≤ q) (h2 : q = p + d ∨ (q < p + d ∧ P q = true)) (h3 : ∀ i, p ≤ i → i < q → P i = false) : skF P d p = q := by
  obtain ⟨a, b⟩ := skF_spec (P := P) d p
  have c := skF_le (P := P) d p
  rcases Nat.lt_trichotomy (skF P d p) q with h | h | h
  · rcases a with a | a
    · omega
    · rw [h3 _ c.1 h] at a
      cases a.2
  · exact h
  · rcases h2 with h2 | h2
    · omega
    · rw [b q h1 h] at h2
      cases h2.2
theorem skB_congr {P P' : Nat → Bool} : ∀ {k : Nat}, (∀ i, i < k → P i = P' i) → skB P k = skB P' k := by
  intro k
  induction k with
  | zero => intro _; rfl
  | succ k ih =>
    intro h
    rw [skB, skB, h k (by omega), ih (fun i hi => h i (by omega))]
theorem skB_skip {P : Nat → Bool} {k : Nat} (h : P k = false) : skB P (k + 1) = skB P k := by
  rw [skB, h]
  rfl
theorem skB_hit {P : Nat → Bool} {k : Nat} (h : P k = true) : skB P (k + 1) = k + 1 := by
  rw [skB, if_pos h]
/-- a line of spaces alone -/
def blk (f : Nat → Int32) (B E : Nat → Nat) (j : Nat) : Bool := decide (∀ i, i < E j - B j → isSp (f (B j + i)) = true)
/-- a line at which a paragraph begins -/
def par (f : Nat → Int32) (B E : Nat → Nat) (j : Nat) : Bool := !blk f B E j && (j == 0 || blk f B E (j - 1))
def BE (f : Nat → Int32) (n : Nat) (B E : Nat → Nat) : Prop := ∀ j, j ≤ ends f n → isBg f j (B j) ∧ isEn f n j (E j) ∧ B j ≤ E j ∧ B j ≤ n
theorem isSp_10 : isSp 10 = false := by decide
theorem isEn.in {f : Nat → Int32} {n j b e : Nat} (hb : isBg f j b) (he : isEn f n j e) : ∀ i, b ≤ i → i < e → f i ≠ 10 := by
  intro i h1 h2 h3
  obtain ⟨b1, b2⟩ := hb
  obtain ⟨e1, e2, e3⟩ := he
  have m1 := ends_mono (f := f) h1
  have m2 : ends f (i + 1) ≤ ends f e := ends_mono (by omega)
  rw [ends_succ, if_pos h3] at m2
  omega
theorem blk_ff {f : Nat → Int32} {B E : Nat → Nat} {j i : Nat} (h1 : B j ≤ i) (h2 : i < E j) (h : isSp (f i) = false) : blk f B E j = false := by
  unfold blk
  rw [decide_eq_false]
  intro z
  have := z (i - B j) (by omega)
  rw [show B j + (i - B j) = i by omega, h] at this
  cases this
theorem blk_tt {f : Nat → Int32} {B E : Nat → Nat} {j : Nat} (h : ∀ i, B j ≤ i → i < E j → isSp (f i) = true) : blk f B E j = true := by
  unfold blk
  rw [decide_eq_true]
  exact fun i hi => h _ (by omega) (by omega)
section R
variable {σ μ : Sto} {o : Int64} {L B H : Nat} {f : Nat → Int32} {n c : Nat} {bf ef : Nat → Nat}
theorem c8_isBlankLine (h : CT σ 1 L B f n) (hbe : BE f n bf ef) {x : Int32} {j : Nat} (hx : x = Int32.ofNat j) (hj : j ≤ ends f n) : f8_isBlankLine σ 1 x = some (tz (blk f bf ef j)) := by
  subst hx
  obtain ⟨b1, b2, b3, b4⟩ := hbe j hj
  obtain ⟨hB, -⟩ := h.bg hj b1
  obtain ⟨hn, hE, h3, -, ⟨h5, h6, h7⟩, ⟨h8, h9, h10⟩, hL, -⟩ := h
  have hin := isEn.in b1 b2
  have k1 : loopF (fun s_7 => f8_isBlankLine_b7 1 (Int32.ofNat j) σ s_7) FU (Int32.ofNat (bf j)) = some (Int32.ofNat (skF (fun i => !isSp (f i)) (n - bf j) (bf j))) := by
    refine loop_F (P := fun i => !isSp (f i)) hn (fun p hp hP => ?_) (fun p hp hP => ?_) b4
    · have hP : isSp (f p) = true := by simpa using hP
      unfold f8_isBlankLine_b7 f8_isBlankLine_j37
      simp only [h3, h5, i32_le (show n < 2147483648 by omega) (show p < 2147483648 by omega), if_neg (show ¬ n ≤ p by omega), okr_s.mpr h6, Nat.add_sub_cancel, h7, inb_n (show p < 3000 by omega) (by omega), gd_true, ofNat_clamp (show p < 2147483648 by omega), hL p hp, stp, i32_succ]
      unfold isSp at hP
      by_cases e1 : f p = 32
      · rw [if_pos e1]
      · have e2 : f p = 9 := by simpa [e1] using hP
        rw [if_neg e1, if_pos e2]
    · unfold f8_isBlankLine_b7
      simp only [h3, h5, i32_le (show n < 2147483648 by omega) (show p < 2147483648 by omega)]
      by_cases hq : n ≤ p
      · rw [if_pos hq]
      · have hP : isSp (f p) = false := by simpa using hP (by omega)
        unfold isSp at hP
        have e1 : ¬ f p = 32 := fun z => by simp [z] at hP
        have e2 : ¬ f p = 9 := fun z => by simp [z] at hP
        simp only [if_neg hq, okr_s.mpr h6, Nat.add_sub_cancel, h7, inb_n (show p < 3000 by omega) (by omega), gd_true, ofNat_clamp (show p < 2147483648 by omega), hL p (by omega), if_neg e1, if_neg e2]
  have k2 := skF_le (P := fun i => !isSp (f i)) (n - bf j) (bf j)
  obtain ⟨k3, k4⟩ := skF_spec (P := fun i => !isSp (f i)) (n - bf j) (bf j)
  unfold f8_isBlankLine f8_isBlankLine_j7
  rw [h8]
  simp only [okr_s.mpr h9, Nat.add_sub_cancel, h10, inb_n (show j < 300 by omega) (by omega), gd_true, ofNat_clamp (show j < 2147483648 by omega), hB, stp]
  rw [k1, bnd_some]
  generalize skF (fun i => !isSp (f i)) (n - bf j) (bf j) = q at k2 k3 k4
  unfold f8_isBlankLine_j43 f8_isBlankLine_j62 f8_isBlankLine_j67
  have z1 : isB 1 = true := rfl
  have z0 : isB 0 = true := rfl
  simp only [h3, h5, i32_le (show n < 2147483648 by omega) (show q < 2147483648 by omega), z1, z0, gd_true]
  obtain ⟨e1, e2, e3⟩ := b2
  have k4 : ∀ i, bf j ≤ i → i < q → isSp (f i) = true := fun i i1 i2 => by simpa using k4 i i1 i2
  have hqe : q ≤ ef j := by
    rcases Nat.lt_or_ge (ef j) q with z | z
    · exfalso
      rcases e3 with e3 | e3
      · omega
      · have := k4 (ef j) b3 z
        rw [e3, isSp_10] at this
        cases this
    · exact z
  by_cases hq : n ≤ q
  · rw [if_pos hq, blk_tt (fun i i1 i2 => k4 i i1 (by omega))]
    rfl
  · simp only [if_neg hq, okr_s.mpr h6, Nat.add_sub_cancel, h7, inb_n (show q < 3000 by omega) (by omega), gd_true, ofNat_clamp (show q < 2147483648 by omega), hL q (by omega)]
    rcases k3 with k3 | ⟨k3, k5⟩
    · omega
    · have k5 : isSp (f q) = false := by simpa using k5
      by_cases e : f q = 10
      · rw [if_pos e]
        have : ef j ≤ q := by
          rcases Nat.lt_or_ge q (ef j) with z | z
          · exact absurd e (hin q k2.1 z)
          · exact z
        rw [blk_tt (fun i i1 i2 => k4 i i1 (by omega))]
        rfl
      · rw [if_neg e]
        have : q < ef j := by
          rcases Nat.lt_or_ge q (ef j) with z | z
          · exact z
          · have z : q = ef j := by omega
            rcases e3 with e3 | e3
            · omega
            · rw [← z] at e3
              exact absurd e3 e
        rw [blk_ff k2.1 this k5]
        rfl
theorem c8_isParagraph (h : CT σ 1 L B f n) (hbe : BE f n bf ef) {x : Int32} {j : Nat} (hx : x = Int32.ofNat j) (hj : j ≤ ends f n) : f8_isParagraph σ 1 x = some (tz (par f bf ef j)) := by
  subst hx
  have hE := h.2.1
  unfold f8_isParagraph f8_isParagraph_j22 f8_isParagraph_j26 f8_isParagraph_j27
  have z1 : isB 1 = true := rfl
  have z0 : isB 0 = true := rfl
  rw [c8_isBlankLine h hbe rfl hj, bnd_some]
  simp only [ite_tz, z1, z0, gd_true]
  unfold par
  cases hb : blk f bf ef j with
  | true => simp only [if_true, Bool.not_true, Bool.false_and]; rfl
  | false =>
    simp only [Bool.false_eq_true, if_false, Bool.not_false, Bool.true_and]
    cases j with
    | zero => rw [if_pos (by decide)]; rfl
    | succ j =>
      have hne : ¬ Int32.ofNat (j + 1) = 0 := by grind
      rw [if_neg hne, i32_pred.1, c8_isBlankLine h hbe rfl (by omega), bnd_some]
      simp only [ite_tz, Nat.add_sub_cancel]
      cases hb2 : blk f bf ef j with
      | true => simp [tz]
      | false => simp [tz]
/-- where a line begins; past the last, the text's end -/
def posF (B : Nat → Nat) (n m j : Nat) : Nat := if j < m then B j else n
def posB (B : Nat → Nat) : Nat → Nat
  | 0 => 0
  | q + 1 => B q
def pgF (f : Nat → Int32) (n : Nat) (bf ef : Nat → Nat) (p : Nat) : Nat := posF bf n (ends f n + 1) (skF (par f bf ef) (ends f n + 1 - (ends f p + 1)) (ends f p + 1))
def pgB (f : Nat → Int32) (bf ef : Nat → Nat) (p : Nat) : Nat := posB bf (skB (fun j => decide (bf j < p) && par f bf ef j) (ends f p + 1))
theorem itN_f {g : Nat → Nat} : ∀ k p, itN g (k + 1) p = itN g k (g p) := by
  intro k
  induction k with
  | zero => intro p; rfl
  | succ k ih =>
    intro p
    rw [itN, ih, itN]
theorem pgF_le (hbe : BE f n bf ef) {p : Nat} : pgF f n bf ef p ≤ n := by
  unfold pgF posF
  split
  · exact (hbe _ (by omega)).2.2.2
  · exact Nat.le_refl _
theorem pgB_le (hbe : BE f n bf ef) {p : Nat} (hp : p ≤ n) : pgB f bf ef p ≤ n := by
  unfold pgB
  have := ends_mono (f := f) hp
  have h := skB_le (P := fun j => decide (bf j < p) && par f bf ef j) (ends f p + 1)
  cases hq : skB (fun j => decide (bf j < p) && par f bf ef j) (ends f p + 1) with
  | zero => exact Nat.zero_le _
  | succ q =>
    rw [hq] at h
    exact (hbe q (by omega)).2.2.2
theorem c10_paragraphForward (h : CT σ 1 L B f n) (hbe : BE f n bf ef) {p m : Nat} {x y : Int32} (hx : x = Int32.ofNat p) (hp : p ≤ n) (hy : y = Int32.ofNat m) (h1 : 1 ≤ m) (hm : m ≤ 50) : f10_paragraphForward σ 1 x y = some (Int32.ofNat (itN (pgF f n bf ef) m p)) := by
  subst hx hy
  have hpe := ends_mono (f := f) hp
  obtain ⟨hn, hE, h3, h4, ⟨h5, h6, h7⟩, ⟨h8, h9, h10⟩, hL, -⟩ := id h
  generalize hP : par f bf ef = P
  have hg : ∀ q, pgF f n bf ef q = posF bf n (ends f n + 1) (skF P (ends f n + 1 - (ends f q + 1)) (ends f q + 1)) := fun q => by unfold pgF; rw [hP]
  have hgn : ∀ k, itN (pgF f n bf ef) k n = n := by
    intro k
    induction k with
    | zero => rfl
    | succ k ih =>
      rw [itN, ih, hg, Nat.sub_self, skF, posF, if_neg (by omega)]
  have key : Ok (loopF (fun s_11 => f10_paragraphForward_b11 1 (Int32.ofNat p) (Int32.ofNat m) σ s_11.1 s_11.2) FU (Int32.ofNat m, Int32.ofNat (ends f p + 1))) (fun r => (r = .inl () ∧ itN (pgF f n bf ef) m p = n) ∨ ∃ j, r = .inr (Int32.ofNat j) ∧ j ≤ ends f n ∧ itN (pgF f n bf ef) m p = bf j) := by
    refine Ok_count (ends f n + 1 - (ends f p + 1)) (fun i s => ∃ c, s = (Int32.ofNat (c + 1), Int32.ofNat (ends f p + 1 + i)) ∧ c < 50 ∧ itN (pgF f n bf ef) m p = itN (pgF f n bf ef) c (posF bf n (ends f n + 1) (skF P (ends f n + 1 - (ends f p + 1 + i)) (ends f p + 1 + i)))) ?_ 0 ?_ (by omega) (by (show _ < FU; unfold FU; omega))
    · rintro i s hi ⟨c, rfl, hc, e⟩
      unfold f10_paragraphForward_b11 f10_paragraphForward_j35
      have hjn : ends f p + 1 + i < 2147483648 := by omega
      have hln : ends f n + 1 < 2147483648 := by omega
      generalize hj : ends f p + 1 + i = j at *
      simp only [h4, i32_le hln hjn]
      by_cases hq : ends f n + 1 ≤ j
      · rw [if_pos hq, Ok_some, lp_inr]
        rw [show ends f n + 1 - j = 0 by omega, skF, posF, if_neg (by omega), hgn] at e
        exact Or.inl ⟨rfl, e⟩
      · have e3 : ¬ Int32.ofNat (c + 1) = 0 := by grind
        have e4 : Int32.ofNat (c + 1) - 0 = Int32.ofNat (c + 1) := by grind
        have e5 : Int32.ofNat c = 0 ↔ c = 0 := by grind
        rw [if_neg hq, c8_isParagraph h hbe rfl (by omega), bnd_some]
        simp only [ite_tz, stp, i32_pred.1, i32_succ, e4, if_neg e3, e5, hP]
        cases hPj : P j with
        | true =>
          rw [if_pos rfl]
          have e6 : skF P (ends f n + 1 - j) j = j := skF_uniq (Nat.le_refl _) (Or.inr ⟨by omega, hPj⟩) (fun i h1 h2 => by omega)
          rw [e6, posF, if_pos (by omega)] at e
          by_cases hc0 : c = 0
          · rw [if_pos hc0, Ok_some, lp_inr]
            subst hc0
            exact Or.inr ⟨j, rfl, by omega, e⟩
          · rw [if_neg hc0, Ok_some, lp_inl]
            obtain ⟨c', rfl⟩ : ∃ c', c = c' + 1 := ⟨c - 1, by omega⟩
            refine ⟨by omega, c', by rw [show ends f p + 1 + (i + 1) = j + 1 by omega], by omega, ?_⟩
            rw [e, itN_f, hg, (hbe j (by omega)).1.1, show ends f p + 1 + (i + 1) = j + 1 by omega]
        | false =>
          rw [if_neg (by decide), Ok_some, lp_inl]
          refine ⟨by omega, c, by rw [show ends f p + 1 + (i + 1) = j + 1 by omega], hc, ?_⟩
          rw [e, show ends f n + 1 - j = (ends f n + 1 - (j + 1)) + 1 by omega, skF, hPj, if_neg (by decide), show ends f p + 1 + (i + 1) = j + 1 by omega]
    · obtain ⟨c, rfl⟩ : ∃ c, m = c + 1 := ⟨m - 1, by omega⟩
      exact ⟨c, rfl, by omega, by rw [itN_f, hg]⟩
  obtain ⟨r, k1, k2⟩ := key
  unfold f10_paragraphForward
  rw [stp, c8_lineWith h rfl hp, bnd_some, stp, f10_paragraphForward_j11, i32_succ, k1, bnd_some]
  rcases k2 with ⟨rfl, e⟩ | ⟨j, rfl, hj, e⟩
  · rw [e]
    exact congrArg some h3
  · simp only [h8, okr_s.mpr h9, Nat.add_sub_cancel, h10, inb_n (show j < 300 by omega) (by omega), gd_true, ofNat_clamp (show j < 2147483648 by omega), (h.bg hj (hbe j hj).1).1, e]
theorem c10_paragraphBack (h : CT σ 1 L B f n) (hbe : BE f n bf ef) {p m : Nat} {x y : Int32} (hx : x = Int32.ofNat p) (hp : p ≤ n) (hy : y = Int32.ofNat m) (h1 : 1 ≤ m) (hm : m ≤ 50) : f10_paragraphBack σ 1 x y = some (Int32.ofNat (itN (pgB f bf ef) m p)) := by
  subst hx hy
  have hpe := ends_mono (f := f) hp
  obtain ⟨hn, hE, h3, h4, ⟨h5, h6, h7⟩, ⟨h8, h9, h10⟩, hL, -⟩ := id h
  generalize hP : par f bf ef = P
  have hg : ∀ q, pgB f bf ef q = posB bf (skB (fun j => decide (bf j < q) && P j) (ends f q + 1)) := fun q => by unfold pgB; rw [hP]
  have hb0 : bf 0 = 0 := by
    obtain ⟨⟨z1, z2⟩, -⟩ := hbe 0 (by omega)
    have : isBg f 0 0 := ⟨rfl, Or.inl rfl⟩
    exact isBg.uniq ⟨z1, z2⟩ this
  have hgn : ∀ k, itN (pgB f bf ef) k 0 = 0 := by
    intro k
    induction k with
    | zero => rfl
    | succ k ih =>
      rw [itN, ih, hg]
      rw [show ends f 0 + 1 = 0 + 1 from rfl, skB_skip (by rw [hb0]; rfl)]
      rfl
  have hlt : ∀ a b, a < b → b ≤ ends f n → bf a < bf b := fun a b hab hb => by
    have h1 := (hbe a (by omega)).1
    have h2 := (hbe b hb).1
    rcases Nat.lt_or_ge (bf a) (bf b) with z | z
    · exact z
    · have := h2.le_iff.mp z
      rw [h1.1] at this
      omega
  have key : Ok (loopF (fun s_9 => f10_paragraphBack_b9 1 (Int32.ofNat p) (Int32.ofNat m) σ s_9.1 s_9.2) FU (Int32.ofNat m, Int32.ofNat (ends f p))) (fun r => (r = .inl () ∧ itN (pgB f bf ef) m p = 0) ∨ ∃ j, r = .inr (Int32.ofNat j) ∧ j ≤ ends f n ∧ itN (pgB f bf ef) m p = bf j) := by
    refine Ok_count (ends f p + 1) (fun i s => ∃ c, s = (Int32.ofNat (c + 1), Int32.ofNat (ends f p + 1 - i) - 1) ∧ c < 50 ∧ itN (pgB f bf ef) m p = itN (pgB f bf ef) c (posB bf (skB (fun j => decide (bf j < p) && P j) (ends f p + 1 - i)))) ?_ 0 ?_ (by omega) (by (show _ < FU; unfold FU; omega))
    · rintro i s hi ⟨c, rfl, hc, e⟩
      unfold f10_paragraphBack_b9 f10_paragraphBack_j39 f10_paragraphBack_j40
      have hjn : ends f p + 1 - i < 2147483648 := by omega
      simp only [i32_p0 hjn]
      by_cases hq : ends f p + 1 - i = 0
      · rw [if_pos hq, Ok_some, lp_inr]
        rw [hq] at e
        have e : itN (pgB f bf ef) m p = itN (pgB f bf ef) c 0 := e
        rw [hgn] at e
        exact Or.inl ⟨rfl, e⟩
      · obtain ⟨j, hj⟩ : ∃ j, ends f p + 1 - i = j + 1 := ⟨ends f p - i, by omega⟩
        have e3 : ¬ Int32.ofNat (c + 1) = 0 := by grind
        have e4 : Int32.ofNat (c + 1) - 0 = Int32.ofNat (c + 1) := by grind
        have e5 : Int32.ofNat c = 0 ↔ c = 0 := by grind
        obtain ⟨jb, jn⟩ := h.bg (show j ≤ ends f n by omega) (hbe j (by omega)).1
        have e6 : ends f p + 1 - (i + 1) = j := by omega
        rw [hj] at e
        simp only [hj, if_neg (show ¬ j + 1 = 0 by omega), i32_pred.1, h8, okr_s.mpr h9, Nat.add_sub_cancel, h10, inb_n (show j < 300 by omega) (by omega), gd_true, ofNat_clamp (show j < 2147483648 by omega), jb, i32_le (show p < 2147483648 by omega) (show bf j < 2147483648 by omega), c8_isParagraph h hbe rfl (show j ≤ ends f n by omega), bnd_some, ite_tz, stp, i32_dec, e4, if_neg e3, e5, hP]
        by_cases hpb : p ≤ bf j
        · rw [if_pos hpb, Ok_some, lp_inl]
          refine ⟨by omega, c, by rw [e6], hc, ?_⟩
          rw [e, e6, skB_skip (by rw [decide_eq_false (by omega)]; rfl)]
        · rw [if_neg hpb]
          cases hPj : P j with
          | true =>
            rw [if_pos rfl]
            rw [skB_hit (by rw [decide_eq_true (by omega), hPj]; rfl)] at e
            have e : itN (pgB f bf ef) m p = itN (pgB f bf ef) c (bf j) := e
            by_cases hc0 : c = 0
            · rw [if_pos hc0, Ok_some, lp_inr]
              subst hc0
              exact Or.inr ⟨j, rfl, by omega, e⟩
            · rw [if_neg hc0, Ok_some, lp_inl]
              obtain ⟨c', rfl⟩ : ∃ c', c = c' + 1 := ⟨c - 1, by omega⟩
              refine ⟨by omega, c', by rw [e6], by omega, ?_⟩
              rw [e, itN_f, hg, (hbe j (by omega)).1.1, e6, skB_skip (by rw [decide_eq_false (by omega)]; rfl)]
              congr 2
              refine skB_congr (fun i hi => ?_)
              have := hlt i j hi (by omega)
              rw [decide_eq_true this, decide_eq_true (by omega)]
          | false =>
            rw [if_neg (by decide), Ok_some, lp_inl]
            refine ⟨by omega, c, by rw [e6], hc, ?_⟩
            rw [e, e6, skB_skip (by rw [hPj, Bool.and_false])]
    · obtain ⟨c, rfl⟩ : ∃ c, m = c + 1 := ⟨m - 1, by omega⟩
      exact ⟨c, by rw [Nat.sub_zero, i32_pred.1], by omega, by rw [itN_f, hg]; rfl⟩
  obtain ⟨r, k1, k2⟩ := key
  unfold f10_paragraphBack
  rw [stp, c8_lineWith h rfl hp, bnd_some, stp, f10_paragraphBack_j9, k1, bnd_some]
  rcases k2 with ⟨rfl, e⟩ | ⟨j, rfl, hj, e⟩
  · rw [e]
    rfl
  · simp only [h8, okr_s.mpr h9, Nat.add_sub_cancel, h10, inb_n (show j < 300 by omega) (by omega), gd_true, ofNat_clamp (show j < 2147483648 by omega), (h.bg hj (hbe j hj).1).1, e]
end R
