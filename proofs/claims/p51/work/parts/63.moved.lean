/-! where a cursor comes to -/
def FC (σ : Sto) (L B H : Nat) (f : Nat → Int32) (n : Nat) (hd : Nat → Int32) (t : Nat) : Prop := CT σ 1 L B f n ∧ (fR σ 1 3 = H + 1 ∧ kc H = 14 ∧ ln H = 300) ∧ (∀ j, j ≤ ends f n → aI σ H j = hd j) ∧ fI σ 0 10 = Int32.ofNat t
def FM (μ : Sto) (f : Nat → Int32) (n : Nat) (hd : Nat → Int32) (t : Nat) : Prop := MT μ f n ∧ (∀ j, j < 301 → aI μ 2022 j = if j ≤ ends f n then hd j else 0) ∧ fI μ 2017 17 = Int32.ofNat t
theorem mvN.z {x : Int32} {m : Nat} (h : mvN x m) : (x = 0 ↔ m = 0) ∧ (x ≤ 0 ↔ (m = 0 ∨ ¬ 0 ≤ x)) ∧ -50 ≤ x ∧ x ≤ 50 := by
  obtain ⟨h1, ⟨h2, rfl⟩ | ⟨h2, h3, h4, h5, h6⟩⟩ := h
  · refine ⟨by grind, by grind, by grind, by grind⟩
  · refine ⟨by grind, by grind, by grind, by grind⟩
theorem itN_le {g : Nat → Nat} {n : Nat} (h : ∀ p, p ≤ n → g p ≤ n) : ∀ k p, p ≤ n → itN g k p ≤ n := by
  intro k
  induction k with
  | zero => intro p hp; exact hp
  | succ k ih => intro p hp; exact h _ (ih p hp)
theorem vL_0 {h : Nat → Int32} {E l : Nat} {x : Int32} : vL h E x 0 l = l := by
  unfold vL
  split
  · generalize E - (l + 1) = d
    cases d with
    | zero => rfl
    | succ d => rw [vF, if_pos rfl]
  · cases l with
    | zero => rfl
    | succ l => rw [vB, if_pos rfl]
theorem c12_many {μ : Sto} {n : Nat} {g : Nat → Nat} (hg : ∀ p, p ≤ n → g p ≤ n) {x0 y x : Int32} {m : Nat} (hm : m ≤ 50) (hb : ∀ q i, q ≤ n → i < m → f12_movedCursor_b120 x0 y x μ (Int32.ofNat q) (Int32.ofNat m) (Int32.ofNat i) = some (.inl (Int32.ofNat (g q), Int32.ofNat (i + 1)))) {p : Nat} (hp : p ≤ n) : f12_movedCursor_j120 x0 y x μ (Int32.ofNat p) (Int32.ofNat m) 0 = some (Int32.ofNat (itN g m p)) := by
  have key : loopF (fun s_120 => f12_movedCursor_b120 x0 y x μ s_120.1 (Int32.ofNat m) s_120.2) FU (Int32.ofNat p, 0) = some (Int32.ofNat (itN g m p)) := by
    apply Ok_eq
    refine Ok_count m (fun i s => s = (Int32.ofNat (itN g i p), Int32.ofNat i)) ?_ 0 rfl (by omega) (by (show _ < FU; unfold FU; omega))
    rintro i s hi rfl
    by_cases hq : i < m
    · rw [hb _ i (itN_le hg i p hp) hq, Ok_some, lp_inl]
      exact ⟨by omega, rfl⟩
    · unfold f12_movedCursor_b120
      have e : i = m := by omega
      rw [e]
      simp only [i32_le (show m < 2147483648 by omega) (show m < 2147483648 by omega), if_pos (Nat.le_refl m)]
      rw [Ok_some, lp_inr]
  rw [f12_movedCursor_j120, key, bnd_some]
section R
variable {L B H : Nat} {f : Nat → Int32} {n t : Nat} {hd : Nat → Int32} {bf ef : Nat → Nat}
theorem moved0 {p m : Nat} (hn : n ≤ 3000) (hp : p ≤ n) {x : Int32} (hm : mvN x m) : ∃ q, q ≤ n ∧ (∀ σ, FC σ L B H f n hd t → f11_movedPlace σ (Int32.ofNat p) 0 x = some (Int32.ofNat q)) ∧ ∀ μ, FM μ f n hd t → f12_movedCursor μ (Int32.ofNat p) 0 x = some (Int32.ofNat q) := by
  obtain ⟨z1, -, z3, z4⟩ := hm.z
  have e1 : ∃ q, q ≤ n ∧ imax 0 (imin (Int32.ofNat n) (Int32.ofNat p + x)) = Int32.ofNat q ∧ (x = 0 → q = p) := by
    obtain ⟨h1, ⟨h2, rfl⟩ | ⟨h2, h3, h4, h5, h6⟩⟩ := hm
    · refine ⟨if p + m ≤ n then p + m else n, by split <;> omega, ?_, fun z => ?_⟩
      · unfold imax imin
        by_cases h : p + m ≤ n
        · rw [if_pos h]; grind
        · rw [if_neg h]; grind
      · have := z1.mp z
        rw [if_pos (by omega)]
        omega
    · refine ⟨p - m, by omega, ?_, fun z => ?_⟩
      · unfold imax imin
        by_cases h : m ≤ p
        · have e : Int32.ofNat p = Int32.ofNat (p - m) + Int32.ofNat m := by grind
          have e2 : Int32.ofNat p + x = Int32.ofNat (p - m) := by rw [e, ← h5]; grind
          rw [e2]
          clear h4 h5 h6 e e2
          grind
        · have e : Int32.ofNat m = Int32.ofNat (m - p) + Int32.ofNat p := by grind
          have e2 : Int32.ofNat p + x = -Int32.ofNat (m - p) := by
            have : x = -Int32.ofNat m := by rw [← h5]; grind
            rw [this, e]; grind
          rw [e2, show p - m = 0 by omega]
          clear h4 h5 h6 e e2
          grind
      · have := z1.mp z
        omega
  obtain ⟨q, q1, q2, q3⟩ := e1
  refine ⟨q, q1, fun σ h => ?_, fun μ h => ?_⟩
  · unfold f11_movedPlace
    by_cases hx : x = 0
    · rw [if_pos hx, q3 hx]
    · rw [if_neg hx, if_pos (by decide), h.1.2.2.1, q2]
  · rw [f12_movedCursor, if_pos rfl, c12_less, bnd_some, c12_more, bnd_some, h.1.2.1]
    unfold imax imin at q2
    rw [← q2]
    have hsw : ∀ a b : Int32, (if a < b then a else b) = if b < a then b else a := fun a b => by grind
    rw [hsw (Int32.ofNat n) (Int32.ofNat p + x)]
theorem moved1 {p m : Nat} (hE : ends f n < 300) (h1 : 1 ≤ t) (h8 : t ≤ 8) (hbe : BE f n bf ef) (hp : p ≤ n) {x : Int32} (hm : mvN x m) : ∃ q, q ≤ n ∧ (∀ σ, FC σ L B H f n hd t → f11_movedPlace σ (Int32.ofNat p) 1 x = some (Int32.ofNat q)) ∧ ∀ μ, FM μ f n hd t → f12_movedCursor μ (Int32.ofNat p) 1 x = some (Int32.ofNat q) := by
  have hpe := ends_mono (f := f) hp
  obtain ⟨z1, -, z3, z4⟩ := hm.z
  have hv := vL_le (h := hd) (E := ends f n + 1) (x := x) (m := m) (l := ends f p) (by omega)
  obtain ⟨b1, b2, b3, b4⟩ := hbe (ends f p) hpe
  obtain ⟨v1, v2, v3, v4⟩ := hbe (vL hd (ends f n + 1) x m (ends f p)) (by omega)
  have bp : bf (ends f p) ≤ p := b1.le_iff.mpr (Nat.le_refl _)
  have pe : p ≤ ef (ends f p) := by
    obtain ⟨e, e1, e2⟩ := isEn.ex (f := f) hp rfl
    rw [b2.uniq e2]
    exact e1
  have hcw := cw_le (f := f) (b := bf (ends f p)) h1 h8 (p - bf (ends f p))
  obtain ⟨q, hq⟩ := isPl.ex (t := t) (f := f) (c := cw t f (bf (ends f p)) (p - bf (ends f p))) v3
  have hqp : vL hd (ends f n + 1) x m (ends f p) = ends f p → q = p := fun e => by
    rw [e] at hq
    exact hq.uniq (isPl.self h1 bp pe)
  refine ⟨q, Nat.le_trans hq.2.1 v2.1, fun σ h => ?_, fun μ h => ?_⟩
  · obtain ⟨c1, c2, c3, c4⟩ := h
    unfold f11_movedPlace
    by_cases hx : x = 0
    · rw [if_pos hx, hqp (by rw [z1.mp hx]; exact vL_0)]
    · rw [if_neg hx, if_neg (by decide), if_pos (by decide), c4, c10_overLines c1 c2 c3 h1 h8 rfl hp hm rfl b1 v1 v2 hq, bnd_some]
  · obtain ⟨c1, c2, c3⟩ := h
    have hn := c1.1
    rw [f12_movedCursor, if_neg (by decide), if_pos rfl, c12_lineAt c1 rfl hp, bnd_some, stp, c12_visibleFrom c1 hE c2 rfl hpe hm, bnd_some, stp]
    by_cases he : vL hd (ends f n + 1) x m (ends f p) = ends f p
    · rw [if_pos (by rw [he]), f12_movedCursor_j62, hqp he]
    · have : ¬ Int32.ofNat (vL hd (ends f n + 1) x m (ends f p)) = Int32.ofNat (ends f p) := by grind
      rw [if_neg this, c12_column c1 c3 h1 h8 rfl hp b1, bnd_some, c12_placeIn c1 c3 h1 h8 rfl (by omega) rfl (by omega) v1 v2 hq, bnd_some, f12_movedCursor_j62]
theorem moved2 {p m : Nat} (hp : p ≤ n) {x : Int32} (hm : mvN x m) : ∃ q, q ≤ n ∧ (∀ σ, FC σ L B H f n hd t → f11_movedPlace σ (Int32.ofNat p) 2 x = some (Int32.ofNat q)) ∧ ∀ μ, FM μ f n hd t → f12_movedCursor μ (Int32.ofNat p) 2 x = some (Int32.ofNat q) := by
  obtain ⟨z1, z2, z3, z4⟩ := hm.z
  obtain ⟨h1, h2⟩ := hm
  have hF : ∀ q, q ≤ n → wdF f n q ≤ n := fun q hq => wdF_le hq
  have hB : ∀ q, q ≤ n → wdB f q ≤ n := fun q hq => Nat.le_trans wdB_le hq
  refine ⟨if 0 ≤ x then itN (wdF f n) m p else itN (wdB f) m p, by split <;> exact itN_le ‹_› m p hp, fun σ h => ?_, fun μ h => ?_⟩
  · unfold f11_movedPlace
    by_cases hx : x = 0
    · have hm0 := z1.mp hx
      subst hx hm0
      rw [if_pos rfl, if_pos (by decide)]
      rfl
    · rw [if_neg hx, if_neg (by decide), if_neg (by decide), if_pos (by decide)]
      rcases h2 with ⟨h2, e⟩ | ⟨h2, h3, h4, -⟩
      · rw [if_pos h2, c10_overWordsF h.1 rfl hp e h1, bnd_some]
      · rw [if_neg h2, c10_overWordsB h.1 rfl hp h4 h1, bnd_some]
  · rw [f12_movedCursor, if_neg (by decide), if_neg (by decide), if_neg (by decide), stp]
    have hi : ∀ i, i < m → ¬ Int32.ofNat m ≤ Int32.ofNat i := fun i hi => by
      rw [i32_le (by omega) (by omega)]
      omega
    rcases h2 with ⟨h2, e⟩ | ⟨h2, h3, h4, h5, h6⟩
    · rw [if_pos h2, if_pos h2, f12_movedCursor_j115, stp, stp]
      have key := c12_many (μ := μ) (x0 := Int32.ofNat p) (y := 2) (x := x) hF h1 (fun q i hq hi' => by
        have : ¬ x ≤ 0 := by rw [z2]; rintro (z | z); omega; exact z h2
        unfold f12_movedCursor_b120 f12_movedCursor_j144 f12_movedCursor_j165
        rw [if_neg (hi i hi'), if_pos rfl, if_neg this, c12_wordF h.1 rfl hq (by decide), bnd_some, stp, stp, i32_succ]) hp
      rw [← key, ← e]
    · rw [if_neg h2, if_neg h2, f12_movedCursor_j115, stp, stp]
      have key := c12_many (μ := μ) (x0 := Int32.ofNat p) (y := 2) (x := x) hB h1 (fun q i hq hi' => by
        have : x ≤ 0 := z2.mpr (Or.inr h2)
        unfold f12_movedCursor_b120 f12_movedCursor_j144 f12_movedCursor_j165
        rw [if_neg (hi i hi'), if_pos rfl, if_pos this, c12_wordB h.1 rfl hq, bnd_some, stp, stp, i32_succ]) hp
      rw [← key, h5]
theorem moved3 {p m : Nat} (hbe : BE f n bf ef) (hp : p ≤ n) {x : Int32} (hm : mvN x m) : ∃ q, q ≤ n ∧ (∀ σ, FC σ L B H f n hd t → f11_movedPlace σ (Int32.ofNat p) 3 x = some (Int32.ofNat q)) ∧ ∀ μ, FM μ f n hd t → f12_movedCursor μ (Int32.ofNat p) 3 x = some (Int32.ofNat q) := by
  have hpe := ends_mono (f := f) hp
  obtain ⟨z1, z2, z3, z4⟩ := hm.z
  obtain ⟨b1, b2, b3, b4⟩ := hbe (ends f p) hpe
  refine ⟨if m = 0 then p else if 0 ≤ x then ef (ends f p) else bf (ends f p), ?_, fun σ h => ?_, fun μ h => ?_⟩
  · split
    · exact hp
    · split
      · exact b2.1
      · exact b4
  · unfold f11_movedPlace f11_movedPlace_j114
    by_cases hx : x = 0
    · rw [if_pos hx, if_pos (z1.mp hx)]
    · have hm0 : ¬ m = 0 := fun z => hx (z1.mpr z)
      rw [if_neg hx, if_neg (by decide), if_neg (by decide), if_neg (by decide), if_pos (by decide), if_neg hm0, c8_lineWith h.1 rfl hp, bnd_some, stp]
      by_cases h0 : 0 ≤ x
      · rw [if_pos h0, if_pos h0, c8_endOf h.1 rfl b2, bnd_some]
      · have hE := h.1.2.1
        obtain ⟨hB, -⟩ := h.1.bg hpe b1
        obtain ⟨hn, -, h3, -, ⟨h5, h6, h7⟩, ⟨h8, h9, h10⟩, hL, -⟩ := h.1
        rw [if_neg h0, if_neg h0, h8]
        simp only [okr_s.mpr h9, Nat.add_sub_cancel, h10, inb_n (show ends f p < 300 by omega) (by omega), gd_true, ofNat_clamp (show ends f p < 2147483648 by omega), hB]
  · rw [f12_movedCursor, if_neg (by decide), if_neg (by decide), if_pos rfl]
    unfold f12_movedCursor_j101
    by_cases h0 : 0 ≤ x
    · rw [if_pos h0, if_pos h0]
      by_cases hm0 : m = 0
      · rw [if_pos hm0, if_pos (z2.mpr (Or.inl hm0))]
      · have : ¬ x ≤ 0 := by rw [z2]; rintro (z | z); exact hm0 z; exact z h0
        obtain ⟨e, e1, e2⟩ := c12_endOf h.1 rfl hpe
        rw [if_neg hm0, if_neg this, c12_lineAt h.1 rfl hp, bnd_some, e2, bnd_some, e1.uniq b2]
    · have hm0 : ¬ m = 0 := fun z => h0 (by rw [z1.mpr z]; decide)
      obtain ⟨e, -, e1, e2⟩ := c12_beginOf h.1 rfl hpe
      rw [if_neg h0, if_neg h0, if_neg hm0, c12_lineAt h.1 rfl hp, bnd_some, e2, bnd_some, e1.uniq b1]
theorem moved4 {p m : Nat} (hE : ends f n < 300) (hbe : BE f n bf ef) (hp : p ≤ n) {x : Int32} (hm : mvN x m) : ∃ q, q ≤ n ∧ (∀ σ, FC σ L B H f n hd t → f11_movedPlace σ (Int32.ofNat p) 4 x = some (Int32.ofNat q)) ∧ ∀ μ, FM μ f n hd t → f12_movedCursor μ (Int32.ofNat p) 4 x = some (Int32.ofNat q) := by
  obtain ⟨z1, z2, z3, z4⟩ := hm.z
  obtain ⟨h1, h2⟩ := hm
  have hF : ∀ q, q ≤ n → pgF f n bf ef q ≤ n := fun q hq => pgF_le hbe
  have hB : ∀ q, q ≤ n → pgB f bf ef q ≤ n := fun q hq => pgB_le hbe hq
  refine ⟨if 0 ≤ x then itN (pgF f n bf ef) m p else itN (pgB f bf ef) m p, by split <;> exact itN_le ‹_› m p hp, fun σ h => ?_, fun μ h => ?_⟩
  · unfold f11_movedPlace f11_movedPlace_j141
    by_cases hx : x = 0
    · have hm0 := z1.mp hx
      subst hx hm0
      rw [if_pos rfl, if_pos (by decide)]
      rfl
    · have hm0 : 1 ≤ m := by have : ¬ m = 0 := (fun z => hx (z1.mpr z)); omega
      rw [if_neg hx, if_neg (by decide), if_neg (by decide), if_neg (by decide), if_neg (by decide)]
      rcases h2 with ⟨h2, e⟩ | ⟨h2, h3, h4, h5, h6⟩
      · rw [if_pos h2, if_pos h2, c10_paragraphForward h.1 hbe rfl hp e hm0 h1, bnd_some]
      · rw [if_neg h2, if_neg h2, c10_paragraphBack h.1 hbe rfl hp h5 hm0 h1, bnd_some]
  · rw [f12_movedCursor, if_neg (by decide), if_neg (by decide), if_neg (by decide), stp]
    have hi : ∀ i, i < m → ¬ Int32.ofNat m ≤ Int32.ofNat i := fun i hi => by
      rw [i32_le (by omega) (by omega)]
      omega
    rcases h2 with ⟨h2, e⟩ | ⟨h2, h3, h4, h5, h6⟩
    · rw [if_pos h2, if_pos h2, f12_movedCursor_j115, stp, stp]
      have key := c12_many (μ := μ) (x0 := Int32.ofNat p) (y := 4) (x := x) hF h1 (fun q i hq hi' => by
        have : ¬ x ≤ 0 := by rw [z2]; rintro (z | z); omega; exact z h2
        unfold f12_movedCursor_b120 f12_movedCursor_j162 f12_movedCursor_j165
        rw [if_neg (hi i hi'), if_neg (by decide), if_neg this, c12_paragraphFrom h.1 hE hbe rfl hq, bnd_some, if_neg (by decide), stp, stp, i32_succ]) hp
      rw [← key, ← e]
    · rw [if_neg h2, if_neg h2, f12_movedCursor_j115, stp, stp]
      have key := c12_many (μ := μ) (x0 := Int32.ofNat p) (y := 4) (x := x) hB h1 (fun q i hq hi' => by
        have : x ≤ 0 := z2.mpr (Or.inr h2)
        unfold f12_movedCursor_b120 f12_movedCursor_j162 f12_movedCursor_j165
        rw [if_neg (hi i hi'), if_neg (by decide), if_pos this, c12_paragraphFrom h.1 hE hbe rfl hq, bnd_some, if_pos rfl, stp, stp, i32_succ]) hp
      rw [← key, h5]
theorem moved {p m : Nat} (hn : n ≤ 3000) (hE : ends f n < 300) (h1 : 1 ≤ t) (h8 : t ≤ 8) (hp : p ≤ n) {y x : Int32} (hy : 0 ≤ y ∧ y ≤ 4) (hm : mvN x m) : ∃ q, q ≤ n ∧ (∀ σ, FC σ L B H f n hd t → f11_movedPlace σ (Int32.ofNat p) y x = some (Int32.ofNat q)) ∧ ∀ μ, FM μ f n hd t → f12_movedCursor μ (Int32.ofNat p) y x = some (Int32.ofNat q) := by
  obtain ⟨bf, ef, hbe⟩ := lines_fn f n
  have : y = 0 ∨ y = 1 ∨ y = 2 ∨ y = 3 ∨ y = 4 := by
    obtain ⟨w, w1, rfl⟩ := of_range (n := 4) hy (by omega)
    rcases (show w = 0 ∨ w = 1 ∨ w = 2 ∨ w = 3 ∨ w = 4 by omega) with rfl | rfl | rfl | rfl | rfl <;> decide
  rcases this with rfl | rfl | rfl | rfl | rfl
  · exact moved0 hn hp hm
  · exact moved1 hE h1 h8 hbe hp hm
  · exact moved2 hp hm
  · exact moved3 hbe hp hm
  · exact moved4 hE hbe hp hm
end R
